def w_X12_keystone_16 (K16 : Int32 × Int32 × Int32 × Sto → Prop) (x1 : Int32) (x2 : Int32) (x3 : Int32) (σ : Sto) (P : Int32 → Sto → Prop) : Prop :=
  (if (gi σ 106 0) ≤ x3 then (if 0 ≤ x1 then P x1 σ else w_X12_refuse 8 σ (fun r_4 σ_3 => P r_4 σ_3)) else w_X12_now σ (fun r_6 σ_5 => w_X12_has r_6 x3 σ_5 (fun r_8 σ_7 => (if r_8 = 0 then ∀ x3_22 : Int32, x3_22 = x3 + 1 → K16 (x1, x2, x3_22, σ_7) else w_X12_fallsWith x3 σ_7 (fun r_11 σ_10 => w_X12_worthOf r_11 σ_10 (fun r_13 σ_12 => (if x1 < 0 then ∀ x3_15 : Int32, x3_15 = x3 + 1 → K16 (x3, r_13, x3_15, σ_12) else (if x2 < r_13 then ∀ x3_18 : Int32, x3_18 = x3 + 1 → K16 (x3, r_13, x3_18, σ_12) else ∀ x3_20 : Int32, x3_20 = x3 + 1 → K16 (x1, x2, x3_20, σ_12)))))))))
theorem s_X12_keystone_16 {B : Nat} {E : Nat → List (Nat × Value) → List Value → Sto → Prop} {P : Int32 → Sto → Prop} (C : Cy B E RX12 cX12_keystone 5 (some .int) 5 110 (Zm (QFi P))) (x1 : Int32) (x2 : Int32) (x3 : Int32) (K16 : Int32 × Int32 × Int32 × Sto → Prop) (hK16 : ∀ (x1 : Int32) (x2 : Int32) (x3 : Int32) (σ : Sto), K16 (x1, x2, x3, σ) → E 16 [(0, .ref (B + 101)), (1, .int x1), (2, .int x2), (3, .int x3)] [] σ) (σ : Sto) (h : w_X12_keystone_16 K16 x1 x2 x3 σ P) : E 16 [(0, .ref (B + 101)), (1, .int x1), (2, .int x2), (3, .int x3)] [] σ := by
  unfold w_X12_keystone_16 at h
  refine f_iload_n C (j := 3) dX12_keystone_16 rfl rfl rfl ?_
  refine f_aload_n C (j := 0) dX12_keystone_17 rfl rfl rfl ?_
  refine f_getc C tF_X12_35 rfl o101 cs101_20 (by decide) dX12_keystone_18 rfl ?_
  refine f_iconst C (v := 0) dX12_keystone_21 kc0 rfl ?_
  refine f_iald C (j := 0) a106 (vp_lit (by decide)) rfl dX12_keystone_22 rfl ?_
  refine f_icmp_ge C (t := 75) dX12_keystone_23 (by decide) rfl (fun hq_1 => ?_) (fun hq_1 => ?_)
  · replace h := Eq.mp (if_pos hq_1) h
    refine f_iload_n C (j := 1) dX12_keystone_75 rfl rfl rfl ?_
    refine f_if_ge C (t := 88) dX12_keystone_76 (by decide) rfl (fun hq_2 => ?_) (fun hq_2 => ?_)
    · replace h := Eq.mp (if_pos hq_2) h
      refine f_iload_n C (j := 1) dX12_keystone_88 rfl rfl rfl ?_
      exact f_iret C dX12_keystone_89 h
    · replace h := Eq.mp (if_neg hq_2) h
      refine f_aload_n C (j := 0) dX12_keystone_79 rfl rfl rfl ?_
      refine f_bipush C (v := 8) dX12_keystone_80 kb8 rfl ?_
      refine f_callVi C (a := 101) (ci := 12) (As := fun B => [.int 8]) o101 rfl (c_X12_refuse  _ _ _ h) tM_X12_327 tI_X12_refuse tS_X12_refuse tN_X12 tC_X12_refuse 1 dd_X12_refuse rfl (by decide) (by decide) rfl (Nat.le_of_ble_eq_true rfl) dX12_keystone_82 rfl (fun r_4 σ_3 h => ?_)
      refine f_goto C (t := 89) dX12_keystone_85 (by decide) ?_
      exact f_iret C dX12_keystone_89 h
  · replace h := Eq.mp (if_neg hq_1) h
    refine f_aload_n C (j := 0) dX12_keystone_26 rfl rfl rfl ?_
    refine f_callVi C (a := 101) (ci := 12) (As := fun B => []) o101 rfl (c_X12_now   _ _ h) tM_X12_330 tI_X12_now tS_X12_now tN_X12 tC_X12_now 0 dd_X12_now rfl (by decide) (by decide) rfl (Nat.le_of_ble_eq_true rfl) dX12_keystone_27 rfl (fun r_6 σ_5 h => ?_)
    refine f_iload_n C (j := 3) dX12_keystone_30 rfl rfl rfl ?_
    refine f_callSi C (As := fun B => [.int r_6, .int x3]) (c_X12_has  _ _ _ _ h) tM_X12_113 tT_X12_has tN_X12 tC_X12_has 2 dd_X12_has rfl (by decide) (by decide) rfl (Nat.le_of_ble_eq_true rfl) dX12_keystone_31 rfl (fun r_8 σ_7 h => ?_)
    refine f_if_ne C (t := 40) dX12_keystone_34 (by decide) rfl (fun hq_9 => ?_) (fun hq_9 => ?_)
    · replace h := Eq.mp (if_neg hq_9) h
      refine f_aload_n C (j := 0) dX12_keystone_40 rfl rfl rfl ?_
      refine f_aload_n C (j := 0) dX12_keystone_41 rfl rfl rfl ?_
      refine f_iload_n C (j := 3) dX12_keystone_42 rfl rfl rfl ?_
      refine f_callVi C (a := 101) (ci := 12) (As := fun B => [.int x3]) o101 rfl (c_X12_fallsWith  _ _ _ h) tM_X12_388 tI_X12_fallsWith tS_X12_fallsWith tN_X12 tC_X12_fallsWith 1 dd_X12_fallsWith rfl (by decide) (by decide) rfl (Nat.le_of_ble_eq_true rfl) dX12_keystone_43 rfl (fun r_11 σ_10 h => ?_)
      refine f_callVi C (a := 101) (ci := 12) (As := fun B => [.int r_11]) o101 rfl (c_X12_worthOf  _ _ _ h) tM_X12_336 tI_X12_worthOf tS_X12_worthOf tN_X12 tC_X12_worthOf 1 dd_X12_worthOf rfl (by decide) (by decide) rfl (Nat.le_of_ble_eq_true rfl) dX12_keystone_46 rfl (fun r_13 σ_12 h => ?_)
      refine f_istore C (lv2 := [(4, .int r_13), (0, .ref (B + 101)), (1, .int x1), (2, .int x2), (3, .int x3)]) dX12_keystone_49 (by decide) rfl rfl ?_
      refine f_iload_n C (j := 2) dX12_keystone_51 rfl rfl rfl ?_
      refine f_if_lt C (t := 64) dX12_keystone_52 (by decide) rfl (fun hq_14 => ?_) (fun hq_14 => ?_)
      · replace h := Eq.mp (if_pos hq_14) h
        refine f_iload_n C (j := 4) dX12_keystone_64 rfl rfl rfl ?_
        refine f_istore_n C (lv2 := [(1, .int x3), (4, .int r_13), (0, .ref (B + 101)), (2, .int x2), (3, .int x3)]) dX12_keystone_65 rfl (by decide) rfl rfl ?_
        refine f_iload C (j := 1) dX12_keystone_66 rfl rfl ?_
        refine f_istore_n C (lv2 := [(2, .int r_13), (1, .int x3), (4, .int r_13), (0, .ref (B + 101)), (3, .int x3)]) dX12_keystone_68 rfl (by decide) rfl rfl ?_
        obtain ⟨x3_15, hx_16⟩ : ∃ y : Int32, y = x3 + 1 := ⟨_, rfl⟩
        replace h := h x3_15 hx_16
        refine f_iinc C (j := 4) (v := x3_15) (lv2 := [(3, .int x3_15), (2, .int r_13), (1, .int x3), (4, .int r_13), (0, .ref (B + 101))]) dX12_keystone_69 rfl hx_16.symm (by decide) rfl rfl ?_
        refine f_goto C (t := 16) dX12_keystone_72 (by decide) ?_
        refine f_lv C (lv2 := [(0, .ref (B + 101)), (1, .int x3), (2, .int r_13), (3, .int x3_15)]) [4, 2, 1, 0] rfl ?_
        exact hK16 _ _ _ _ h
      · replace h := Eq.mp (if_neg hq_14) h
        refine f_iload C (j := 0) dX12_keystone_55 rfl rfl ?_
        refine f_iload_n C (j := 3) dX12_keystone_57 rfl rfl rfl ?_
        refine f_icmp_gt C (t := 64) dX12_keystone_58 (by decide) rfl (fun hq_17 => ?_) (fun hq_17 => ?_)
        · replace h := Eq.mp (if_pos hq_17) h
          refine f_iload_n C (j := 4) dX12_keystone_64 rfl rfl rfl ?_
          refine f_istore_n C (lv2 := [(1, .int x3), (4, .int r_13), (0, .ref (B + 101)), (2, .int x2), (3, .int x3)]) dX12_keystone_65 rfl (by decide) rfl rfl ?_
          refine f_iload C (j := 1) dX12_keystone_66 rfl rfl ?_
          refine f_istore_n C (lv2 := [(2, .int r_13), (1, .int x3), (4, .int r_13), (0, .ref (B + 101)), (3, .int x3)]) dX12_keystone_68 rfl (by decide) rfl rfl ?_
          obtain ⟨x3_18, hx_19⟩ : ∃ y : Int32, y = x3 + 1 := ⟨_, rfl⟩
          replace h := h x3_18 hx_19
          refine f_iinc C (j := 4) (v := x3_18) (lv2 := [(3, .int x3_18), (2, .int r_13), (1, .int x3), (4, .int r_13), (0, .ref (B + 101))]) dX12_keystone_69 rfl hx_19.symm (by decide) rfl rfl ?_
          refine f_goto C (t := 16) dX12_keystone_72 (by decide) ?_
          refine f_lv C (lv2 := [(0, .ref (B + 101)), (1, .int x3), (2, .int r_13), (3, .int x3_18)]) [4, 2, 1, 0] rfl ?_
          exact hK16 _ _ _ _ h
        · replace h := Eq.mp (if_neg hq_17) h
          refine f_goto C (t := 69) dX12_keystone_61 (by decide) ?_
          obtain ⟨x3_20, hx_21⟩ : ∃ y : Int32, y = x3 + 1 := ⟨_, rfl⟩
          replace h := h x3_20 hx_21
          refine f_iinc C (j := 4) (v := x3_20) (lv2 := [(3, .int x3_20), (4, .int r_13), (0, .ref (B + 101)), (1, .int x1), (2, .int x2)]) dX12_keystone_69 rfl hx_21.symm (by decide) rfl rfl ?_
          refine f_goto C (t := 16) dX12_keystone_72 (by decide) ?_
          refine f_lv C (lv2 := [(0, .ref (B + 101)), (1, .int x1), (2, .int x2), (3, .int x3_20)]) [2, 3, 4, 0] rfl ?_
          exact hK16 _ _ _ _ h
    · replace h := Eq.mp (if_pos hq_9) h
      refine f_goto C (t := 69) dX12_keystone_37 (by decide) ?_
      obtain ⟨x3_22, hx_23⟩ : ∃ y : Int32, y = x3 + 1 := ⟨_, rfl⟩
      replace h := h x3_22 hx_23
      refine f_iinc C (j := 3) (v := x3_22) (lv2 := [(3, .int x3_22), (0, .ref (B + 101)), (1, .int x1), (2, .int x2)]) dX12_keystone_69 rfl hx_23.symm (by decide) rfl rfl ?_
      refine f_goto C (t := 16) dX12_keystone_72 (by decide) ?_
      refine f_lv C (lv2 := [(0, .ref (B + 101)), (1, .int x1), (2, .int x2), (3, .int x3_22)]) [1, 2, 3, 0] rfl ?_
      exact hK16 _ _ _ _ h
def w_X12_keystone (σ : Sto) (P : Int32 → Sto → Prop) : Prop :=
  Lp (fun (K : Int32 × Int32 × Int32 × Sto → Prop) s => w_X12_keystone_16 K s.1 s.2.1 s.2.2.1 s.2.2.2 P) ((-1), 0, 0, si (si σ 101 1 0) 101 0 0)
theorem s_X12_keystone {B : Nat} {E : Nat → List (Nat × Value) → List Value → Sto → Prop} {P : Int32 → Sto → Prop} (C : Cy B E RX12 cX12_keystone 5 (some .int) 5 110 (Zm (QFi P))) (σ : Sto) (h : w_X12_keystone σ P) : E 0 [(0, .ref (B + 101))] [] σ := by
  unfold w_X12_keystone at h
  refine f_aload_n C (j := 0) dX12_keystone_0 rfl rfl rfl ?_
  refine f_iconst C (v := 0) dX12_keystone_1 kc0 rfl ?_
  refine f_puti C tF_X12_74 fm_12_1 rfl o101 dX12_keystone_2 rfl ?_
  refine f_aload_n C (j := 0) dX12_keystone_5 rfl rfl rfl ?_
  refine f_iconst C (v := 0) dX12_keystone_6 kc0 rfl ?_
  refine f_puti C tF_X12_77 fm_12_0 rfl o101 dX12_keystone_7 rfl ?_
  refine f_iconst C (v := (-1)) dX12_keystone_10 kcm1 rfl ?_
  refine f_istore_n C (lv2 := [(1, .int (-1)), (0, .ref (B + 101))]) dX12_keystone_11 rfl (by decide) rfl rfl ?_
  refine f_iconst C (v := 0) dX12_keystone_12 kc0 rfl ?_
  refine f_istore_n C (lv2 := [(2, .int 0), (1, .int (-1)), (0, .ref (B + 101))]) dX12_keystone_13 rfl (by decide) rfl rfl ?_
  refine f_iconst C (v := 0) dX12_keystone_14 kc0 rfl ?_
  refine f_istore_n C (lv2 := [(3, .int 0), (2, .int 0), (1, .int (-1)), (0, .ref (B + 101))]) dX12_keystone_15 rfl (by decide) rfl rfl ?_
  refine f_lv C (lv2 := [(0, .ref (B + 101)), (1, .int (-1)), (2, .int 0), (3, .int 0)]) [3, 2, 1, 0] rfl ?_
  exact Lp_sound (fun s : Int32 × Int32 × Int32 × Sto => E 16 [(0, .ref (B + 101)), (1, .int s.1), (2, .int s.2.1), (3, .int s.2.2.1)] [] s.2.2.2) h (fun K s hK h => s_X12_keystone_16 C s.1 s.2.1 s.2.2.1 K (fun x1 x2 x3 σ hk => hK (x1, x2, x3, σ) hk) s.2.2.2 h)
theorem c_X12_keystone (σ : Sto) (P : Int32 → Sto → Prop) (h : w_X12_keystone σ P) : Ct yX12_keystone cX12_keystone 5 (some .int) 5 110 (fun B => [.ref (B + 101)]) σ (QFi P) := Ct.of (by decide) (fun _ => Nat.le_of_ble_eq_true rfl) (fun B E C => s_X12_keystone C σ h)
def w_X12_after (x1 : Int32) (x2 : Int32) (σ : Sto) (P : Int32 → Sto → Prop) : Prop :=
  w_X12_voted x1 x2 σ (fun r_2 σ_1 => (if 0 ≤ r_2 then P (x1 ||| (1 <<< (r_2 &&& 31))) σ_1 else P x1 σ_1))
theorem s_X12_after {B : Nat} {E : Nat → List (Nat × Value) → List Value → Sto → Prop} {P : Int32 → Sto → Prop} (C : Cy B E RX12 cX12_after 4 (some .int) 5 118 (Zm (QFi P))) (x1 : Int32) (x2 : Int32) (σ : Sto) (h : w_X12_after x1 x2 σ P) : E 0 [(0, .ref (B + 101)), (1, .int x1), (2, .int x2)] [] σ := by
  unfold w_X12_after at h
  refine f_aload_n C (j := 0) dX12_after_0 rfl rfl rfl ?_
  refine f_iload_n C (j := 1) dX12_after_1 rfl rfl rfl ?_
  refine f_iload_n C (j := 2) dX12_after_2 rfl rfl rfl ?_
  refine f_callVi C (a := 101) (ci := 12) (As := fun B => [.int x1, .int x2]) o101 rfl (c_X12_voted  _ _ _ _ h) tM_X12_367 tI_X12_voted tS_X12_voted tN_X12 tC_X12_voted 2 dd_X12_voted rfl (by decide) (by decide) rfl (Nat.le_of_ble_eq_true rfl) dX12_after_3 rfl (fun r_2 σ_1 h => ?_)
  refine f_istore_n C (lv2 := [(3, .int r_2), (0, .ref (B + 101)), (1, .int x1), (2, .int x2)]) dX12_after_6 rfl (by decide) rfl rfl ?_
  refine f_iload_n C (j := 0) dX12_after_7 rfl rfl rfl ?_
  refine f_if_ge C (t := 15) dX12_after_8 (by decide) rfl (fun hq_3 => ?_) (fun hq_3 => ?_)
  · replace h := Eq.mp (if_pos hq_3) h
    refine f_iload_n C (j := 2) dX12_after_15 rfl rfl rfl ?_
    refine f_iconst C (v := 1) dX12_after_16 kc1 rfl ?_
    refine f_iload_n C (j := 0) dX12_after_17 rfl rfl rfl ?_
    refine f_ishl C dX12_after_18 rfl ?_
    refine f_ior C dX12_after_19 rfl ?_
    exact f_iret C dX12_after_20 h
  · replace h := Eq.mp (if_neg hq_3) h
    refine f_iload_n C (j := 2) dX12_after_11 rfl rfl rfl ?_
    refine f_goto C (t := 20) dX12_after_12 (by decide) ?_
    exact f_iret C dX12_after_20 h
theorem c_X12_after (x1 : Int32) (x2 : Int32) (σ : Sto) (P : Int32 → Sto → Prop) (h : w_X12_after x1 x2 σ P) : Ct yX12_after cX12_after 4 (some .int) 5 118 (fun B => [.ref (B + 101), .int x1, .int x2]) σ (QFi P) := Ct.of (by decide) (fun _ => Nat.le_of_ble_eq_true rfl) (fun B E C => s_X12_after C x1 x2 σ h)
def w_X12_yearWithout_10 (K10 : Int32 × Int32 × Sto → Prop) (x1 : Int32) (x2 : Int32) (x3 : Int32) (σ : Sto) (P : Int32 → Sto → Prop) : Prop :=
  (if 99 < x3 then P (-1) σ else w_X12_standing x2 σ (fun r_5 σ_4 => (if (x1 &&& (~~~r_5)) = 0 then w_X12_after x2 (gi σ_4 106 7) σ_4 (fun r_8 σ_7 => ∀ x3_9 : Int32, x3_9 = x3 + 1 → K10 (r_8, x3_9, σ_7)) else P x3 σ_4)))
theorem s_X12_yearWithout_10 {B : Nat} {E : Nat → List (Nat × Value) → List Value → Sto → Prop} {P : Int32 → Sto → Prop} (C : Cy B E RX12 cX12_yearWithout 4 (some .int) 6 141 (Zm (QFi P))) (x1 : Int32) (x2 : Int32) (x3 : Int32) (K10 : Int32 × Int32 × Sto → Prop) (hK10 : ∀ (x2 : Int32) (x3 : Int32) (σ : Sto), K10 (x2, x3, σ) → E 10 [(0, .ref (B + 101)), (1, .int x1), (2, .int x2), (3, .int x3)] [] σ) (σ : Sto) (h : w_X12_yearWithout_10 K10 x1 x2 x3 σ P) : E 10 [(0, .ref (B + 101)), (1, .int x1), (2, .int x2), (3, .int x3)] [] σ := by
  unfold w_X12_yearWithout_10 at h
  refine f_iload_n C (j := 3) dX12_yearWithout_10 rfl rfl rfl ?_
  refine f_bipush C (v := 99) dX12_yearWithout_11 kb99 rfl ?_
  refine f_icmp_gt C (t := 49) dX12_yearWithout_13 (by decide) rfl (fun hq_3 => ?_) (fun hq_3 => ?_)
  · replace h := Eq.mp (if_pos hq_3) h
    refine f_iconst C (v := (-1)) dX12_yearWithout_49 kcm1 rfl ?_
    exact f_iret C dX12_yearWithout_50 h
  · replace h := Eq.mp (if_neg hq_3) h
    refine f_iload_n C (j := 1) dX12_yearWithout_16 rfl rfl rfl ?_
    refine f_aload_n C (j := 0) dX12_yearWithout_17 rfl rfl rfl ?_
    refine f_iload_n C (j := 2) dX12_yearWithout_18 rfl rfl rfl ?_
    refine f_callVi C (a := 101) (ci := 12) (As := fun B => [.int x2]) o101 rfl (c_X12_standing  _ _ _ h) tM_X12_322 tI_X12_standing tS_X12_standing tN_X12 tC_X12_standing 1 dd_X12_standing rfl (by decide) (by decide) rfl (Nat.le_of_ble_eq_true rfl) dX12_yearWithout_19 rfl (fun r_5 σ_4 h => ?_)
    refine f_iconst C (v := (-1)) dX12_yearWithout_22 kcm1 rfl ?_
    refine f_inot C dX12_yearWithout_23 rfl ?_
    refine f_iand C dX12_yearWithout_24 rfl ?_
    refine f_if_eq C (t := 30) dX12_yearWithout_25 (by decide) rfl (fun hq_6 => ?_) (fun hq_6 => ?_)
    · replace h := Eq.mp (if_pos hq_6) h
      refine f_aload_n C (j := 0) dX12_yearWithout_30 rfl rfl rfl ?_
      refine f_iload_n C (j := 2) dX12_yearWithout_31 rfl rfl rfl ?_
      refine f_aload_n C (j := 0) dX12_yearWithout_32 rfl rfl rfl ?_
      refine f_getc C tF_X12_35 rfl o101 cs101_20 (by decide) dX12_yearWithout_33 rfl ?_
      refine f_bipush C (v := 7) dX12_yearWithout_36 kb7 rfl ?_
      refine f_iald C (j := 7) a106 (vp_lit (by decide)) rfl dX12_yearWithout_38 rfl ?_
      refine f_callVi C (a := 101) (ci := 12) (As := fun B => [.int x2, .int (gi σ_4 106 7)]) o101 rfl (c_X12_after  _ _ _ _ h) tM_X12_391 tI_X12_after tS_X12_after tN_X12 tC_X12_after 2 dd_X12_after rfl (by decide) (by decide) rfl (Nat.le_of_ble_eq_true rfl) dX12_yearWithout_39 rfl (fun r_8 σ_7 h => ?_)
      refine f_istore_n C (lv2 := [(2, .int r_8), (0, .ref (B + 101)), (1, .int x1), (3, .int x3)]) dX12_yearWithout_42 rfl (by decide) rfl rfl ?_
      obtain ⟨x3_9, hx_10⟩ : ∃ y : Int32, y = x3 + 1 := ⟨_, rfl⟩
      replace h := h x3_9 hx_10
      refine f_iinc C (j := 3) (v := x3_9) (lv2 := [(3, .int x3_9), (2, .int r_8), (0, .ref (B + 101)), (1, .int x1)]) dX12_yearWithout_43 rfl hx_10.symm (by decide) rfl rfl ?_
      refine f_goto C (t := 10) dX12_yearWithout_46 (by decide) ?_
      refine f_lv C (lv2 := [(0, .ref (B + 101)), (1, .int x1), (2, .int r_8), (3, .int x3_9)]) [2, 3, 1, 0] rfl ?_
      exact hK10 _ _ _ h
    · replace h := Eq.mp (if_neg hq_6) h
      refine f_iload_n C (j := 3) dX12_yearWithout_28 rfl rfl rfl ?_
      exact f_iret C dX12_yearWithout_29 h
def w_X12_yearWithout (x1 : Int32) (σ : Sto) (P : Int32 → Sto → Prop) : Prop :=
  ∀ x2_1 : Int32, x2_1 = gi σ 106 6 → Lp (fun (K : Int32 × Int32 × Sto → Prop) s => w_X12_yearWithout_10 K x1 s.1 s.2.1 s.2.2 P) (x2_1, 0, σ)
theorem s_X12_yearWithout {B : Nat} {E : Nat → List (Nat × Value) → List Value → Sto → Prop} {P : Int32 → Sto → Prop} (C : Cy B E RX12 cX12_yearWithout 4 (some .int) 6 141 (Zm (QFi P))) (x1 : Int32) (σ : Sto) (h : w_X12_yearWithout x1 σ P) : E 0 [(0, .ref (B + 101)), (1, .int x1)] [] σ := by
  unfold w_X12_yearWithout at h
  refine f_aload_n C (j := 0) dX12_yearWithout_0 rfl rfl rfl ?_
  refine f_getc C tF_X12_35 rfl o101 cs101_20 (by decide) dX12_yearWithout_1 rfl ?_
  refine f_bipush C (v := 6) dX12_yearWithout_4 kb6 rfl ?_
  refine f_iald C (j := 6) a106 (vp_lit (by decide)) rfl dX12_yearWithout_6 rfl ?_
  refine f_name (fun x2_1 hx_2 => ?_)
  replace h := h x2_1 hx_2
  refine f_istore_n C (lv2 := [(2, .int x2_1), (0, .ref (B + 101)), (1, .int x1)]) dX12_yearWithout_7 rfl (by decide) rfl rfl ?_
  refine f_iconst C (v := 0) dX12_yearWithout_8 kc0 rfl ?_
  refine f_istore_n C (lv2 := [(3, .int 0), (2, .int x2_1), (0, .ref (B + 101)), (1, .int x1)]) dX12_yearWithout_9 rfl (by decide) rfl rfl ?_
  refine f_lv C (lv2 := [(0, .ref (B + 101)), (1, .int x1), (2, .int x2_1), (3, .int 0)]) [2, 3, 1, 0] rfl ?_
  exact Lp_sound (fun s : Int32 × Int32 × Sto => E 10 [(0, .ref (B + 101)), (1, .int x1), (2, .int s.1), (3, .int s.2.1)] [] s.2.2) h (fun K s hK h => s_X12_yearWithout_10 C x1 s.1 s.2.1 K (fun x2 x3 σ hk => hK (x2, x3, σ) hk) s.2.2 h)
theorem c_X12_yearWithout (x1 : Int32) (σ : Sto) (P : Int32 → Sto → Prop) (h : w_X12_yearWithout x1 σ P) : Ct yX12_yearWithout cX12_yearWithout 4 (some .int) 6 141 (fun B => [.ref (B + 101), .int x1]) σ (QFi P) := Ct.of (by decide) (fun _ => Nat.le_of_ble_eq_true rfl) (fun B E C => s_X12_yearWithout C x1 σ h)
def w_X12_goneBy (x1 : Int32) (σ : Sto) (P : Int32 → Sto → Prop) : Prop :=
  w_X12_isThingAt x1 (si (si σ 101 1 0) 101 0 0) (fun r_2 σ_1 => (if r_2 = 0 then w_X12_refuse 2 σ_1 (fun r_10 σ_9 => P r_10 σ_9) else w_X12_yearWithout (1 <<< (x1 &&& 31)) σ_1 (fun r_5 σ_4 => (if 0 ≤ r_5 then P r_5 σ_4 else w_X12_refuse 8 σ_4 (fun r_8 σ_7 => P r_8 σ_7)))))
theorem s_X12_goneBy {B : Nat} {E : Nat → List (Nat × Value) → List Value → Sto → Prop} {P : Int32 → Sto → Prop} (C : Cy B E RX12 cX12_goneBy 3 (some .int) 7 164 (Zm (QFi P))) (x1 : Int32) (σ : Sto) (h : w_X12_goneBy x1 σ P) : E 0 [(0, .ref (B + 101)), (1, .int x1)] [] σ := by
  unfold w_X12_goneBy at h
  refine f_aload_n C (j := 0) dX12_goneBy_0 rfl rfl rfl ?_
  refine f_iconst C (v := 0) dX12_goneBy_1 kc0 rfl ?_
  refine f_puti C tF_X12_74 fm_12_1 rfl o101 dX12_goneBy_2 rfl ?_
  refine f_aload_n C (j := 0) dX12_goneBy_5 rfl rfl rfl ?_
  refine f_iconst C (v := 0) dX12_goneBy_6 kc0 rfl ?_
  refine f_puti C tF_X12_77 fm_12_0 rfl o101 dX12_goneBy_7 rfl ?_
  refine f_aload_n C (j := 0) dX12_goneBy_10 rfl rfl rfl ?_
  refine f_iload_n C (j := 1) dX12_goneBy_11 rfl rfl rfl ?_
  refine f_callVi C (a := 101) (ci := 12) (As := fun B => [.int x1]) o101 rfl (c_X12_isThingAt  _ _ _ h) tM_X12_339 tI_X12_isThingAt tS_X12_isThingAt tN_X12 tC_X12_isThingAt 1 dd_X12_isThingAt rfl (by decide) (by decide) rfl (Nat.le_of_ble_eq_true rfl) dX12_goneBy_12 rfl (fun r_2 σ_1 h => ?_)
  refine f_if_ne C (t := 24) dX12_goneBy_15 (by decide) rfl (fun hq_3 => ?_) (fun hq_3 => ?_)
  · replace h := Eq.mp (if_neg hq_3) h
    refine f_aload_n C (j := 0) dX12_goneBy_24 rfl rfl rfl ?_
    refine f_iconst C (v := 1) dX12_goneBy_25 kc1 rfl ?_
    refine f_iload_n C (j := 1) dX12_goneBy_26 rfl rfl rfl ?_
    refine f_ishl C dX12_goneBy_27 rfl ?_
    refine f_callVi C (a := 101) (ci := 12) (As := fun B => [.int (1 <<< (x1 &&& 31))]) o101 rfl (c_X12_yearWithout  _ _ _ h) tM_X12_394 tI_X12_yearWithout tS_X12_yearWithout tN_X12 tC_X12_yearWithout 1 dd_X12_yearWithout rfl (by decide) (by decide) rfl (Nat.le_of_ble_eq_true rfl) dX12_goneBy_28 rfl (fun r_5 σ_4 h => ?_)
    refine f_istore_n C (lv2 := [(2, .int r_5), (0, .ref (B + 101)), (1, .int x1)]) dX12_goneBy_31 rfl (by decide) rfl rfl ?_
    refine f_iload_n C (j := 0) dX12_goneBy_32 rfl rfl rfl ?_
    refine f_if_ge C (t := 45) dX12_goneBy_33 (by decide) rfl (fun hq_6 => ?_) (fun hq_6 => ?_)
    · replace h := Eq.mp (if_pos hq_6) h
      refine f_iload_n C (j := 0) dX12_goneBy_45 rfl rfl rfl ?_
      exact f_iret C dX12_goneBy_46 h
    · replace h := Eq.mp (if_neg hq_6) h
      refine f_aload_n C (j := 1) dX12_goneBy_36 rfl rfl rfl ?_
      refine f_bipush C (v := 8) dX12_goneBy_37 kb8 rfl ?_
      refine f_callVi C (a := 101) (ci := 12) (As := fun B => [.int 8]) o101 rfl (c_X12_refuse  _ _ _ h) tM_X12_327 tI_X12_refuse tS_X12_refuse tN_X12 tC_X12_refuse 1 dd_X12_refuse rfl (by decide) (by decide) rfl (Nat.le_of_ble_eq_true rfl) dX12_goneBy_39 rfl (fun r_8 σ_7 h => ?_)
      refine f_goto C (t := 46) dX12_goneBy_42 (by decide) ?_
      exact f_iret C dX12_goneBy_46 h
  · replace h := Eq.mp (if_pos hq_3) h
    refine f_aload_n C (j := 0) dX12_goneBy_18 rfl rfl rfl ?_
    refine f_iconst C (v := 2) dX12_goneBy_19 kc2 rfl ?_
    refine f_callVi C (a := 101) (ci := 12) (As := fun B => [.int 2]) o101 rfl (c_X12_refuse  _ _ _ h) tM_X12_327 tI_X12_refuse tS_X12_refuse tN_X12 tC_X12_refuse 1 dd_X12_refuse rfl (by decide) (by decide) rfl (Nat.le_of_ble_eq_true rfl) dX12_goneBy_20 rfl (fun r_10 σ_9 h => ?_)
    exact f_iret C dX12_goneBy_23 h
theorem c_X12_goneBy (x1 : Int32) (σ : Sto) (P : Int32 → Sto → Prop) (h : w_X12_goneBy x1 σ P) : Ct yX12_goneBy cX12_goneBy 3 (some .int) 7 164 (fun B => [.ref (B + 101), .int x1]) σ (QFi P) := Ct.of (by decide) (fun _ => Nat.le_of_ble_eq_true rfl) (fun B E C => s_X12_goneBy C x1 σ h)
def w_X12_ends (x1 : Int32) (σ : Sto) (P : Int32 → Sto → Prop) : Prop :=
  w_X12_isWorkAt x1 (si (si σ 101 1 0) 101 0 0) (fun r_2 σ_1 => (if r_2 = 0 then w_X12_refuse 2 σ_1 (fun r_11 σ_10 => P r_11 σ_10) else vp_in (52 + x1) 2105 ∧ w_X12_yearWithout (gi σ_1 106 (tn (52 + x1))) σ_1 (fun r_6 σ_5 => (if 0 ≤ r_6 then P r_6 σ_5 else w_X12_refuse 8 σ_5 (fun r_9 σ_8 => P r_9 σ_8)))))
theorem s_X12_ends {B : Nat} {E : Nat → List (Nat × Value) → List Value → Sto → Prop} {P : Int32 → Sto → Prop} (C : Cy B E RX12 cX12_ends 3 (some .int) 7 164 (Zm (QFi P))) (x1 : Int32) (σ : Sto) (h : w_X12_ends x1 σ P) : E 0 [(0, .ref (B + 101)), (1, .int x1)] [] σ := by
  unfold w_X12_ends at h
  refine f_aload_n C (j := 0) dX12_ends_0 rfl rfl rfl ?_
  refine f_iconst C (v := 0) dX12_ends_1 kc0 rfl ?_
  refine f_puti C tF_X12_74 fm_12_1 rfl o101 dX12_ends_2 rfl ?_
  refine f_aload_n C (j := 0) dX12_ends_5 rfl rfl rfl ?_
  refine f_iconst C (v := 0) dX12_ends_6 kc0 rfl ?_
  refine f_puti C tF_X12_77 fm_12_0 rfl o101 dX12_ends_7 rfl ?_
  refine f_aload_n C (j := 0) dX12_ends_10 rfl rfl rfl ?_
  refine f_iload_n C (j := 1) dX12_ends_11 rfl rfl rfl ?_
  refine f_callVi C (a := 101) (ci := 12) (As := fun B => [.int x1]) o101 rfl (c_X12_isWorkAt  _ _ _ h) tM_X12_342 tI_X12_isWorkAt tS_X12_isWorkAt tN_X12 tC_X12_isWorkAt 1 dd_X12_isWorkAt rfl (by decide) (by decide) rfl (Nat.le_of_ble_eq_true rfl) dX12_ends_12 rfl (fun r_2 σ_1 h => ?_)
  refine f_if_ne C (t := 24) dX12_ends_15 (by decide) rfl (fun hq_3 => ?_) (fun hq_3 => ?_)
  · replace h := Eq.mp (if_neg hq_3) h
    refine f_aload_n C (j := 0) dX12_ends_24 rfl rfl rfl ?_
    refine f_aload_n C (j := 0) dX12_ends_25 rfl rfl rfl ?_
    refine f_getc C tF_X12_35 rfl o101 cs101_20 (by decide) dX12_ends_26 rfl ?_
    refine f_bipush C (v := 52) dX12_ends_29 kb52 rfl ?_
    refine f_iload_n C (j := 1) dX12_ends_31 rfl rfl rfl ?_
    refine f_iadd C dX12_ends_32 rfl ?_
    obtain ⟨hi_4, h⟩ := h
    refine f_iald C (j := tn (52 + x1)) a106 hi_4 rfl dX12_ends_33 rfl ?_
    refine f_callVi C (a := 101) (ci := 12) (As := fun B => [.int (gi σ_1 106 (tn (52 + x1)))]) o101 rfl (c_X12_yearWithout  _ _ _ h) tM_X12_394 tI_X12_yearWithout tS_X12_yearWithout tN_X12 tC_X12_yearWithout 1 dd_X12_yearWithout rfl (by decide) (by decide) rfl (Nat.le_of_ble_eq_true rfl) dX12_ends_34 rfl (fun r_6 σ_5 h => ?_)
    refine f_istore_n C (lv2 := [(2, .int r_6), (0, .ref (B + 101)), (1, .int x1)]) dX12_ends_37 rfl (by decide) rfl rfl ?_
    refine f_iload_n C (j := 0) dX12_ends_38 rfl rfl rfl ?_
    refine f_if_ge C (t := 51) dX12_ends_39 (by decide) rfl (fun hq_7 => ?_) (fun hq_7 => ?_)
    · replace h := Eq.mp (if_pos hq_7) h
      refine f_iload_n C (j := 0) dX12_ends_51 rfl rfl rfl ?_
      exact f_iret C dX12_ends_52 h
    · replace h := Eq.mp (if_neg hq_7) h
      refine f_aload_n C (j := 1) dX12_ends_42 rfl rfl rfl ?_
      refine f_bipush C (v := 8) dX12_ends_43 kb8 rfl ?_
      refine f_callVi C (a := 101) (ci := 12) (As := fun B => [.int 8]) o101 rfl (c_X12_refuse  _ _ _ h) tM_X12_327 tI_X12_refuse tS_X12_refuse tN_X12 tC_X12_refuse 1 dd_X12_refuse rfl (by decide) (by decide) rfl (Nat.le_of_ble_eq_true rfl) dX12_ends_45 rfl (fun r_9 σ_8 h => ?_)
      refine f_goto C (t := 52) dX12_ends_48 (by decide) ?_
      exact f_iret C dX12_ends_52 h
  · replace h := Eq.mp (if_pos hq_3) h
    refine f_aload_n C (j := 0) dX12_ends_18 rfl rfl rfl ?_
    refine f_iconst C (v := 2) dX12_ends_19 kc2 rfl ?_
    refine f_callVi C (a := 101) (ci := 12) (As := fun B => [.int 2]) o101 rfl (c_X12_refuse  _ _ _ h) tM_X12_327 tI_X12_refuse tS_X12_refuse tN_X12 tC_X12_refuse 1 dd_X12_refuse rfl (by decide) (by decide) rfl (Nat.le_of_ble_eq_true rfl) dX12_ends_20 rfl (fun r_11 σ_10 h => ?_)
    exact f_iret C dX12_ends_23 h
theorem c_X12_ends (x1 : Int32) (σ : Sto) (P : Int32 → Sto → Prop) (h : w_X12_ends x1 σ P) : Ct yX12_ends cX12_ends 3 (some .int) 7 164 (fun B => [.ref (B + 101), .int x1]) σ (QFi P) := Ct.of (by decide) (fun _ => Nat.le_of_ble_eq_true rfl) (fun B E C => s_X12_ends C x1 σ h)
def w_X12_later_38 (K38 : Int32 × Int32 × Sto → Prop) (x1 : Int32) (x2 : Int32) (x3 : Int32) (σ : Sto) (P : Int32 → Sto → Prop) : Prop :=
  (if x1 ≤ x3 then w_X12_standing x2 σ (fun r_8 σ_7 => P r_8 σ_7) else w_X12_after x2 (gi σ 106 7) σ (fun r_10 σ_9 => ∀ x3_11 : Int32, x3_11 = x3 + 1 → K38 (r_10, x3_11, σ_9)))
theorem s_X12_later_38 {B : Nat} {E : Nat → List (Nat × Value) → List Value → Sto → Prop} {P : Int32 → Sto → Prop} (C : Cy B E RX12 cX12_later 4 (some .int) 6 141 (Zm (QFi P))) (x1 : Int32) (x2 : Int32) (x3 : Int32) (K38 : Int32 × Int32 × Sto → Prop) (hK38 : ∀ (x2 : Int32) (x3 : Int32) (σ : Sto), K38 (x2, x3, σ) → E 38 [(0, .ref (B + 101)), (1, .int x1), (2, .int x2), (3, .int x3)] [] σ) (σ : Sto) (h : w_X12_later_38 K38 x1 x2 x3 σ P) : E 38 [(0, .ref (B + 101)), (1, .int x1), (2, .int x2), (3, .int x3)] [] σ := by
  unfold w_X12_later_38 at h
  refine f_iload_n C (j := 3) dX12_later_38 rfl rfl rfl ?_
  refine f_iload_n C (j := 1) dX12_later_39 rfl rfl rfl ?_
  refine f_icmp_ge C (t := 62) dX12_later_40 (by decide) rfl (fun hq_6 => ?_) (fun hq_6 => ?_)
  · replace h := Eq.mp (if_pos hq_6) h
    refine f_aload_n C (j := 0) dX12_later_62 rfl rfl rfl ?_
    refine f_iload_n C (j := 2) dX12_later_63 rfl rfl rfl ?_
    refine f_callVi C (a := 101) (ci := 12) (As := fun B => [.int x2]) o101 rfl (c_X12_standing  _ _ _ h) tM_X12_322 tI_X12_standing tS_X12_standing tN_X12 tC_X12_standing 1 dd_X12_standing rfl (by decide) (by decide) rfl (Nat.le_of_ble_eq_true rfl) dX12_later_64 rfl (fun r_8 σ_7 h => ?_)
    exact f_iret C dX12_later_67 h
  · replace h := Eq.mp (if_neg hq_6) h
    refine f_aload_n C (j := 0) dX12_later_43 rfl rfl rfl ?_
    refine f_iload_n C (j := 2) dX12_later_44 rfl rfl rfl ?_
    refine f_aload_n C (j := 0) dX12_later_45 rfl rfl rfl ?_
    refine f_getc C tF_X12_35 rfl o101 cs101_20 (by decide) dX12_later_46 rfl ?_
    refine f_bipush C (v := 7) dX12_later_49 kb7 rfl ?_
    refine f_iald C (j := 7) a106 (vp_lit (by decide)) rfl dX12_later_51 rfl ?_
    refine f_callVi C (a := 101) (ci := 12) (As := fun B => [.int x2, .int (gi σ 106 7)]) o101 rfl (c_X12_after  _ _ _ _ h) tM_X12_391 tI_X12_after tS_X12_after tN_X12 tC_X12_after 2 dd_X12_after rfl (by decide) (by decide) rfl (Nat.le_of_ble_eq_true rfl) dX12_later_52 rfl (fun r_10 σ_9 h => ?_)
    refine f_istore_n C (lv2 := [(2, .int r_10), (0, .ref (B + 101)), (1, .int x1), (3, .int x3)]) dX12_later_55 rfl (by decide) rfl rfl ?_
    obtain ⟨x3_11, hx_12⟩ : ∃ y : Int32, y = x3 + 1 := ⟨_, rfl⟩
    replace h := h x3_11 hx_12
    refine f_iinc C (j := 3) (v := x3_11) (lv2 := [(3, .int x3_11), (2, .int r_10), (0, .ref (B + 101)), (1, .int x1)]) dX12_later_56 rfl hx_12.symm (by decide) rfl rfl ?_
    refine f_goto C (t := 38) dX12_later_59 (by decide) ?_
    refine f_lv C (lv2 := [(0, .ref (B + 101)), (1, .int x1), (2, .int r_10), (3, .int x3_11)]) [2, 3, 1, 0] rfl ?_
    exact hK38 _ _ _ h
def w_X12_later (x1 : Int32) (σ : Sto) (P : Int32 → Sto → Prop) : Prop :=
  w_X12_isIn x1.toInt64 0 99 (si (si σ 101 1 0) 101 0 0) (fun r_2 σ_1 => (if r_2 = 0 then w_X12_refuse 5 σ_1 (fun r_14 σ_13 => P r_14 σ_13) else ∀ x2_4 : Int32, x2_4 = gi σ_1 106 6 → Lp (fun (K : Int32 × Int32 × Sto → Prop) s => w_X12_later_38 K x1 s.1 s.2.1 s.2.2 P) (x2_4, 0, σ_1)))
theorem s_X12_later {B : Nat} {E : Nat → List (Nat × Value) → List Value → Sto → Prop} {P : Int32 → Sto → Prop} (C : Cy B E RX12 cX12_later 4 (some .int) 6 141 (Zm (QFi P))) (x1 : Int32) (σ : Sto) (h : w_X12_later x1 σ P) : E 0 [(0, .ref (B + 101)), (1, .int x1)] [] σ := by
  unfold w_X12_later at h
  refine f_aload_n C (j := 0) dX12_later_0 rfl rfl rfl ?_
  refine f_iconst C (v := 0) dX12_later_1 kc0 rfl ?_
  refine f_puti C tF_X12_74 fm_12_1 rfl o101 dX12_later_2 rfl ?_
  refine f_aload_n C (j := 0) dX12_later_5 rfl rfl rfl ?_
  refine f_iconst C (v := 0) dX12_later_6 kc0 rfl ?_
  refine f_puti C tF_X12_77 fm_12_0 rfl o101 dX12_later_7 rfl ?_
  refine f_iload_n C (j := 1) dX12_later_10 rfl rfl rfl ?_
  refine f_i2l C dX12_later_11 rfl ?_
  refine f_lconst C (v := 0) dX12_later_12 (by decide) rfl ?_
  refine f_ldc2_w C tL_X12_375 dX12_later_13 rfl ?_
  refine f_callSi C (As := fun B => [.long x1.toInt64, .long 0, .long 99]) (c_X12_isIn  _ _ _ _ _ h) tM_X12_109 tT_X12_isIn tN_X12 tC_X12_isIn 3 dd_X12_isIn rfl (by decide) (by decide) rfl (Nat.le_of_ble_eq_true rfl) dX12_later_16 rfl (fun r_2 σ_1 h => ?_)
  refine f_if_ne C (t := 28) dX12_later_19 (by decide) rfl (fun hq_3 => ?_) (fun hq_3 => ?_)
  · replace h := Eq.mp (if_neg hq_3) h
    refine f_aload_n C (j := 0) dX12_later_28 rfl rfl rfl ?_
    refine f_getc C tF_X12_35 rfl o101 cs101_20 (by decide) dX12_later_29 rfl ?_
    refine f_bipush C (v := 6) dX12_later_32 kb6 rfl ?_
    refine f_iald C (j := 6) a106 (vp_lit (by decide)) rfl dX12_later_34 rfl ?_
    refine f_name (fun x2_4 hx_5 => ?_)
    replace h := h x2_4 hx_5
    refine f_istore_n C (lv2 := [(2, .int x2_4), (0, .ref (B + 101)), (1, .int x1)]) dX12_later_35 rfl (by decide) rfl rfl ?_
    refine f_iconst C (v := 0) dX12_later_36 kc0 rfl ?_
    refine f_istore_n C (lv2 := [(3, .int 0), (2, .int x2_4), (0, .ref (B + 101)), (1, .int x1)]) dX12_later_37 rfl (by decide) rfl rfl ?_
    refine f_lv C (lv2 := [(0, .ref (B + 101)), (1, .int x1), (2, .int x2_4), (3, .int 0)]) [2, 3, 1, 0] rfl ?_
    exact Lp_sound (fun s : Int32 × Int32 × Sto => E 38 [(0, .ref (B + 101)), (1, .int x1), (2, .int s.1), (3, .int s.2.1)] [] s.2.2) h (fun K s hK h => s_X12_later_38 C x1 s.1 s.2.1 K (fun x2 x3 σ hk => hK (x2, x3, σ) hk) s.2.2 h)
  · replace h := Eq.mp (if_pos hq_3) h
    refine f_aload_n C (j := 0) dX12_later_22 rfl rfl rfl ?_
    refine f_iconst C (v := 5) dX12_later_23 kc5 rfl ?_
    refine f_callVi C (a := 101) (ci := 12) (As := fun B => [.int 5]) o101 rfl (c_X12_refuse  _ _ _ h) tM_X12_327 tI_X12_refuse tS_X12_refuse tN_X12 tC_X12_refuse 1 dd_X12_refuse rfl (by decide) (by decide) rfl (Nat.le_of_ble_eq_true rfl) dX12_later_24 rfl (fun r_14 σ_13 h => ?_)
    exact f_iret C dX12_later_27 h
theorem c_X12_later (x1 : Int32) (σ : Sto) (P : Int32 → Sto → Prop) (h : w_X12_later x1 σ P) : Ct yX12_later cX12_later 4 (some .int) 6 141 (fun B => [.ref (B + 101), .int x1]) σ (QFi P) := Ct.of (by decide) (fun _ => Nat.le_of_ble_eq_true rfl) (fun B E C => s_X12_later C x1 σ h)
def w_X12_isKeptBy_12 (K12 : Int32 × Int32 × Sto → Prop) (x1 : Int32) (x2 : Int32) (x3 : Int32) (x4 : Int32) (x5 : Int32) (σ : Sto) (P : Int32 → Sto → Prop) : Prop :=
  (if x2 < x5 then P 1 σ else w_X12_standing x4 σ (fun r_5 σ_4 => (if (x1 &&& (~~~r_5)) = 0 then (if x2 ≤ x5 then ∀ x5_8 : Int32, x5_8 = x5 + 1 → K12 (x4, x5_8, σ_4) else w_X12_after x4 x3 σ_4 (fun r_11 σ_10 => ∀ x5_12 : Int32, x5_12 = x5 + 1 → K12 (r_11, x5_12, σ_10))) else P 0 σ_4)))
theorem s_X12_isKeptBy_12 {B : Nat} {E : Nat → List (Nat × Value) → List Value → Sto → Prop} {P : Int32 → Sto → Prop} (C : Cy B E RX12 cX12_isKeptBy 6 (some .boolean) 6 141 (Zm (QFi P))) (x1 : Int32) (x2 : Int32) (x3 : Int32) (x4 : Int32) (x5 : Int32) (K12 : Int32 × Int32 × Sto → Prop) (hK12 : ∀ (x4 : Int32) (x5 : Int32) (σ : Sto), K12 (x4, x5, σ) → E 12 [(0, .ref (B + 101)), (1, .int x1), (2, .int x2), (3, .int x3), (4, .int x4), (5, .int x5)] [] σ) (σ : Sto) (h : w_X12_isKeptBy_12 K12 x1 x2 x3 x4 x5 σ P) : E 12 [(0, .ref (B + 101)), (1, .int x1), (2, .int x2), (3, .int x3), (4, .int x4), (5, .int x5)] [] σ := by
  unfold w_X12_isKeptBy_12 at h
  refine f_iload C (j := 5) dX12_isKeptBy_12 rfl rfl ?_
  refine f_iload_n C (j := 2) dX12_isKeptBy_14 rfl rfl rfl ?_
  refine f_icmp_gt C (t := 54) dX12_isKeptBy_15 (by decide) rfl (fun hq_3 => ?_) (fun hq_3 => ?_)
  · replace h := Eq.mp (if_pos hq_3) h
    refine f_iconst C (v := 1) dX12_isKeptBy_54 kc1 rfl ?_
    exact f_zret C (Or.inr rfl) dX12_isKeptBy_55 h
  · replace h := Eq.mp (if_neg hq_3) h
    refine f_iload_n C (j := 1) dX12_isKeptBy_18 rfl rfl rfl ?_
    refine f_aload_n C (j := 0) dX12_isKeptBy_19 rfl rfl rfl ?_
    refine f_iload C (j := 4) dX12_isKeptBy_20 rfl rfl ?_
    refine f_callVi C (a := 101) (ci := 12) (As := fun B => [.int x4]) o101 rfl (c_X12_standing  _ _ _ h) tM_X12_322 tI_X12_standing tS_X12_standing tN_X12 tC_X12_standing 1 dd_X12_standing rfl (by decide) (by decide) rfl (Nat.le_of_ble_eq_true rfl) dX12_isKeptBy_22 rfl (fun r_5 σ_4 h => ?_)
    refine f_iconst C (v := (-1)) dX12_isKeptBy_25 kcm1 rfl ?_
    refine f_inot C dX12_isKeptBy_26 rfl ?_
    refine f_iand C dX12_isKeptBy_27 rfl ?_
    refine f_if_eq C (t := 33) dX12_isKeptBy_28 (by decide) rfl (fun hq_6 => ?_) (fun hq_6 => ?_)
    · replace h := Eq.mp (if_pos hq_6) h
      refine f_iload C (j := 5) dX12_isKeptBy_33 rfl rfl ?_
      refine f_iload_n C (j := 2) dX12_isKeptBy_35 rfl rfl rfl ?_
      refine f_icmp_ge C (t := 48) dX12_isKeptBy_36 (by decide) rfl (fun hq_7 => ?_) (fun hq_7 => ?_)
      · replace h := Eq.mp (if_pos hq_7) h
        obtain ⟨x5_8, hx_9⟩ : ∃ y : Int32, y = x5 + 1 := ⟨_, rfl⟩
        replace h := h x5_8 hx_9
        refine f_iinc C (j := 5) (v := x5_8) (lv2 := [(5, .int x5_8), (0, .ref (B + 101)), (1, .int x1), (2, .int x2), (3, .int x3), (4, .int x4)]) dX12_isKeptBy_48 rfl hx_9.symm (by decide) rfl rfl ?_
        refine f_goto C (t := 12) dX12_isKeptBy_51 (by decide) ?_
        refine f_lv C (lv2 := [(0, .ref (B + 101)), (1, .int x1), (2, .int x2), (3, .int x3), (4, .int x4), (5, .int x5_8)]) [1, 2, 3, 4, 5, 0] rfl ?_
        exact hK12 _ _ _ h
      · replace h := Eq.mp (if_neg hq_7) h
        refine f_aload_n C (j := 0) dX12_isKeptBy_39 rfl rfl rfl ?_
        refine f_iload C (j := 4) dX12_isKeptBy_40 rfl rfl ?_
        refine f_iload_n C (j := 3) dX12_isKeptBy_42 rfl rfl rfl ?_
        refine f_callVi C (a := 101) (ci := 12) (As := fun B => [.int x4, .int x3]) o101 rfl (c_X12_after  _ _ _ _ h) tM_X12_391 tI_X12_after tS_X12_after tN_X12 tC_X12_after 2 dd_X12_after rfl (by decide) (by decide) rfl (Nat.le_of_ble_eq_true rfl) dX12_isKeptBy_43 rfl (fun r_11 σ_10 h => ?_)
        refine f_istore C (lv2 := [(4, .int r_11), (0, .ref (B + 101)), (1, .int x1), (2, .int x2), (3, .int x3), (5, .int x5)]) dX12_isKeptBy_46 (by decide) rfl rfl ?_
        obtain ⟨x5_12, hx_13⟩ : ∃ y : Int32, y = x5 + 1 := ⟨_, rfl⟩
        replace h := h x5_12 hx_13
        refine f_iinc C (j := 5) (v := x5_12) (lv2 := [(5, .int x5_12), (4, .int r_11), (0, .ref (B + 101)), (1, .int x1), (2, .int x2), (3, .int x3)]) dX12_isKeptBy_48 rfl hx_13.symm (by decide) rfl rfl ?_
        refine f_goto C (t := 12) dX12_isKeptBy_51 (by decide) ?_
        refine f_lv C (lv2 := [(0, .ref (B + 101)), (1, .int x1), (2, .int x2), (3, .int x3), (4, .int r_11), (5, .int x5_12)]) [2, 3, 4, 5, 1, 0] rfl ?_
        exact hK12 _ _ _ h
    · replace h := Eq.mp (if_neg hq_6) h
      refine f_iconst C (v := 0) dX12_isKeptBy_31 kc0 rfl ?_
      exact f_zret C (Or.inl rfl) dX12_isKeptBy_32 h
def w_X12_isKeptBy (x1 : Int32) (x2 : Int32) (x3 : Int32) (σ : Sto) (P : Int32 → Sto → Prop) : Prop :=
  ∀ x4_1 : Int32, x4_1 = gi σ 106 6 → Lp (fun (K : Int32 × Int32 × Sto → Prop) s => w_X12_isKeptBy_12 K x1 x2 x3 s.1 s.2.1 s.2.2 P) (x4_1, 0, σ)
theorem s_X12_isKeptBy {B : Nat} {E : Nat → List (Nat × Value) → List Value → Sto → Prop} {P : Int32 → Sto → Prop} (C : Cy B E RX12 cX12_isKeptBy 6 (some .boolean) 6 141 (Zm (QFi P))) (x1 : Int32) (x2 : Int32) (x3 : Int32) (σ : Sto) (h : w_X12_isKeptBy x1 x2 x3 σ P) : E 0 [(0, .ref (B + 101)), (1, .int x1), (2, .int x2), (3, .int x3)] [] σ := by
  unfold w_X12_isKeptBy at h
  refine f_aload_n C (j := 0) dX12_isKeptBy_0 rfl rfl rfl ?_
  refine f_getc C tF_X12_35 rfl o101 cs101_20 (by decide) dX12_isKeptBy_1 rfl ?_
  refine f_bipush C (v := 6) dX12_isKeptBy_4 kb6 rfl ?_
  refine f_iald C (j := 6) a106 (vp_lit (by decide)) rfl dX12_isKeptBy_6 rfl ?_
  refine f_name (fun x4_1 hx_2 => ?_)
  replace h := h x4_1 hx_2
  refine f_istore C (lv2 := [(4, .int x4_1), (0, .ref (B + 101)), (1, .int x1), (2, .int x2), (3, .int x3)]) dX12_isKeptBy_7 (by decide) rfl rfl ?_
  refine f_iconst C (v := 0) dX12_isKeptBy_9 kc0 rfl ?_
  refine f_istore C (lv2 := [(5, .int 0), (4, .int x4_1), (0, .ref (B + 101)), (1, .int x1), (2, .int x2), (3, .int x3)]) dX12_isKeptBy_10 (by decide) rfl rfl ?_
  refine f_lv C (lv2 := [(0, .ref (B + 101)), (1, .int x1), (2, .int x2), (3, .int x3), (4, .int x4_1), (5, .int 0)]) [2, 3, 4, 5, 1, 0] rfl ?_
  exact Lp_sound (fun s : Int32 × Int32 × Sto => E 12 [(0, .ref (B + 101)), (1, .int x1), (2, .int x2), (3, .int x3), (4, .int s.1), (5, .int s.2.1)] [] s.2.2) h (fun K s hK h => s_X12_isKeptBy_12 C x1 x2 x3 s.1 s.2.1 K (fun x4 x5 σ hk => hK (x4, x5, σ) hk) s.2.2 h)
theorem c_X12_isKeptBy (x1 : Int32) (x2 : Int32) (x3 : Int32) (σ : Sto) (P : Int32 → Sto → Prop) (h : w_X12_isKeptBy x1 x2 x3 σ P) : Ct yX12_isKeptBy cX12_isKeptBy 6 (some .boolean) 6 141 (fun B => [.ref (B + 101), .int x1, .int x2, .int x3]) σ (QFi P) := Ct.of (by decide) (fun _ => Nat.le_of_ble_eq_true rfl) (fun B E C => s_X12_isKeptBy C x1 x2 x3 σ h)
def w_X12_keeping_57 (K21 : Int32 × Int32 × Sto → Prop) (x1 : Int32) (x2 : Int32) (x3 : Int32) (x4 : Int32) (x5 : Int32) (σ : Sto) (P : Int32 → Sto → Prop) : Prop :=
  vp_in (52 + x1) 2105 ∧ w_X12_isKeptBy (gi σ 106 (tn (52 + x1))) x2 ((gi σ 106 7) ||| x5) σ (fun r_12 σ_11 => (if r_12 = 0 then ∀ x5_14 : Int32, x5_14 = x5 + 1 → K21 (x4, x5_14, σ_11) else ∀ x5_16 : Int32, x5_16 = x5 + 1 → K21 (x5, x5_16, σ_11)))
theorem s_X12_keeping_57 {B : Nat} {E : Nat → List (Nat × Value) → List Value → Sto → Prop} {P : Int32 → Sto → Prop} (C : Cy B E RX12 cX12_keeping 6 (some .int) 7 166 (Zm (QFi P))) (x1 : Int32) (x2 : Int32) (x3 : Int32) (x4 : Int32) (x5 : Int32) (K21 : Int32 × Int32 × Sto → Prop) (hK21 : ∀ (x4 : Int32) (x5 : Int32) (σ : Sto), K21 (x4, x5, σ) → E 21 [(0, .ref (B + 101)), (1, .int x1), (2, .int x2), (3, .int x3), (4, .int x4), (5, .int x5)] [] σ) (σ : Sto) (h : w_X12_keeping_57 K21 x1 x2 x3 x4 x5 σ P) : E 57 [(0, .ref (B + 101)), (1, .int x1), (2, .int x2), (3, .int x3), (4, .int x4), (5, .int x5)] [] σ := by
  unfold w_X12_keeping_57 at h
  refine f_aload_n C (j := 0) dX12_keeping_57 rfl rfl rfl ?_
  refine f_aload_n C (j := 0) dX12_keeping_58 rfl rfl rfl ?_
  refine f_getc C tF_X12_35 rfl o101 cs101_20 (by decide) dX12_keeping_59 rfl ?_
  refine f_bipush C (v := 52) dX12_keeping_62 kb52 rfl ?_
  refine f_iload_n C (j := 1) dX12_keeping_64 rfl rfl rfl ?_
  refine f_iadd C dX12_keeping_65 rfl ?_
  obtain ⟨hi_10, h⟩ := h
  refine f_iald C (j := tn (52 + x1)) a106 hi_10 rfl dX12_keeping_66 rfl ?_
  refine f_iload_n C (j := 2) dX12_keeping_67 rfl rfl rfl ?_
  refine f_aload_n C (j := 0) dX12_keeping_68 rfl rfl rfl ?_
  refine f_getc C tF_X12_35 rfl o101 cs101_20 (by decide) dX12_keeping_69 rfl ?_
  refine f_bipush C (v := 7) dX12_keeping_72 kb7 rfl ?_
  refine f_iald C (j := 7) a106 (vp_lit (by decide)) rfl dX12_keeping_74 rfl ?_
  refine f_iload C (j := 5) dX12_keeping_75 rfl rfl ?_
  refine f_ior C dX12_keeping_77 rfl ?_
  refine f_callVi C (a := 101) (ci := 12) (As := fun B => [.int (gi σ 106 (tn (52 + x1))), .int x2, .int ((gi σ 106 7) ||| x5)]) o101 rfl (c_X12_isKeptBy  _ _ _ _ _ h) tM_X12_400 tI_X12_isKeptBy tS_X12_isKeptBy tN_X12 tC_X12_isKeptBy 3 dd_X12_isKeptBy rfl (by decide) (by decide) rfl (Nat.le_of_ble_eq_true rfl) dX12_keeping_78 rfl (fun r_12 σ_11 h => ?_)
  refine f_if_eq C (t := 88) dX12_keeping_81 (by decide) rfl (fun hq_13 => ?_) (fun hq_13 => ?_)
  · replace h := Eq.mp (if_pos hq_13) h
    obtain ⟨x5_14, hx_15⟩ : ∃ y : Int32, y = x5 + 1 := ⟨_, rfl⟩
    replace h := h x5_14 hx_15
    refine f_iinc C (j := 5) (v := x5_14) (lv2 := [(5, .int x5_14), (0, .ref (B + 101)), (1, .int x1), (2, .int x2), (3, .int x3), (4, .int x4)]) dX12_keeping_88 rfl hx_15.symm (by decide) rfl rfl ?_
    refine f_goto C (t := 21) dX12_keeping_91 (by decide) ?_
    refine f_lv C (lv2 := [(0, .ref (B + 101)), (1, .int x1), (2, .int x2), (3, .int x3), (4, .int x4), (5, .int x5_14)]) [1, 2, 3, 4, 5, 0] rfl ?_
    exact hK21 _ _ _ h
  · replace h := Eq.mp (if_neg hq_13) h
    refine f_iload C (j := 5) dX12_keeping_84 rfl rfl ?_
    refine f_istore C (lv2 := [(4, .int x5), (0, .ref (B + 101)), (1, .int x1), (2, .int x2), (3, .int x3), (5, .int x5)]) dX12_keeping_86 (by decide) rfl rfl ?_
    obtain ⟨x5_16, hx_17⟩ : ∃ y : Int32, y = x5 + 1 := ⟨_, rfl⟩
    replace h := h x5_16 hx_17
    refine f_iinc C (j := 5) (v := x5_16) (lv2 := [(5, .int x5_16), (4, .int x5), (0, .ref (B + 101)), (1, .int x1), (2, .int x2), (3, .int x3)]) dX12_keeping_88 rfl hx_17.symm (by decide) rfl rfl ?_
    refine f_goto C (t := 21) dX12_keeping_91 (by decide) ?_
    refine f_lv C (lv2 := [(0, .ref (B + 101)), (1, .int x1), (2, .int x2), (3, .int x3), (4, .int x5), (5, .int x5_16)]) [2, 3, 4, 5, 1, 0] rfl ?_
    exact hK21 _ _ _ h
def w_X12_keeping_21 (K21 : Int32 × Int32 × Sto → Prop) (x1 : Int32) (x2 : Int32) (x3 : Int32) (x4 : Int32) (x5 : Int32) (σ : Sto) (P : Int32 → Sto → Prop) : Prop :=
  (if x3 < x5 then P x4 σ else (if (x5 &&& (~~~x3)) = 0 then (if x4 < 0 then w_X12_keeping_57 K21 x1 x2 x3 x4 x5 σ P else w_X12_sizeOf x5 σ (fun r_19 σ_18 => w_X12_sizeOf x4 σ_18 (fun r_21 σ_20 => (if r_19 < r_21 then w_X12_keeping_57 K21 x1 x2 x3 x4 x5 σ_20 P else ∀ x5_23 : Int32, x5_23 = x5 + 1 → K21 (x4, x5_23, σ_20))))) else ∀ x5_7 : Int32, x5_7 = x5 + 1 → K21 (x4, x5_7, σ)))
theorem s_X12_keeping_21 {B : Nat} {E : Nat → List (Nat × Value) → List Value → Sto → Prop} {P : Int32 → Sto → Prop} (C : Cy B E RX12 cX12_keeping 6 (some .int) 7 166 (Zm (QFi P))) (x1 : Int32) (x2 : Int32) (x3 : Int32) (x4 : Int32) (x5 : Int32) (K21 : Int32 × Int32 × Sto → Prop) (hK21 : ∀ (x4 : Int32) (x5 : Int32) (σ : Sto), K21 (x4, x5, σ) → E 21 [(0, .ref (B + 101)), (1, .int x1), (2, .int x2), (3, .int x3), (4, .int x4), (5, .int x5)] [] σ) (σ : Sto) (h : w_X12_keeping_21 K21 x1 x2 x3 x4 x5 σ P) : E 21 [(0, .ref (B + 101)), (1, .int x1), (2, .int x2), (3, .int x3), (4, .int x4), (5, .int x5)] [] σ := by
  unfold w_X12_keeping_21 at h
  refine f_iload C (j := 5) dX12_keeping_21 rfl rfl ?_
  refine f_iload_n C (j := 3) dX12_keeping_23 rfl rfl rfl ?_
  refine f_icmp_gt C (t := 94) dX12_keeping_24 (by decide) rfl (fun hq_5 => ?_) (fun hq_5 => ?_)
  · replace h := Eq.mp (if_pos hq_5) h
    refine f_iload C (j := 4) dX12_keeping_94 rfl rfl ?_
    exact f_iret C dX12_keeping_96 h
  · replace h := Eq.mp (if_neg hq_5) h
    refine f_iload C (j := 5) dX12_keeping_27 rfl rfl ?_
    refine f_iload_n C (j := 3) dX12_keeping_29 rfl rfl rfl ?_
    refine f_iconst C (v := (-1)) dX12_keeping_30 kcm1 rfl ?_
    refine f_inot C dX12_keeping_31 rfl ?_
    refine f_iand C dX12_keeping_32 rfl ?_
    refine f_if_ne C (t := 88) dX12_keeping_33 (by decide) rfl (fun hq_6 => ?_) (fun hq_6 => ?_)
    · replace h := Eq.mp (if_neg hq_6) h
      obtain ⟨x5_7, hx_8⟩ : ∃ y : Int32, y = x5 + 1 := ⟨_, rfl⟩
      replace h := h x5_7 hx_8
      refine f_iinc C (j := 5) (v := x5_7) (lv2 := [(5, .int x5_7), (0, .ref (B + 101)), (1, .int x1), (2, .int x2), (3, .int x3), (4, .int x4)]) dX12_keeping_88 rfl hx_8.symm (by decide) rfl rfl ?_
      refine f_goto C (t := 21) dX12_keeping_91 (by decide) ?_
      refine f_lv C (lv2 := [(0, .ref (B + 101)), (1, .int x1), (2, .int x2), (3, .int x3), (4, .int x4), (5, .int x5_7)]) [1, 2, 3, 4, 5, 0] rfl ?_
      exact hK21 _ _ _ h
    · replace h := Eq.mp (if_pos hq_6) h
      refine f_iload C (j := 4) dX12_keeping_36 rfl rfl ?_
      refine f_if_lt C (t := 57) dX12_keeping_38 (by decide) rfl (fun hq_9 => ?_) (fun hq_9 => ?_)
      · replace h := Eq.mp (if_pos hq_9) h
        exact s_X12_keeping_57 C _ _ _ _ _  K21 hK21 _ h
      · replace h := Eq.mp (if_neg hq_9) h
        refine f_iload C (j := 5) dX12_keeping_41 rfl rfl ?_
        refine f_callSi C (As := fun B => [.int x5]) (c_X12_sizeOf  _ _ _ h) tM_X12_397 tT_X12_sizeOf tN_X12 tC_X12_sizeOf 1 dd_X12_sizeOf rfl (by decide) (by decide) rfl (Nat.le_of_ble_eq_true rfl) dX12_keeping_43 rfl (fun r_19 σ_18 h => ?_)
        refine f_iload C (j := 4) dX12_keeping_46 rfl rfl ?_
        refine f_callSi C (As := fun B => [.int x4]) (c_X12_sizeOf  _ _ _ h) tM_X12_397 tT_X12_sizeOf tN_X12 tC_X12_sizeOf 1 dd_X12_sizeOf rfl (by decide) (by decide) rfl (Nat.le_of_ble_eq_true rfl) dX12_keeping_48 rfl (fun r_21 σ_20 h => ?_)
        refine f_icmp_lt C (t := 57) dX12_keeping_51 (by decide) rfl (fun hq_22 => ?_) (fun hq_22 => ?_)
        · replace h := Eq.mp (if_pos hq_22) h
          exact s_X12_keeping_57 C _ _ _ _ _  K21 hK21 _ h
        · replace h := Eq.mp (if_neg hq_22) h
          refine f_goto C (t := 88) dX12_keeping_54 (by decide) ?_
          obtain ⟨x5_23, hx_24⟩ : ∃ y : Int32, y = x5 + 1 := ⟨_, rfl⟩
          replace h := h x5_23 hx_24
          refine f_iinc C (j := 5) (v := x5_23) (lv2 := [(5, .int x5_23), (0, .ref (B + 101)), (1, .int x1), (2, .int x2), (3, .int x3), (4, .int x4)]) dX12_keeping_88 rfl hx_24.symm (by decide) rfl rfl ?_
          refine f_goto C (t := 21) dX12_keeping_91 (by decide) ?_
          refine f_lv C (lv2 := [(0, .ref (B + 101)), (1, .int x1), (2, .int x2), (3, .int x3), (4, .int x4), (5, .int x5_23)]) [1, 2, 3, 4, 5, 0] rfl ?_
          exact hK21 _ _ _ h
def w_X12_keeping (x1 : Int32) (x2 : Int32) (σ : Sto) (P : Int32 → Sto → Prop) : Prop :=
  w_X12_allThings σ (fun r_2 σ_1 => ∀ x3_3 : Int32, x3_3 = r_2 &&& (~~~(gi σ_1 106 7)) → Lp (fun (K : Int32 × Int32 × Sto → Prop) s => w_X12_keeping_21 K x1 x2 x3_3 s.1 s.2.1 s.2.2 P) ((-1), 0, σ_1))
theorem s_X12_keeping {B : Nat} {E : Nat → List (Nat × Value) → List Value → Sto → Prop} {P : Int32 → Sto → Prop} (C : Cy B E RX12 cX12_keeping 6 (some .int) 7 166 (Zm (QFi P))) (x1 : Int32) (x2 : Int32) (σ : Sto) (h : w_X12_keeping x1 x2 σ P) : E 0 [(0, .ref (B + 101)), (1, .int x1), (2, .int x2)] [] σ := by
  unfold w_X12_keeping at h
  refine f_aload_n C (j := 0) dX12_keeping_0 rfl rfl rfl ?_
  refine f_callVi C (a := 101) (ci := 12) (As := fun B => []) o101 rfl (c_X12_allThings   _ _ h) tM_X12_313 tI_X12_allThings tS_X12_allThings tN_X12 tC_X12_allThings 0 dd_X12_allThings rfl (by decide) (by decide) rfl (Nat.le_of_ble_eq_true rfl) dX12_keeping_1 rfl (fun r_2 σ_1 h => ?_)
  refine f_aload_n C (j := 0) dX12_keeping_4 rfl rfl rfl ?_
  refine f_getc C tF_X12_35 rfl o101 cs101_20 (by decide) dX12_keeping_5 rfl ?_
  refine f_bipush C (v := 7) dX12_keeping_8 kb7 rfl ?_
  refine f_iald C (j := 7) a106 (vp_lit (by decide)) rfl dX12_keeping_10 rfl ?_
  refine f_iconst C (v := (-1)) dX12_keeping_11 kcm1 rfl ?_
  refine f_inot C dX12_keeping_12 rfl ?_
  refine f_iand C dX12_keeping_13 rfl ?_
  refine f_name (fun x3_3 hx_4 => ?_)
  replace h := h x3_3 hx_4
  refine f_istore_n C (lv2 := [(3, .int x3_3), (0, .ref (B + 101)), (1, .int x1), (2, .int x2)]) dX12_keeping_14 rfl (by decide) rfl rfl ?_
  refine f_iconst C (v := (-1)) dX12_keeping_15 kcm1 rfl ?_
  refine f_istore C (lv2 := [(4, .int (-1)), (3, .int x3_3), (0, .ref (B + 101)), (1, .int x1), (2, .int x2)]) dX12_keeping_16 (by decide) rfl rfl ?_
  refine f_iconst C (v := 0) dX12_keeping_18 kc0 rfl ?_
  refine f_istore C (lv2 := [(5, .int 0), (4, .int (-1)), (3, .int x3_3), (0, .ref (B + 101)), (1, .int x1), (2, .int x2)]) dX12_keeping_19 (by decide) rfl rfl ?_
  refine f_lv C (lv2 := [(0, .ref (B + 101)), (1, .int x1), (2, .int x2), (3, .int x3_3), (4, .int (-1)), (5, .int 0)]) [3, 4, 5, 2, 1, 0] rfl ?_
  exact Lp_sound (fun s : Int32 × Int32 × Sto => E 21 [(0, .ref (B + 101)), (1, .int x1), (2, .int x2), (3, .int x3_3), (4, .int s.1), (5, .int s.2.1)] [] s.2.2) h (fun K s hK h => s_X12_keeping_21 C x1 x2 x3_3 s.1 s.2.1 K (fun x4 x5 σ hk => hK (x4, x5, σ) hk) s.2.2 h)
theorem c_X12_keeping (x1 : Int32) (x2 : Int32) (σ : Sto) (P : Int32 → Sto → Prop) (h : w_X12_keeping x1 x2 σ P) : Ct yX12_keeping cX12_keeping 6 (some .int) 7 166 (fun B => [.ref (B + 101), .int x1, .int x2]) σ (QFi P) := Ct.of (by decide) (fun _ => Nat.le_of_ble_eq_true rfl) (fun B E C => s_X12_keeping C x1 x2 σ h)
def w_X12_whyNoKeep (x1 : Int32) (x2 : Int32) (σ : Sto) (P : Int32 → Sto → Prop) : Prop :=
  w_X12_isWorkAt x1 σ (fun r_2 σ_1 => (if r_2 = 0 then P 2 σ_1 else w_X12_isIn x2.toInt64 0 12 σ_1 (fun r_5 σ_4 => (if r_5 = 0 then P 5 σ_4 else P 0 σ_4))))
theorem s_X12_whyNoKeep {B : Nat} {E : Nat → List (Nat × Value) → List Value → Sto → Prop} {P : Int32 → Sto → Prop} (C : Cy B E RX12 cX12_whyNoKeep 3 (some .int) 2 46 (Zm (QFi P))) (x1 : Int32) (x2 : Int32) (σ : Sto) (h : w_X12_whyNoKeep x1 x2 σ P) : E 0 [(0, .ref (B + 101)), (1, .int x1), (2, .int x2)] [] σ := by
  unfold w_X12_whyNoKeep at h
  refine f_aload_n C (j := 0) dX12_whyNoKeep_0 rfl rfl rfl ?_
  refine f_iload_n C (j := 1) dX12_whyNoKeep_1 rfl rfl rfl ?_
  refine f_callVi C (a := 101) (ci := 12) (As := fun B => [.int x1]) o101 rfl (c_X12_isWorkAt  _ _ _ h) tM_X12_342 tI_X12_isWorkAt tS_X12_isWorkAt tN_X12 tC_X12_isWorkAt 1 dd_X12_isWorkAt rfl (by decide) (by decide) rfl (Nat.le_of_ble_eq_true rfl) dX12_whyNoKeep_2 rfl (fun r_2 σ_1 h => ?_)
  refine f_if_ne C (t := 12) dX12_whyNoKeep_5 (by decide) rfl (fun hq_3 => ?_) (fun hq_3 => ?_)
  · replace h := Eq.mp (if_neg hq_3) h
    refine f_iload_n C (j := 2) dX12_whyNoKeep_12 rfl rfl rfl ?_
    refine f_i2l C dX12_whyNoKeep_13 rfl ?_
    refine f_lconst C (v := 0) dX12_whyNoKeep_14 (by decide) rfl ?_
    refine f_ldc2_w C tL_X12_404 dX12_whyNoKeep_15 rfl ?_
    refine f_callSi C (As := fun B => [.long x2.toInt64, .long 0, .long 12]) (c_X12_isIn  _ _ _ _ _ h) tM_X12_109 tT_X12_isIn tN_X12 tC_X12_isIn 3 dd_X12_isIn rfl (by decide) (by decide) rfl (Nat.le_of_ble_eq_true rfl) dX12_whyNoKeep_18 rfl (fun r_5 σ_4 h => ?_)
    refine f_if_eq C (t := 28) dX12_whyNoKeep_21 (by decide) rfl (fun hq_6 => ?_) (fun hq_6 => ?_)
    · replace h := Eq.mp (if_pos hq_6) h
      refine f_iconst C (v := 5) dX12_whyNoKeep_28 kc5 rfl ?_
      exact f_iret C dX12_whyNoKeep_29 h
    · replace h := Eq.mp (if_neg hq_6) h
      refine f_iconst C (v := 0) dX12_whyNoKeep_24 kc0 rfl ?_
      refine f_goto C (t := 29) dX12_whyNoKeep_25 (by decide) ?_
      exact f_iret C dX12_whyNoKeep_29 h
  · replace h := Eq.mp (if_pos hq_3) h
    refine f_iconst C (v := 2) dX12_whyNoKeep_8 kc2 rfl ?_
    refine f_goto C (t := 29) dX12_whyNoKeep_9 (by decide) ?_
    exact f_iret C dX12_whyNoKeep_29 h
theorem c_X12_whyNoKeep (x1 : Int32) (x2 : Int32) (σ : Sto) (P : Int32 → Sto → Prop) (h : w_X12_whyNoKeep x1 x2 σ P) : Ct yX12_whyNoKeep cX12_whyNoKeep 3 (some .int) 2 46 (fun B => [.ref (B + 101), .int x1, .int x2]) σ (QFi P) := Ct.of (by decide) (fun _ => Nat.le_of_ble_eq_true rfl) (fun B E C => s_X12_whyNoKeep C x1 x2 σ h)
def w_X12_keep (x1 : Int32) (x2 : Int32) (σ : Sto) (P : Int32 → Sto → Prop) : Prop :=
  w_X12_whyNoKeep x1 x2 (si σ 101 1 0) (fun r_2 σ_1 => ∀ σ_3 : Sto, σ_3 = si σ_1 101 0 r_2 → (if (gi σ_3 101 0) ≤ 0 then w_X12_keeping x1 x2 σ_3 (fun r_7 σ_6 => (if 0 ≤ r_7 then w_X12_sizeOf r_7 σ_6 (fun r_10 σ_9 => P r_10 σ_9) else w_X12_refuse 8 σ_6 (fun r_12 σ_11 => P r_12 σ_11))) else P (-1) σ_3))
theorem s_X12_keep {B : Nat} {E : Nat → List (Nat × Value) → List Value → Sto → Prop} {P : Int32 → Sto → Prop} (C : Cy B E RX12 cX12_keep 4 (some .int) 8 191 (Zm (QFi P))) (x1 : Int32) (x2 : Int32) (σ : Sto) (h : w_X12_keep x1 x2 σ P) : E 0 [(0, .ref (B + 101)), (1, .int x1), (2, .int x2)] [] σ := by
  unfold w_X12_keep at h
  refine f_aload_n C (j := 0) dX12_keep_0 rfl rfl rfl ?_
  refine f_iconst C (v := 0) dX12_keep_1 kc0 rfl ?_
  refine f_puti C tF_X12_74 fm_12_1 rfl o101 dX12_keep_2 rfl ?_
  refine f_aload_n C (j := 0) dX12_keep_5 rfl rfl rfl ?_
  refine f_aload_n C (j := 0) dX12_keep_6 rfl rfl rfl ?_
  refine f_iload_n C (j := 1) dX12_keep_7 rfl rfl rfl ?_
  refine f_iload_n C (j := 2) dX12_keep_8 rfl rfl rfl ?_
  refine f_callVi C (a := 101) (ci := 12) (As := fun B => [.int x1, .int x2]) o101 rfl (c_X12_whyNoKeep  _ _ _ _ h) tM_X12_406 tI_X12_whyNoKeep tS_X12_whyNoKeep tN_X12 tC_X12_whyNoKeep 2 dd_X12_whyNoKeep rfl (by decide) (by decide) rfl (Nat.le_of_ble_eq_true rfl) dX12_keep_9 rfl (fun r_2 σ_1 h => ?_)
  refine f_puti C tF_X12_77 fm_12_0 rfl o101 dX12_keep_12 rfl ?_
  refine f_aload_n C (j := 0) dX12_keep_15 rfl rfl rfl ?_
  refine f_names (fun σ_3 hσ_4 => ?_)
  replace h := h σ_3 hσ_4
  refine f_geti C tF_X12_77 rfl o101 dX12_keep_16 rfl ?_
  refine f_if_le C (t := 24) dX12_keep_19 (by decide) rfl (fun hq_5 => ?_) (fun hq_5 => ?_)
  · replace h := Eq.mp (if_pos hq_5) h
    refine f_aload_n C (j := 0) dX12_keep_24 rfl rfl rfl ?_
    refine f_iload_n C (j := 1) dX12_keep_25 rfl rfl rfl ?_
    refine f_iload_n C (j := 2) dX12_keep_26 rfl rfl rfl ?_
    refine f_callVi C (a := 101) (ci := 12) (As := fun B => [.int x1, .int x2]) o101 rfl (c_X12_keeping  _ _ _ _ h) tM_X12_409 tI_X12_keeping tS_X12_keeping tN_X12 tC_X12_keeping 2 dd_X12_keeping rfl (by decide) (by decide) rfl (Nat.le_of_ble_eq_true rfl) dX12_keep_27 rfl (fun r_7 σ_6 h => ?_)
    refine f_istore_n C (lv2 := [(3, .int r_7), (0, .ref (B + 101)), (1, .int x1), (2, .int x2)]) dX12_keep_30 rfl (by decide) rfl rfl ?_
    refine f_iload_n C (j := 0) dX12_keep_31 rfl rfl rfl ?_
    refine f_if_ge C (t := 44) dX12_keep_32 (by decide) rfl (fun hq_8 => ?_) (fun hq_8 => ?_)
    · replace h := Eq.mp (if_pos hq_8) h
      refine f_iload_n C (j := 0) dX12_keep_44 rfl rfl rfl ?_
      refine f_callSi C (As := fun B => [.int r_7]) (c_X12_sizeOf  _ _ _ h) tM_X12_397 tT_X12_sizeOf tN_X12 tC_X12_sizeOf 1 dd_X12_sizeOf rfl (by decide) (by decide) rfl (Nat.le_of_ble_eq_true rfl) dX12_keep_45 rfl (fun r_10 σ_9 h => ?_)
      exact f_iret C dX12_keep_48 h
    · replace h := Eq.mp (if_neg hq_8) h
      refine f_aload_n C (j := 1) dX12_keep_35 rfl rfl rfl ?_
      refine f_bipush C (v := 8) dX12_keep_36 kb8 rfl ?_
      refine f_callVi C (a := 101) (ci := 12) (As := fun B => [.int 8]) o101 rfl (c_X12_refuse  _ _ _ h) tM_X12_327 tI_X12_refuse tS_X12_refuse tN_X12 tC_X12_refuse 1 dd_X12_refuse rfl (by decide) (by decide) rfl (Nat.le_of_ble_eq_true rfl) dX12_keep_38 rfl (fun r_12 σ_11 h => ?_)
      refine f_goto C (t := 48) dX12_keep_41 (by decide) ?_
      exact f_iret C dX12_keep_48 h
  · replace h := Eq.mp (if_neg hq_5) h
    refine f_iconst C (v := (-1)) dX12_keep_22 kcm1 rfl ?_
    exact f_iret C dX12_keep_23 h
theorem c_X12_keep (x1 : Int32) (x2 : Int32) (σ : Sto) (P : Int32 → Sto → Prop) (h : w_X12_keep x1 x2 σ P) : Ct yX12_keep cX12_keep 4 (some .int) 8 191 (fun B => [.ref (B + 101), .int x1, .int x2]) σ (QFi P) := Ct.of (by decide) (fun _ => Nat.le_of_ble_eq_true rfl) (fun B E C => s_X12_keep C x1 x2 σ h)
def w_X12_keepSet (x1 : Int32) (x2 : Int32) (σ : Sto) (P : Int32 → Sto → Prop) : Prop :=
  w_X12_whyNoKeep x1 x2 (si σ 101 1 0) (fun r_2 σ_1 => ∀ σ_3 : Sto, σ_3 = si σ_1 101 0 r_2 → (if (gi σ_3 101 0) ≤ 0 then w_X12_keeping x1 x2 σ_3 (fun r_7 σ_6 => (if 0 ≤ r_7 then P r_7 σ_6 else w_X12_refuse 8 σ_6 (fun r_10 σ_9 => P r_10 σ_9))) else P (-1) σ_3))
theorem s_X12_keepSet {B : Nat} {E : Nat → List (Nat × Value) → List Value → Sto → Prop} {P : Int32 → Sto → Prop} (C : Cy B E RX12 cX12_keepSet 4 (some .int) 8 191 (Zm (QFi P))) (x1 : Int32) (x2 : Int32) (σ : Sto) (h : w_X12_keepSet x1 x2 σ P) : E 0 [(0, .ref (B + 101)), (1, .int x1), (2, .int x2)] [] σ := by
  unfold w_X12_keepSet at h
  refine f_aload_n C (j := 0) dX12_keepSet_0 rfl rfl rfl ?_
  refine f_iconst C (v := 0) dX12_keepSet_1 kc0 rfl ?_
  refine f_puti C tF_X12_74 fm_12_1 rfl o101 dX12_keepSet_2 rfl ?_
  refine f_aload_n C (j := 0) dX12_keepSet_5 rfl rfl rfl ?_
  refine f_aload_n C (j := 0) dX12_keepSet_6 rfl rfl rfl ?_
  refine f_iload_n C (j := 1) dX12_keepSet_7 rfl rfl rfl ?_
  refine f_iload_n C (j := 2) dX12_keepSet_8 rfl rfl rfl ?_
  refine f_callVi C (a := 101) (ci := 12) (As := fun B => [.int x1, .int x2]) o101 rfl (c_X12_whyNoKeep  _ _ _ _ h) tM_X12_406 tI_X12_whyNoKeep tS_X12_whyNoKeep tN_X12 tC_X12_whyNoKeep 2 dd_X12_whyNoKeep rfl (by decide) (by decide) rfl (Nat.le_of_ble_eq_true rfl) dX12_keepSet_9 rfl (fun r_2 σ_1 h => ?_)
  refine f_puti C tF_X12_77 fm_12_0 rfl o101 dX12_keepSet_12 rfl ?_
  refine f_aload_n C (j := 0) dX12_keepSet_15 rfl rfl rfl ?_
  refine f_names (fun σ_3 hσ_4 => ?_)
  replace h := h σ_3 hσ_4
  refine f_geti C tF_X12_77 rfl o101 dX12_keepSet_16 rfl ?_
  refine f_if_le C (t := 24) dX12_keepSet_19 (by decide) rfl (fun hq_5 => ?_) (fun hq_5 => ?_)
  · replace h := Eq.mp (if_pos hq_5) h
    refine f_aload_n C (j := 0) dX12_keepSet_24 rfl rfl rfl ?_
    refine f_iload_n C (j := 1) dX12_keepSet_25 rfl rfl rfl ?_
    refine f_iload_n C (j := 2) dX12_keepSet_26 rfl rfl rfl ?_
    refine f_callVi C (a := 101) (ci := 12) (As := fun B => [.int x1, .int x2]) o101 rfl (c_X12_keeping  _ _ _ _ h) tM_X12_409 tI_X12_keeping tS_X12_keeping tN_X12 tC_X12_keeping 2 dd_X12_keeping rfl (by decide) (by decide) rfl (Nat.le_of_ble_eq_true rfl) dX12_keepSet_27 rfl (fun r_7 σ_6 h => ?_)
    refine f_istore_n C (lv2 := [(3, .int r_7), (0, .ref (B + 101)), (1, .int x1), (2, .int x2)]) dX12_keepSet_30 rfl (by decide) rfl rfl ?_
    refine f_iload_n C (j := 0) dX12_keepSet_31 rfl rfl rfl ?_
    refine f_if_ge C (t := 44) dX12_keepSet_32 (by decide) rfl (fun hq_8 => ?_) (fun hq_8 => ?_)
    · replace h := Eq.mp (if_pos hq_8) h
      refine f_iload_n C (j := 0) dX12_keepSet_44 rfl rfl rfl ?_
      exact f_iret C dX12_keepSet_45 h
    · replace h := Eq.mp (if_neg hq_8) h
      refine f_aload_n C (j := 1) dX12_keepSet_35 rfl rfl rfl ?_
      refine f_bipush C (v := 8) dX12_keepSet_36 kb8 rfl ?_
      refine f_callVi C (a := 101) (ci := 12) (As := fun B => [.int 8]) o101 rfl (c_X12_refuse  _ _ _ h) tM_X12_327 tI_X12_refuse tS_X12_refuse tN_X12 tC_X12_refuse 1 dd_X12_refuse rfl (by decide) (by decide) rfl (Nat.le_of_ble_eq_true rfl) dX12_keepSet_38 rfl (fun r_10 σ_9 h => ?_)
      refine f_goto C (t := 45) dX12_keepSet_41 (by decide) ?_
      exact f_iret C dX12_keepSet_45 h
  · replace h := Eq.mp (if_neg hq_5) h
    refine f_iconst C (v := (-1)) dX12_keepSet_22 kcm1 rfl ?_
    exact f_iret C dX12_keepSet_23 h
theorem c_X12_keepSet (x1 : Int32) (x2 : Int32) (σ : Sto) (P : Int32 → Sto → Prop) (h : w_X12_keepSet x1 x2 σ P) : Ct yX12_keepSet cX12_keepSet 4 (some .int) 8 191 (fun B => [.ref (B + 101), .int x1, .int x2]) σ (QFi P) := Ct.of (by decide) (fun _ => Nat.le_of_ble_eq_true rfl) (fun B E C => s_X12_keepSet C x1 x2 σ h)
def w_X12_striking_54 (K20 : Int32 × Int32 × Sto → Prop) (x1 : Int32) (x2 : Int32) (x3 : Int32) (x4 : Int32) (σ : Sto) (P : Int32 → Sto → Prop) : Prop :=
  vp_in (52 + x1) 2105 ∧ w_X12_standing ((gi σ 106 6) ||| x4) σ (fun r_12 σ_11 => (if ((gi σ 106 (tn (52 + x1))) &&& (~~~r_12)) = 0 then ∀ x4_14 : Int32, x4_14 = x4 + 1 → K20 (x3, x4_14, σ_11) else ∀ x4_16 : Int32, x4_16 = x4 + 1 → K20 (x4, x4_16, σ_11)))
theorem s_X12_striking_54 {B : Nat} {E : Nat → List (Nat × Value) → List Value → Sto → Prop} {P : Int32 → Sto → Prop} (C : Cy B E RX12 cX12_striking 5 (some .int) 3 69 (Zm (QFi P))) (x1 : Int32) (x2 : Int32) (x3 : Int32) (x4 : Int32) (K20 : Int32 × Int32 × Sto → Prop) (hK20 : ∀ (x3 : Int32) (x4 : Int32) (σ : Sto), K20 (x3, x4, σ) → E 20 [(0, .ref (B + 101)), (1, .int x1), (2, .int x2), (3, .int x3), (4, .int x4)] [] σ) (σ : Sto) (h : w_X12_striking_54 K20 x1 x2 x3 x4 σ P) : E 54 [(0, .ref (B + 101)), (1, .int x1), (2, .int x2), (3, .int x3), (4, .int x4)] [] σ := by
  unfold w_X12_striking_54 at h
  refine f_aload_n C (j := 0) dX12_striking_54 rfl rfl rfl ?_
  refine f_getc C tF_X12_35 rfl o101 cs101_20 (by decide) dX12_striking_55 rfl ?_
  refine f_bipush C (v := 52) dX12_striking_58 kb52 rfl ?_
  refine f_iload_n C (j := 1) dX12_striking_60 rfl rfl rfl ?_
  refine f_iadd C dX12_striking_61 rfl ?_
  obtain ⟨hi_10, h⟩ := h
  refine f_iald C (j := tn (52 + x1)) a106 hi_10 rfl dX12_striking_62 rfl ?_
  refine f_aload_n C (j := 0) dX12_striking_63 rfl rfl rfl ?_
  refine f_aload_n C (j := 0) dX12_striking_64 rfl rfl rfl ?_
  refine f_getc C tF_X12_35 rfl o101 cs101_20 (by decide) dX12_striking_65 rfl ?_
  refine f_bipush C (v := 6) dX12_striking_68 kb6 rfl ?_
  refine f_iald C (j := 6) a106 (vp_lit (by decide)) rfl dX12_striking_70 rfl ?_
  refine f_iload C (j := 4) dX12_striking_71 rfl rfl ?_
  refine f_ior C dX12_striking_73 rfl ?_
  refine f_callVi C (a := 101) (ci := 12) (As := fun B => [.int ((gi σ 106 6) ||| x4)]) o101 rfl (c_X12_standing  _ _ _ h) tM_X12_322 tI_X12_standing tS_X12_standing tN_X12 tC_X12_standing 1 dd_X12_standing rfl (by decide) (by decide) rfl (Nat.le_of_ble_eq_true rfl) dX12_striking_74 rfl (fun r_12 σ_11 h => ?_)
  refine f_iconst C (v := (-1)) dX12_striking_77 kcm1 rfl ?_
  refine f_inot C dX12_striking_78 rfl ?_
  refine f_iand C dX12_striking_79 rfl ?_
  refine f_if_eq C (t := 86) dX12_striking_80 (by decide) rfl (fun hq_13 => ?_) (fun hq_13 => ?_)
  · replace h := Eq.mp (if_pos hq_13) h
    obtain ⟨x4_14, hx_15⟩ : ∃ y : Int32, y = x4 + 1 := ⟨_, rfl⟩
    replace h := h x4_14 hx_15
    refine f_iinc C (j := 4) (v := x4_14) (lv2 := [(4, .int x4_14), (0, .ref (B + 101)), (1, .int x1), (2, .int x2), (3, .int x3)]) dX12_striking_86 rfl hx_15.symm (by decide) rfl rfl ?_
    refine f_goto C (t := 20) dX12_striking_89 (by decide) ?_
    refine f_lv C (lv2 := [(0, .ref (B + 101)), (1, .int x1), (2, .int x2), (3, .int x3), (4, .int x4_14)]) [1, 2, 3, 4, 0] rfl ?_
    exact hK20 _ _ _ h
  · replace h := Eq.mp (if_neg hq_13) h
    refine f_iload C (j := 4) dX12_striking_83 rfl rfl ?_
    refine f_istore_n C (lv2 := [(3, .int x4), (0, .ref (B + 101)), (1, .int x1), (2, .int x2), (4, .int x4)]) dX12_striking_85 rfl (by decide) rfl rfl ?_
    obtain ⟨x4_16, hx_17⟩ : ∃ y : Int32, y = x4 + 1 := ⟨_, rfl⟩
    replace h := h x4_16 hx_17
    refine f_iinc C (j := 4) (v := x4_16) (lv2 := [(4, .int x4_16), (3, .int x4), (0, .ref (B + 101)), (1, .int x1), (2, .int x2)]) dX12_striking_86 rfl hx_17.symm (by decide) rfl rfl ?_
    refine f_goto C (t := 20) dX12_striking_89 (by decide) ?_
    refine f_lv C (lv2 := [(0, .ref (B + 101)), (1, .int x1), (2, .int x2), (3, .int x4), (4, .int x4_16)]) [2, 3, 4, 1, 0] rfl ?_
    exact hK20 _ _ _ h
def w_X12_striking_20 (K20 : Int32 × Int32 × Sto → Prop) (x1 : Int32) (x2 : Int32) (x3 : Int32) (x4 : Int32) (σ : Sto) (P : Int32 → Sto → Prop) : Prop :=
  (if x2 < x4 then P x3 σ else (if (x4 &&& (~~~x2)) = 0 then (if x3 < 0 then w_X12_striking_54 K20 x1 x2 x3 x4 σ P else w_X12_sizeOf x4 σ (fun r_19 σ_18 => w_X12_sizeOf x3 σ_18 (fun r_21 σ_20 => (if r_19 < r_21 then w_X12_striking_54 K20 x1 x2 x3 x4 σ_20 P else ∀ x4_23 : Int32, x4_23 = x4 + 1 → K20 (x3, x4_23, σ_20))))) else ∀ x4_7 : Int32, x4_7 = x4 + 1 → K20 (x3, x4_7, σ)))
theorem s_X12_striking_20 {B : Nat} {E : Nat → List (Nat × Value) → List Value → Sto → Prop} {P : Int32 → Sto → Prop} (C : Cy B E RX12 cX12_striking 5 (some .int) 3 69 (Zm (QFi P))) (x1 : Int32) (x2 : Int32) (x3 : Int32) (x4 : Int32) (K20 : Int32 × Int32 × Sto → Prop) (hK20 : ∀ (x3 : Int32) (x4 : Int32) (σ : Sto), K20 (x3, x4, σ) → E 20 [(0, .ref (B + 101)), (1, .int x1), (2, .int x2), (3, .int x3), (4, .int x4)] [] σ) (σ : Sto) (h : w_X12_striking_20 K20 x1 x2 x3 x4 σ P) : E 20 [(0, .ref (B + 101)), (1, .int x1), (2, .int x2), (3, .int x3), (4, .int x4)] [] σ := by
  unfold w_X12_striking_20 at h
  refine f_iload C (j := 4) dX12_striking_20 rfl rfl ?_
  refine f_iload_n C (j := 2) dX12_striking_22 rfl rfl rfl ?_
  refine f_icmp_gt C (t := 92) dX12_striking_23 (by decide) rfl (fun hq_5 => ?_) (fun hq_5 => ?_)
  · replace h := Eq.mp (if_pos hq_5) h
    refine f_iload_n C (j := 3) dX12_striking_92 rfl rfl rfl ?_
    exact f_iret C dX12_striking_93 h
  · replace h := Eq.mp (if_neg hq_5) h
    refine f_iload C (j := 4) dX12_striking_26 rfl rfl ?_
    refine f_iload_n C (j := 2) dX12_striking_28 rfl rfl rfl ?_
    refine f_iconst C (v := (-1)) dX12_striking_29 kcm1 rfl ?_
    refine f_inot C dX12_striking_30 rfl ?_
    refine f_iand C dX12_striking_31 rfl ?_
    refine f_if_ne C (t := 86) dX12_striking_32 (by decide) rfl (fun hq_6 => ?_) (fun hq_6 => ?_)
    · replace h := Eq.mp (if_neg hq_6) h
      obtain ⟨x4_7, hx_8⟩ : ∃ y : Int32, y = x4 + 1 := ⟨_, rfl⟩
      replace h := h x4_7 hx_8
      refine f_iinc C (j := 4) (v := x4_7) (lv2 := [(4, .int x4_7), (0, .ref (B + 101)), (1, .int x1), (2, .int x2), (3, .int x3)]) dX12_striking_86 rfl hx_8.symm (by decide) rfl rfl ?_
      refine f_goto C (t := 20) dX12_striking_89 (by decide) ?_
      refine f_lv C (lv2 := [(0, .ref (B + 101)), (1, .int x1), (2, .int x2), (3, .int x3), (4, .int x4_7)]) [1, 2, 3, 4, 0] rfl ?_
      exact hK20 _ _ _ h
    · replace h := Eq.mp (if_pos hq_6) h
      refine f_iload_n C (j := 3) dX12_striking_35 rfl rfl rfl ?_
      refine f_if_lt C (t := 54) dX12_striking_36 (by decide) rfl (fun hq_9 => ?_) (fun hq_9 => ?_)
      · replace h := Eq.mp (if_pos hq_9) h
        exact s_X12_striking_54 C _ _ _ _  K20 hK20 _ h
      · replace h := Eq.mp (if_neg hq_9) h
        refine f_iload C (j := 4) dX12_striking_39 rfl rfl ?_
        refine f_callSi C (As := fun B => [.int x4]) (c_X12_sizeOf  _ _ _ h) tM_X12_397 tT_X12_sizeOf tN_X12 tC_X12_sizeOf 1 dd_X12_sizeOf rfl (by decide) (by decide) rfl (Nat.le_of_ble_eq_true rfl) dX12_striking_41 rfl (fun r_19 σ_18 h => ?_)
        refine f_iload_n C (j := 3) dX12_striking_44 rfl rfl rfl ?_
        refine f_callSi C (As := fun B => [.int x3]) (c_X12_sizeOf  _ _ _ h) tM_X12_397 tT_X12_sizeOf tN_X12 tC_X12_sizeOf 1 dd_X12_sizeOf rfl (by decide) (by decide) rfl (Nat.le_of_ble_eq_true rfl) dX12_striking_45 rfl (fun r_21 σ_20 h => ?_)
        refine f_icmp_lt C (t := 54) dX12_striking_48 (by decide) rfl (fun hq_22 => ?_) (fun hq_22 => ?_)
        · replace h := Eq.mp (if_pos hq_22) h
          exact s_X12_striking_54 C _ _ _ _  K20 hK20 _ h
        · replace h := Eq.mp (if_neg hq_22) h
          refine f_goto C (t := 86) dX12_striking_51 (by decide) ?_
          obtain ⟨x4_23, hx_24⟩ : ∃ y : Int32, y = x4 + 1 := ⟨_, rfl⟩
          replace h := h x4_23 hx_24
          refine f_iinc C (j := 4) (v := x4_23) (lv2 := [(4, .int x4_23), (0, .ref (B + 101)), (1, .int x1), (2, .int x2), (3, .int x3)]) dX12_striking_86 rfl hx_24.symm (by decide) rfl rfl ?_
          refine f_goto C (t := 20) dX12_striking_89 (by decide) ?_
          refine f_lv C (lv2 := [(0, .ref (B + 101)), (1, .int x1), (2, .int x2), (3, .int x3), (4, .int x4_23)]) [1, 2, 3, 4, 0] rfl ?_
          exact hK20 _ _ _ h
def w_X12_striking (x1 : Int32) (σ : Sto) (P : Int32 → Sto → Prop) : Prop :=
  w_X12_allThings σ (fun r_2 σ_1 => ∀ x2_3 : Int32, x2_3 = r_2 &&& (~~~(gi σ_1 106 7)) → Lp (fun (K : Int32 × Int32 × Sto → Prop) s => w_X12_striking_20 K x1 x2_3 s.1 s.2.1 s.2.2 P) ((-1), 0, σ_1))
theorem s_X12_striking {B : Nat} {E : Nat → List (Nat × Value) → List Value → Sto → Prop} {P : Int32 → Sto → Prop} (C : Cy B E RX12 cX12_striking 5 (some .int) 3 69 (Zm (QFi P))) (x1 : Int32) (σ : Sto) (h : w_X12_striking x1 σ P) : E 0 [(0, .ref (B + 101)), (1, .int x1)] [] σ := by
  unfold w_X12_striking at h
  refine f_aload_n C (j := 0) dX12_striking_0 rfl rfl rfl ?_
  refine f_callVi C (a := 101) (ci := 12) (As := fun B => []) o101 rfl (c_X12_allThings   _ _ h) tM_X12_313 tI_X12_allThings tS_X12_allThings tN_X12 tC_X12_allThings 0 dd_X12_allThings rfl (by decide) (by decide) rfl (Nat.le_of_ble_eq_true rfl) dX12_striking_1 rfl (fun r_2 σ_1 h => ?_)
  refine f_aload_n C (j := 0) dX12_striking_4 rfl rfl rfl ?_
  refine f_getc C tF_X12_35 rfl o101 cs101_20 (by decide) dX12_striking_5 rfl ?_
  refine f_bipush C (v := 7) dX12_striking_8 kb7 rfl ?_
  refine f_iald C (j := 7) a106 (vp_lit (by decide)) rfl dX12_striking_10 rfl ?_
  refine f_iconst C (v := (-1)) dX12_striking_11 kcm1 rfl ?_
  refine f_inot C dX12_striking_12 rfl ?_
  refine f_iand C dX12_striking_13 rfl ?_
  refine f_name (fun x2_3 hx_4 => ?_)
  replace h := h x2_3 hx_4
  refine f_istore_n C (lv2 := [(2, .int x2_3), (0, .ref (B + 101)), (1, .int x1)]) dX12_striking_14 rfl (by decide) rfl rfl ?_
  refine f_iconst C (v := (-1)) dX12_striking_15 kcm1 rfl ?_
  refine f_istore_n C (lv2 := [(3, .int (-1)), (2, .int x2_3), (0, .ref (B + 101)), (1, .int x1)]) dX12_striking_16 rfl (by decide) rfl rfl ?_
  refine f_iconst C (v := 0) dX12_striking_17 kc0 rfl ?_
  refine f_istore C (lv2 := [(4, .int 0), (3, .int (-1)), (2, .int x2_3), (0, .ref (B + 101)), (1, .int x1)]) dX12_striking_18 (by decide) rfl rfl ?_
  refine f_lv C (lv2 := [(0, .ref (B + 101)), (1, .int x1), (2, .int x2_3), (3, .int (-1)), (4, .int 0)]) [3, 4, 2, 1, 0] rfl ?_
  exact Lp_sound (fun s : Int32 × Int32 × Sto => E 20 [(0, .ref (B + 101)), (1, .int x1), (2, .int x2_3), (3, .int s.1), (4, .int s.2.1)] [] s.2.2) h (fun K s hK h => s_X12_striking_20 C x1 x2_3 s.1 s.2.1 K (fun x3 x4 σ hk => hK (x3, x4, σ) hk) s.2.2 h)
theorem c_X12_striking (x1 : Int32) (σ : Sto) (P : Int32 → Sto → Prop) (h : w_X12_striking x1 σ P) : Ct yX12_striking cX12_striking 5 (some .int) 3 69 (fun B => [.ref (B + 101), .int x1]) σ (QFi P) := Ct.of (by decide) (fun _ => Nat.le_of_ble_eq_true rfl) (fun B E C => s_X12_striking C x1 σ h)
def w_X12_strike (x1 : Int32) (σ : Sto) (P : Int32 → Sto → Prop) : Prop :=
  w_X12_isWorkAt x1 (si (si σ 101 1 0) 101 0 0) (fun r_2 σ_1 => (if r_2 = 0 then w_X12_refuse 2 σ_1 (fun r_12 σ_11 => P r_12 σ_11) else w_X12_striking x1 σ_1 (fun r_5 σ_4 => (if 0 ≤ r_5 then w_X12_sizeOf r_5 σ_4 (fun r_8 σ_7 => P r_8 σ_7) else w_X12_refuse 8 σ_4 (fun r_10 σ_9 => P r_10 σ_9)))))
theorem s_X12_strike {B : Nat} {E : Nat → List (Nat × Value) → List Value → Sto → Prop} {P : Int32 → Sto → Prop} (C : Cy B E RX12 cX12_strike 3 (some .int) 4 93 (Zm (QFi P))) (x1 : Int32) (σ : Sto) (h : w_X12_strike x1 σ P) : E 0 [(0, .ref (B + 101)), (1, .int x1)] [] σ := by
  unfold w_X12_strike at h
  refine f_aload_n C (j := 0) dX12_strike_0 rfl rfl rfl ?_
  refine f_iconst C (v := 0) dX12_strike_1 kc0 rfl ?_
  refine f_puti C tF_X12_74 fm_12_1 rfl o101 dX12_strike_2 rfl ?_
  refine f_aload_n C (j := 0) dX12_strike_5 rfl rfl rfl ?_
  refine f_iconst C (v := 0) dX12_strike_6 kc0 rfl ?_
  refine f_puti C tF_X12_77 fm_12_0 rfl o101 dX12_strike_7 rfl ?_
  refine f_aload_n C (j := 0) dX12_strike_10 rfl rfl rfl ?_
  refine f_iload_n C (j := 1) dX12_strike_11 rfl rfl rfl ?_
  refine f_callVi C (a := 101) (ci := 12) (As := fun B => [.int x1]) o101 rfl (c_X12_isWorkAt  _ _ _ h) tM_X12_342 tI_X12_isWorkAt tS_X12_isWorkAt tN_X12 tC_X12_isWorkAt 1 dd_X12_isWorkAt rfl (by decide) (by decide) rfl (Nat.le_of_ble_eq_true rfl) dX12_strike_12 rfl (fun r_2 σ_1 h => ?_)
  refine f_if_ne C (t := 24) dX12_strike_15 (by decide) rfl (fun hq_3 => ?_) (fun hq_3 => ?_)
  · replace h := Eq.mp (if_neg hq_3) h
    refine f_aload_n C (j := 0) dX12_strike_24 rfl rfl rfl ?_
    refine f_iload_n C (j := 1) dX12_strike_25 rfl rfl rfl ?_
    refine f_callVi C (a := 101) (ci := 12) (As := fun B => [.int x1]) o101 rfl (c_X12_striking  _ _ _ h) tM_X12_412 tI_X12_striking tS_X12_striking tN_X12 tC_X12_striking 1 dd_X12_striking rfl (by decide) (by decide) rfl (Nat.le_of_ble_eq_true rfl) dX12_strike_26 rfl (fun r_5 σ_4 h => ?_)
    refine f_istore_n C (lv2 := [(2, .int r_5), (0, .ref (B + 101)), (1, .int x1)]) dX12_strike_29 rfl (by decide) rfl rfl ?_
    refine f_iload_n C (j := 0) dX12_strike_30 rfl rfl rfl ?_
    refine f_if_ge C (t := 43) dX12_strike_31 (by decide) rfl (fun hq_6 => ?_) (fun hq_6 => ?_)
    · replace h := Eq.mp (if_pos hq_6) h
      refine f_iload_n C (j := 0) dX12_strike_43 rfl rfl rfl ?_
      refine f_callSi C (As := fun B => [.int r_5]) (c_X12_sizeOf  _ _ _ h) tM_X12_397 tT_X12_sizeOf tN_X12 tC_X12_sizeOf 1 dd_X12_sizeOf rfl (by decide) (by decide) rfl (Nat.le_of_ble_eq_true rfl) dX12_strike_44 rfl (fun r_8 σ_7 h => ?_)
      exact f_iret C dX12_strike_47 h
    · replace h := Eq.mp (if_neg hq_6) h
      refine f_aload_n C (j := 1) dX12_strike_34 rfl rfl rfl ?_
      refine f_bipush C (v := 8) dX12_strike_35 kb8 rfl ?_
      refine f_callVi C (a := 101) (ci := 12) (As := fun B => [.int 8]) o101 rfl (c_X12_refuse  _ _ _ h) tM_X12_327 tI_X12_refuse tS_X12_refuse tN_X12 tC_X12_refuse 1 dd_X12_refuse rfl (by decide) (by decide) rfl (Nat.le_of_ble_eq_true rfl) dX12_strike_37 rfl (fun r_10 σ_9 h => ?_)
      refine f_goto C (t := 47) dX12_strike_40 (by decide) ?_
      exact f_iret C dX12_strike_47 h
  · replace h := Eq.mp (if_pos hq_3) h
    refine f_aload_n C (j := 0) dX12_strike_18 rfl rfl rfl ?_
    refine f_iconst C (v := 2) dX12_strike_19 kc2 rfl ?_
    refine f_callVi C (a := 101) (ci := 12) (As := fun B => [.int 2]) o101 rfl (c_X12_refuse  _ _ _ h) tM_X12_327 tI_X12_refuse tS_X12_refuse tN_X12 tC_X12_refuse 1 dd_X12_refuse rfl (by decide) (by decide) rfl (Nat.le_of_ble_eq_true rfl) dX12_strike_20 rfl (fun r_12 σ_11 h => ?_)
    exact f_iret C dX12_strike_23 h
theorem c_X12_strike (x1 : Int32) (σ : Sto) (P : Int32 → Sto → Prop) (h : w_X12_strike x1 σ P) : Ct yX12_strike cX12_strike 3 (some .int) 4 93 (fun B => [.ref (B + 101), .int x1]) σ (QFi P) := Ct.of (by decide) (fun _ => Nat.le_of_ble_eq_true rfl) (fun B E C => s_X12_strike C x1 σ h)
def w_X12_strikeSet (x1 : Int32) (σ : Sto) (P : Int32 → Sto → Prop) : Prop :=
  w_X12_isWorkAt x1 (si (si σ 101 1 0) 101 0 0) (fun r_2 σ_1 => (if r_2 = 0 then w_X12_refuse 2 σ_1 (fun r_10 σ_9 => P r_10 σ_9) else w_X12_striking x1 σ_1 (fun r_5 σ_4 => (if 0 ≤ r_5 then P r_5 σ_4 else w_X12_refuse 8 σ_4 (fun r_8 σ_7 => P r_8 σ_7)))))
theorem s_X12_strikeSet {B : Nat} {E : Nat → List (Nat × Value) → List Value → Sto → Prop} {P : Int32 → Sto → Prop} (C : Cy B E RX12 cX12_strikeSet 3 (some .int) 4 93 (Zm (QFi P))) (x1 : Int32) (σ : Sto) (h : w_X12_strikeSet x1 σ P) : E 0 [(0, .ref (B + 101)), (1, .int x1)] [] σ := by
  unfold w_X12_strikeSet at h
  refine f_aload_n C (j := 0) dX12_strikeSet_0 rfl rfl rfl ?_
  refine f_iconst C (v := 0) dX12_strikeSet_1 kc0 rfl ?_
  refine f_puti C tF_X12_74 fm_12_1 rfl o101 dX12_strikeSet_2 rfl ?_
  refine f_aload_n C (j := 0) dX12_strikeSet_5 rfl rfl rfl ?_
  refine f_iconst C (v := 0) dX12_strikeSet_6 kc0 rfl ?_
  refine f_puti C tF_X12_77 fm_12_0 rfl o101 dX12_strikeSet_7 rfl ?_
  refine f_aload_n C (j := 0) dX12_strikeSet_10 rfl rfl rfl ?_
  refine f_iload_n C (j := 1) dX12_strikeSet_11 rfl rfl rfl ?_
  refine f_callVi C (a := 101) (ci := 12) (As := fun B => [.int x1]) o101 rfl (c_X12_isWorkAt  _ _ _ h) tM_X12_342 tI_X12_isWorkAt tS_X12_isWorkAt tN_X12 tC_X12_isWorkAt 1 dd_X12_isWorkAt rfl (by decide) (by decide) rfl (Nat.le_of_ble_eq_true rfl) dX12_strikeSet_12 rfl (fun r_2 σ_1 h => ?_)
  refine f_if_ne C (t := 24) dX12_strikeSet_15 (by decide) rfl (fun hq_3 => ?_) (fun hq_3 => ?_)
  · replace h := Eq.mp (if_neg hq_3) h
    refine f_aload_n C (j := 0) dX12_strikeSet_24 rfl rfl rfl ?_
    refine f_iload_n C (j := 1) dX12_strikeSet_25 rfl rfl rfl ?_
    refine f_callVi C (a := 101) (ci := 12) (As := fun B => [.int x1]) o101 rfl (c_X12_striking  _ _ _ h) tM_X12_412 tI_X12_striking tS_X12_striking tN_X12 tC_X12_striking 1 dd_X12_striking rfl (by decide) (by decide) rfl (Nat.le_of_ble_eq_true rfl) dX12_strikeSet_26 rfl (fun r_5 σ_4 h => ?_)
    refine f_istore_n C (lv2 := [(2, .int r_5), (0, .ref (B + 101)), (1, .int x1)]) dX12_strikeSet_29 rfl (by decide) rfl rfl ?_
    refine f_iload_n C (j := 0) dX12_strikeSet_30 rfl rfl rfl ?_
    refine f_if_ge C (t := 43) dX12_strikeSet_31 (by decide) rfl (fun hq_6 => ?_) (fun hq_6 => ?_)
    · replace h := Eq.mp (if_pos hq_6) h
      refine f_iload_n C (j := 0) dX12_strikeSet_43 rfl rfl rfl ?_
      exact f_iret C dX12_strikeSet_44 h
    · replace h := Eq.mp (if_neg hq_6) h
      refine f_aload_n C (j := 1) dX12_strikeSet_34 rfl rfl rfl ?_
      refine f_bipush C (v := 8) dX12_strikeSet_35 kb8 rfl ?_
      refine f_callVi C (a := 101) (ci := 12) (As := fun B => [.int 8]) o101 rfl (c_X12_refuse  _ _ _ h) tM_X12_327 tI_X12_refuse tS_X12_refuse tN_X12 tC_X12_refuse 1 dd_X12_refuse rfl (by decide) (by decide) rfl (Nat.le_of_ble_eq_true rfl) dX12_strikeSet_37 rfl (fun r_8 σ_7 h => ?_)
      refine f_goto C (t := 44) dX12_strikeSet_40 (by decide) ?_
      exact f_iret C dX12_strikeSet_44 h
  · replace h := Eq.mp (if_pos hq_3) h
    refine f_aload_n C (j := 0) dX12_strikeSet_18 rfl rfl rfl ?_
    refine f_iconst C (v := 2) dX12_strikeSet_19 kc2 rfl ?_
    refine f_callVi C (a := 101) (ci := 12) (As := fun B => [.int 2]) o101 rfl (c_X12_refuse  _ _ _ h) tM_X12_327 tI_X12_refuse tS_X12_refuse tN_X12 tC_X12_refuse 1 dd_X12_refuse rfl (by decide) (by decide) rfl (Nat.le_of_ble_eq_true rfl) dX12_strikeSet_20 rfl (fun r_10 σ_9 h => ?_)
    exact f_iret C dX12_strikeSet_23 h
theorem c_X12_strikeSet (x1 : Int32) (σ : Sto) (P : Int32 → Sto → Prop) (h : w_X12_strikeSet x1 σ P) : Ct yX12_strikeSet cX12_strikeSet 3 (some .int) 4 93 (fun B => [.ref (B + 101), .int x1]) σ (QFi P) := Ct.of (by decide) (fun _ => Nat.le_of_ble_eq_true rfl) (fun B E C => s_X12_strikeSet C x1 σ h)
def w_X12_orders_65 (rec : Int32 → Int32 → Int32 → Int32 → Sto → (Sto → Prop) → Prop) (K65 : Int32 × Sto → Prop) (x1 : Int32) (x2 : Int32) (x3 : Int32) (x4 : Int32) (x5 : Int32) (σ : Sto) (P : Sto → Prop) : Prop :=
  (if (gi σ 106 0) ≤ x5 then P σ else w_X12_has x1 x5 σ (fun r_4 σ_3 => (if r_4 = 0 then ∀ x5_19 : Int32, x5_19 = x5 + 1 → K65 (x5_19, σ_3) else vp_in x3 6 ∧ ∀ x6_7 : Int32, x6_7 = x2 ||| (1 <<< (x5 &&& 31)) → w_X12_standing x6_7 (si σ_3 112 (tn x3) x5) (fun r_10 σ_9 => w_X12_doneBy r_10 σ_9 (fun r_12 σ_11 => w_X12_sizeOf r_12 σ_11 (fun r_14 σ_13 => rec (x1 &&& (~~~(1 <<< (x5 &&& 31)))) x6_7 (x3 + 1) (x4 + r_14) σ_13 (fun σ_15 => ∀ x5_17 : Int32, x5_17 = x5 + 1 → K65 (x5_17, σ_15))))))))
theorem s_X12_orders_65 {B : Nat} {E : Nat → List (Nat × Value) → List Value → Sto → Prop} (rec : Int32 → Int32 → Int32 → Int32 → Sto → (Sto → Prop) → Prop) (n : Nat) (hrec : ∀ (x1 : Int32) (x2 : Int32) (x3 : Int32) (x4 : Int32) (σ : Sto) (P : Sto → Prop), rec x1 x2 x3 x4 σ P → Ct yX12_orders cX12_orders 7 none (3 + n) (69 + n * 26) (fun B => [.ref (B + 101), .int x1, .int x2, .int x3, .int x4]) σ (QFv P)) {P : Sto → Prop} (C : Cy B E RX12 cX12_orders 7 none (3 + (n + 1)) (69 + (n + 1) * 26) (Zm (QFv P))) (x1 : Int32) (x2 : Int32) (x3 : Int32) (x4 : Int32) (x5 : Int32) (K65 : Int32 × Sto → Prop) (hK65 : ∀ (x5 : Int32) (σ : Sto), K65 (x5, σ) → E 65 [(0, .ref (B + 101)), (1, .int x1), (2, .int x2), (3, .int x3), (4, .int x4), (5, .int x5)] [] σ) (σ : Sto) (h : w_X12_orders_65 rec K65 x1 x2 x3 x4 x5 σ P) : E 65 [(0, .ref (B + 101)), (1, .int x1), (2, .int x2), (3, .int x3), (4, .int x4), (5, .int x5)] [] σ := by
  unfold w_X12_orders_65 at h
  refine f_iload C (j := 5) dX12_orders_65 rfl rfl ?_
  refine f_aload_n C (j := 0) dX12_orders_67 rfl rfl rfl ?_
  refine f_getc C tF_X12_35 rfl o101 cs101_20 (by decide) dX12_orders_68 rfl ?_
  refine f_iconst C (v := 0) dX12_orders_71 kc0 rfl ?_
  refine f_iald C (j := 0) a106 (vp_lit (by decide)) rfl dX12_orders_72 rfl ?_
  refine f_icmp_ge C (t := 143) dX12_orders_73 (by decide) rfl (fun hq_2 => ?_) (fun hq_2 => ?_)
  · replace h := Eq.mp (if_pos hq_2) h
    exact f_vret C dX12_orders_143 h
  · replace h := Eq.mp (if_neg hq_2) h
    refine f_iload_n C (j := 1) dX12_orders_76 rfl rfl rfl ?_
    refine f_iload C (j := 5) dX12_orders_77 rfl rfl ?_
    refine f_callSi C (As := fun B => [.int x1, .int x5]) (c_X12_has  _ _ _ _ h) tM_X12_113 tT_X12_has tN_X12 tC_X12_has 2 dd_X12_has rfl (by omega) (by omega) rfl (Nat.le_of_ble_eq_true rfl) dX12_orders_79 rfl (fun r_4 σ_3 h => ?_)
    refine f_if_ne C (t := 88) dX12_orders_82 (by decide) rfl (fun hq_5 => ?_) (fun hq_5 => ?_)
    · replace h := Eq.mp (if_neg hq_5) h
      refine f_aload_n C (j := 0) dX12_orders_88 rfl rfl rfl ?_
      refine f_getc C tF_X12_53 rfl o101 cs101_29 (by decide) dX12_orders_89 rfl ?_
      refine f_iload_n C (j := 3) dX12_orders_92 rfl rfl rfl ?_
      refine f_iload C (j := 5) dX12_orders_93 rfl rfl ?_
      obtain ⟨hi_6, h⟩ := h
      refine f_iast C (j := tn x3) a112 hi_6 rfl dX12_orders_95 rfl ?_
      refine f_iload_n C (j := 2) dX12_orders_96 rfl rfl rfl ?_
      refine f_iconst C (v := 1) dX12_orders_97 kc1 rfl ?_
      refine f_iload C (j := 5) dX12_orders_98 rfl rfl ?_
      refine f_ishl C dX12_orders_100 rfl ?_
      refine f_ior C dX12_orders_101 rfl ?_
      refine f_name (fun x6_7 hx_8 => ?_)
      replace h := h x6_7 hx_8
      refine f_istore C (lv2 := [(6, .int x6_7), (0, .ref (B + 101)), (1, .int x1), (2, .int x2), (3, .int x3), (4, .int x4), (5, .int x5)]) dX12_orders_102 (by decide) rfl rfl ?_
      refine f_aload_n C (j := 1) dX12_orders_104 rfl rfl rfl ?_
      refine f_iload_n C (j := 2) dX12_orders_105 rfl rfl rfl ?_
      refine f_iconst C (v := 1) dX12_orders_106 kc1 rfl ?_
      refine f_iload C (j := 6) dX12_orders_107 rfl rfl ?_
      refine f_ishl C dX12_orders_109 rfl ?_
      refine f_iconst C (v := (-1)) dX12_orders_110 kcm1 rfl ?_
      refine f_inot C dX12_orders_111 rfl ?_
      refine f_iand C dX12_orders_112 rfl ?_
      refine f_iload C (j := 0) dX12_orders_113 rfl rfl ?_
      refine f_iload_n C (j := 4) dX12_orders_115 rfl rfl rfl ?_
      refine f_iconst C (v := 1) dX12_orders_116 kc1 rfl ?_
      refine f_iadd C dX12_orders_117 rfl ?_
      refine f_iload C (j := 5) dX12_orders_118 rfl rfl ?_
      refine f_aload_n C (j := 1) dX12_orders_120 rfl rfl rfl ?_
      refine f_aload_n C (j := 1) dX12_orders_121 rfl rfl rfl ?_
      refine f_iload C (j := 0) dX12_orders_122 rfl rfl ?_
      refine f_callVi C (a := 101) (ci := 12) (As := fun B => [.int x6_7]) o101 rfl (c_X12_standing  _ _ _ h) tM_X12_322 tI_X12_standing tS_X12_standing tN_X12 tC_X12_standing 1 dd_X12_standing rfl (by omega) (by omega) rfl (Nat.le_of_ble_eq_true rfl) dX12_orders_124 rfl (fun r_10 σ_9 h => ?_)
      refine f_callVi C (a := 101) (ci := 12) (As := fun B => [.int r_10]) o101 rfl (c_X12_doneBy  _ _ _ h) tM_X12_333 tI_X12_doneBy tS_X12_doneBy tN_X12 tC_X12_doneBy 1 dd_X12_doneBy rfl (by omega) (by omega) rfl (Nat.le_of_ble_eq_true rfl) dX12_orders_127 rfl (fun r_12 σ_11 h => ?_)
      refine f_callSi C (As := fun B => [.int r_12]) (c_X12_sizeOf  _ _ _ h) tM_X12_397 tT_X12_sizeOf tN_X12 tC_X12_sizeOf 1 dd_X12_sizeOf rfl (by omega) (by omega) rfl (Nat.le_of_ble_eq_true rfl) dX12_orders_130 rfl (fun r_14 σ_13 h => ?_)
      refine f_iadd C dX12_orders_133 rfl ?_
      refine f_callVv C (a := 101) (ci := 12) (As := fun B => [.int (x1 &&& (~~~(1 <<< (x5 &&& 31)))), .int x6_7, .int (x3 + 1), .int (x4 + r_14)]) o101 rfl (hrec _ _ _ _ _ _ h) tM_X12_421 tI_X12_orders tS_X12_orders tN_X12 tC_X12_orders 4 dd_X12_orders rfl (by omega) (by omega) rfl (Nat.le_of_ble_eq_true rfl) dX12_orders_134 rfl (fun σ_15 h => ?_)
      obtain ⟨x5_17, hx_18⟩ : ∃ y : Int32, y = x5 + 1 := ⟨_, rfl⟩
      replace h := h x5_17 hx_18
      refine f_iinc C (j := 6) (v := x5_17) (lv2 := [(5, .int x5_17), (6, .int x6_7), (0, .ref (B + 101)), (1, .int x1), (2, .int x2), (3, .int x3), (4, .int x4)]) dX12_orders_137 rfl hx_18.symm (by decide) rfl rfl ?_
      refine f_goto C (t := 65) dX12_orders_140 (by decide) ?_
      refine f_lv C (lv2 := [(0, .ref (B + 101)), (1, .int x1), (2, .int x2), (3, .int x3), (4, .int x4), (5, .int x5_17)]) [2, 3, 4, 5, 6, 0] rfl ?_
      exact hK65 _ _ h
    · replace h := Eq.mp (if_pos hq_5) h
      refine f_goto C (t := 137) dX12_orders_85 (by decide) ?_
      obtain ⟨x5_19, hx_20⟩ : ∃ y : Int32, y = x5 + 1 := ⟨_, rfl⟩
      replace h := h x5_19 hx_20
      refine f_iinc C (j := 5) (v := x5_19) (lv2 := [(5, .int x5_19), (0, .ref (B + 101)), (1, .int x1), (2, .int x2), (3, .int x3), (4, .int x4)]) dX12_orders_137 rfl hx_20.symm (by decide) rfl rfl ?_
      refine f_goto C (t := 65) dX12_orders_140 (by decide) ?_
      refine f_lv C (lv2 := [(0, .ref (B + 101)), (1, .int x1), (2, .int x2), (3, .int x3), (4, .int x4), (5, .int x5_19)]) [1, 2, 3, 4, 5, 0] rfl ?_
      exact hK65 _ _ h
def w_X12_orders_35 (rec : Int32 → Int32 → Int32 → Int32 → Sto → (Sto → Prop) → Prop) (K35 : Int32 × Sto → Prop) (x3 : Int32) (x5 : Int32) (σ : Sto) (P : Sto → Prop) : Prop :=
  (if x3 ≤ x5 then P σ else vp_in x5 6 ∧ ∀ x5_24 : Int32, x5_24 = x5 + 1 → K35 (x5_24, si σ 113 (tn x5) (gi σ 112 (tn x5))))
theorem s_X12_orders_35 {B : Nat} {E : Nat → List (Nat × Value) → List Value → Sto → Prop} (rec : Int32 → Int32 → Int32 → Int32 → Sto → (Sto → Prop) → Prop) (n : Nat) (hrec : ∀ (x1 : Int32) (x2 : Int32) (x3 : Int32) (x4 : Int32) (σ : Sto) (P : Sto → Prop), rec x1 x2 x3 x4 σ P → Ct yX12_orders cX12_orders 7 none (3 + n) (69 + n * 26) (fun B => [.ref (B + 101), .int x1, .int x2, .int x3, .int x4]) σ (QFv P)) {P : Sto → Prop} (C : Cy B E RX12 cX12_orders 7 none (3 + (n + 1)) (69 + (n + 1) * 26) (Zm (QFv P))) (x3 : Int32) (x5 : Int32) (K35 : Int32 × Sto → Prop) (hK35 : ∀ (x5 : Int32) (σ : Sto), K35 (x5, σ) → E 35 [(0, .ref (B + 101)), (3, .int x3), (5, .int x5)] [] σ) (σ : Sto) (h : w_X12_orders_35 rec K35 x3 x5 σ P) : E 35 [(0, .ref (B + 101)), (3, .int x3), (5, .int x5)] [] σ := by
  unfold w_X12_orders_35 at h
  refine f_iload C (j := 2) dX12_orders_35 rfl rfl ?_
  refine f_iload_n C (j := 1) dX12_orders_37 rfl rfl rfl ?_
  refine f_icmp_ge C (t := 61) dX12_orders_38 (by decide) rfl (fun hq_22 => ?_) (fun hq_22 => ?_)
  · replace h := Eq.mp (if_pos hq_22) h
    exact f_vret C dX12_orders_61 h
  · replace h := Eq.mp (if_neg hq_22) h
    refine f_aload_n C (j := 0) dX12_orders_41 rfl rfl rfl ?_
    refine f_getc C tF_X12_56 rfl o101 cs101_30 (by decide) dX12_orders_42 rfl ?_
    refine f_iload C (j := 2) dX12_orders_45 rfl rfl ?_
    refine f_aload_n C (j := 0) dX12_orders_47 rfl rfl rfl ?_
    refine f_getc C tF_X12_53 rfl o101 cs101_29 (by decide) dX12_orders_48 rfl ?_
    refine f_iload C (j := 2) dX12_orders_51 rfl rfl ?_
    obtain ⟨hi_23, h⟩ := h
    refine f_iald C (j := tn x5) a112 hi_23 rfl dX12_orders_53 rfl ?_
    refine f_iast C (j := tn x5) a113 hi_23 rfl dX12_orders_54 rfl ?_
    obtain ⟨x5_24, hx_25⟩ : ∃ y : Int32, y = x5 + 1 := ⟨_, rfl⟩
    replace h := h x5_24 hx_25
    refine f_iinc C (j := 2) (v := x5_24) (lv2 := [(5, .int x5_24), (0, .ref (B + 101)), (3, .int x3)]) dX12_orders_55 rfl hx_25.symm (by decide) rfl rfl ?_
    refine f_goto C (t := 35) dX12_orders_58 (by decide) ?_
    refine f_lv C (lv2 := [(0, .ref (B + 101)), (3, .int x3), (5, .int x5_24)]) [1, 2, 0] rfl ?_
    exact hK35 _ _ h
def w_X12_orders_21 (rec : Int32 → Int32 → Int32 → Int32 → Sto → (Sto → Prop) → Prop) (x3 : Int32) (x4 : Int32) (σ : Sto) (P : Sto → Prop) : Prop :=
  Lp (fun (K : Int32 × Sto → Prop) s => w_X12_orders_35 rec K x3 s.1 s.2 P) (0, si (si σ 101 32 x4) 101 31 x3)
theorem s_X12_orders_21 {B : Nat} {E : Nat → List (Nat × Value) → List Value → Sto → Prop} (rec : Int32 → Int32 → Int32 → Int32 → Sto → (Sto → Prop) → Prop) (n : Nat) (hrec : ∀ (x1 : Int32) (x2 : Int32) (x3 : Int32) (x4 : Int32) (σ : Sto) (P : Sto → Prop), rec x1 x2 x3 x4 σ P → Ct yX12_orders cX12_orders 7 none (3 + n) (69 + n * 26) (fun B => [.ref (B + 101), .int x1, .int x2, .int x3, .int x4]) σ (QFv P)) {P : Sto → Prop} (C : Cy B E RX12 cX12_orders 7 none (3 + (n + 1)) (69 + (n + 1) * 26) (Zm (QFv P))) (x3 : Int32) (x4 : Int32) (σ : Sto) (h : w_X12_orders_21 rec x3 x4 σ P) : E 21 [(0, .ref (B + 101)), (3, .int x3), (4, .int x4)] [] σ := by
  unfold w_X12_orders_21 at h
  refine f_aload_n C (j := 0) dX12_orders_21 rfl rfl rfl ?_
  refine f_iload C (j := 2) dX12_orders_22 rfl rfl ?_
  refine f_puti C tF_X12_415 fm_12_32 rfl o101 dX12_orders_24 rfl ?_
  refine f_aload_n C (j := 0) dX12_orders_27 rfl rfl rfl ?_
  refine f_iload_n C (j := 1) dX12_orders_28 rfl rfl rfl ?_
  refine f_puti C tF_X12_418 fm_12_31 rfl o101 dX12_orders_29 rfl ?_
  refine f_iconst C (v := 0) dX12_orders_32 kc0 rfl ?_
  refine f_istore C (lv2 := [(5, .int 0), (0, .ref (B + 101)), (3, .int x3), (4, .int x4)]) dX12_orders_33 (by decide) rfl rfl ?_
  refine f_lv C (lv2 := [(0, .ref (B + 101)), (3, .int x3), (5, .int 0)]) [1, 2, 0] rfl ?_
  exact Lp_sound (fun s : Int32 × Sto => E 35 [(0, .ref (B + 101)), (3, .int x3), (5, .int s.1)] [] s.2) h (fun K s hK h => s_X12_orders_35 (rec := rec) n hrec C x3 s.1 K (fun x5 σ hk => hK (x5, σ) hk) s.2 h)
def w_X12_orders_e (rec : Int32 → Int32 → Int32 → Int32 → Sto → (Sto → Prop) → Prop) (x1 : Int32) (x2 : Int32) (x3 : Int32) (x4 : Int32) (σ : Sto) (P : Sto → Prop) : Prop :=
  (if x1 = 0 then (if (gi σ 101 32) < 0 then w_X12_orders_21 rec x3 x4 σ P else (if (gi σ 101 32) < x4 then w_X12_orders_21 rec x3 x4 σ P else P σ)) else Lp (fun (K : Int32 × Sto → Prop) s => w_X12_orders_65 rec K x1 x2 x3 x4 s.1 s.2 P) (0, σ))
theorem s_X12_orders_e {B : Nat} {E : Nat → List (Nat × Value) → List Value → Sto → Prop} (rec : Int32 → Int32 → Int32 → Int32 → Sto → (Sto → Prop) → Prop) (n : Nat) (hrec : ∀ (x1 : Int32) (x2 : Int32) (x3 : Int32) (x4 : Int32) (σ : Sto) (P : Sto → Prop), rec x1 x2 x3 x4 σ P → Ct yX12_orders cX12_orders 7 none (3 + n) (69 + n * 26) (fun B => [.ref (B + 101), .int x1, .int x2, .int x3, .int x4]) σ (QFv P)) {P : Sto → Prop} (C : Cy B E RX12 cX12_orders 7 none (3 + (n + 1)) (69 + (n + 1) * 26) (Zm (QFv P))) (x1 : Int32) (x2 : Int32) (x3 : Int32) (x4 : Int32) (σ : Sto) (h : w_X12_orders_e rec x1 x2 x3 x4 σ P) : E 0 [(0, .ref (B + 101)), (1, .int x1), (2, .int x2), (3, .int x3), (4, .int x4)] [] σ := by
  unfold w_X12_orders_e at h
  refine f_iload_n C (j := 1) dX12_orders_0 rfl rfl rfl ?_
  refine f_if_ne C (t := 62) dX12_orders_1 (by decide) rfl (fun hq_1 => ?_) (fun hq_1 => ?_)
  · replace h := Eq.mp (if_neg hq_1) h
    refine f_iconst C (v := 0) dX12_orders_62 kc0 rfl ?_
    refine f_istore C (lv2 := [(5, .int 0), (0, .ref (B + 101)), (1, .int x1), (2, .int x2), (3, .int x3), (4, .int x4)]) dX12_orders_63 (by decide) rfl rfl ?_
    refine f_lv C (lv2 := [(0, .ref (B + 101)), (1, .int x1), (2, .int x2), (3, .int x3), (4, .int x4), (5, .int 0)]) [1, 2, 3, 4, 5, 0] rfl ?_
    exact Lp_sound (fun s : Int32 × Sto => E 65 [(0, .ref (B + 101)), (1, .int x1), (2, .int x2), (3, .int x3), (4, .int x4), (5, .int s.1)] [] s.2) h (fun K s hK h => s_X12_orders_65 (rec := rec) n hrec C x1 x2 x3 x4 s.1 K (fun x5 σ hk => hK (x5, σ) hk) s.2 h)
  · replace h := Eq.mp (if_pos hq_1) h
    refine f_aload_n C (j := 0) dX12_orders_4 rfl rfl rfl ?_
    refine f_geti C tF_X12_415 rfl o101 dX12_orders_5 rfl ?_
    refine f_if_lt C (t := 21) dX12_orders_8 (by decide) rfl (fun hq_21 => ?_) (fun hq_21 => ?_)
    · replace h := Eq.mp (if_pos hq_21) h
      refine f_lv C (lv2 := [(0, .ref (B + 101)), (3, .int x3), (4, .int x4)]) [0, 3, 4] rfl ?_
      exact s_X12_orders_21 (rec := rec) n hrec C _ _  _ h
    · replace h := Eq.mp (if_neg hq_21) h
      refine f_iload C (j := 4) dX12_orders_11 rfl rfl ?_
      refine f_aload_n C (j := 0) dX12_orders_13 rfl rfl rfl ?_
      refine f_geti C tF_X12_415 rfl o101 dX12_orders_14 rfl ?_
      refine f_icmp_gt C (t := 21) dX12_orders_17 (by decide) rfl (fun hq_26 => ?_) (fun hq_26 => ?_)
      · replace h := Eq.mp (if_pos hq_26) h
        refine f_lv C (lv2 := [(0, .ref (B + 101)), (3, .int x3), (4, .int x4)]) [0, 3, 4] rfl ?_
        exact s_X12_orders_21 (rec := rec) n hrec C _ _  _ h
      · replace h := Eq.mp (if_neg hq_26) h
        exact f_vret C dX12_orders_20 h
def w_X12_orders : Nat → Int32 → Int32 → Int32 → Int32 → Sto → (Sto → Prop) → Prop
  | 0 => fun _ _ _ _ _ _ => False
  | n + 1 => fun x1 x2 x3 x4 σ P => w_X12_orders_e (w_X12_orders n) x1 x2 x3 x4 σ P
theorem c_X12_orders (n : Nat) (x1 : Int32) (x2 : Int32) (x3 : Int32) (x4 : Int32) (σ : Sto) (P : Sto → Prop) (h : w_X12_orders n x1 x2 x3 x4 σ P) : Ct yX12_orders cX12_orders 7 none (3 + n) (69 + n * 26) (fun B => [.ref (B + 101), .int x1, .int x2, .int x3, .int x4]) σ (QFv P) := by
  induction n generalizing x1 x2 x3 x4 σ P with
  | zero => exact h.elim
  | succ n ih => exact Ct.of (by decide) (fun _ => Nat.le_of_ble_eq_true rfl) (fun B E C => s_X12_orders_e (rec := w_X12_orders n) n ih C x1 x2 x3 x4 σ h)
def w_X12_agenda_33 (σ : Sto) (P : Int32 → Sto → Prop) : Prop :=
  w_X12_refuse 5 σ (fun r_5 σ_4 => P r_5 σ_4)
theorem s_X12_agenda_33 {B : Nat} {E : Nat → List (Nat × Value) → List Value → Sto → Prop} {P : Int32 → Sto → Prop} (C : Cy B E RX12 cX12_agenda 2 (some .int) 20 511 (Zm (QFi P))) (σ : Sto) (h : w_X12_agenda_33 σ P) : E 33 [(0, .ref (B + 101))] [] σ := by
  unfold w_X12_agenda_33 at h
  refine f_aload_n C (j := 0) dX12_agenda_33 rfl rfl rfl ?_
  refine f_iconst C (v := 5) dX12_agenda_34 kc5 rfl ?_
  refine f_callVi C (a := 101) (ci := 12) (As := fun B => [.int 5]) o101 rfl (c_X12_refuse  _ _ _ h) tM_X12_327 tI_X12_refuse tS_X12_refuse tN_X12 tC_X12_refuse 1 dd_X12_refuse rfl (by decide) (by decide) rfl (Nat.le_of_ble_eq_true rfl) dX12_agenda_35 rfl (fun r_5 σ_4 h => ?_)
  exact f_iret C dX12_agenda_38 h
def w_X12_agenda (x1 : Int32) (σ : Sto) (P : Int32 → Sto → Prop) : Prop :=
  w_X12_isSet x1 (si (si σ 101 1 0) 101 0 0) (fun r_2 σ_1 => (if r_2 = 0 then w_X12_agenda_33 σ_1 P else w_X12_sizeOf x1 σ_1 (fun r_7 σ_6 => w_X12_isIn r_7.toInt64 1 6 σ_6 (fun r_9 σ_8 => (if r_9 = 0 then w_X12_agenda_33 σ_8 P else w_X12_now σ_8 (fun r_12 σ_11 => (if (x1 &&& (~~~r_12)) = 0 then ∀ σ_14 : Sto, σ_14 = si σ_11 101 32 (-1) → w_X12_orders 16 x1 (gi σ_14 106 6) 0 0 σ_14 (fun σ_16 => P (gi σ_16 101 32) σ_16) else w_X12_refuse 9 σ_11 (fun r_19 σ_18 => P r_19 σ_18))))))))
theorem s_X12_agenda {B : Nat} {E : Nat → List (Nat × Value) → List Value → Sto → Prop} {P : Int32 → Sto → Prop} (C : Cy B E RX12 cX12_agenda 2 (some .int) 20 511 (Zm (QFi P))) (x1 : Int32) (σ : Sto) (h : w_X12_agenda x1 σ P) : E 0 [(0, .ref (B + 101)), (1, .int x1)] [] σ := by
  unfold w_X12_agenda at h
  refine f_aload_n C (j := 0) dX12_agenda_0 rfl rfl rfl ?_
  refine f_iconst C (v := 0) dX12_agenda_1 kc0 rfl ?_
  refine f_puti C tF_X12_74 fm_12_1 rfl o101 dX12_agenda_2 rfl ?_
  refine f_aload_n C (j := 0) dX12_agenda_5 rfl rfl rfl ?_
  refine f_iconst C (v := 0) dX12_agenda_6 kc0 rfl ?_
  refine f_puti C tF_X12_77 fm_12_0 rfl o101 dX12_agenda_7 rfl ?_
  refine f_aload_n C (j := 0) dX12_agenda_10 rfl rfl rfl ?_
  refine f_iload_n C (j := 1) dX12_agenda_11 rfl rfl rfl ?_
  refine f_callVi C (a := 101) (ci := 12) (As := fun B => [.int x1]) o101 rfl (c_X12_isSet  _ _ _ h) tM_X12_425 tI_X12_isSet tS_X12_isSet tN_X12 tC_X12_isSet 1 dd_X12_isSet rfl (by decide) (by decide) rfl (Nat.le_of_ble_eq_true rfl) dX12_agenda_12 rfl (fun r_2 σ_1 h => ?_)
  refine f_if_eq C (t := 33) dX12_agenda_15 (by decide) rfl (fun hq_3 => ?_) (fun hq_3 => ?_)
  · replace h := Eq.mp (if_pos hq_3) h
    refine f_lv C (lv2 := [(0, .ref (B + 101))]) [0] rfl ?_
    exact s_X12_agenda_33 C  _ h
  · replace h := Eq.mp (if_neg hq_3) h
    refine f_iload_n C (j := 1) dX12_agenda_18 rfl rfl rfl ?_
    refine f_callSi C (As := fun B => [.int x1]) (c_X12_sizeOf  _ _ _ h) tM_X12_397 tT_X12_sizeOf tN_X12 tC_X12_sizeOf 1 dd_X12_sizeOf rfl (by decide) (by decide) rfl (Nat.le_of_ble_eq_true rfl) dX12_agenda_19 rfl (fun r_7 σ_6 h => ?_)
    refine f_i2l C dX12_agenda_22 rfl ?_
    refine f_lconst C (v := 1) dX12_agenda_23 (by decide) rfl ?_
    refine f_ldc2_w C tL_X12_428 dX12_agenda_24 rfl ?_
    refine f_callSi C (As := fun B => [.long r_7.toInt64, .long 1, .long 6]) (c_X12_isIn  _ _ _ _ _ h) tM_X12_109 tT_X12_isIn tN_X12 tC_X12_isIn 3 dd_X12_isIn rfl (by decide) (by decide) rfl (Nat.le_of_ble_eq_true rfl) dX12_agenda_27 rfl (fun r_9 σ_8 h => ?_)
    refine f_if_ne C (t := 39) dX12_agenda_30 (by decide) rfl (fun hq_10 => ?_) (fun hq_10 => ?_)
    · replace h := Eq.mp (if_neg hq_10) h
      refine f_iload_n C (j := 1) dX12_agenda_39 rfl rfl rfl ?_
      refine f_aload_n C (j := 0) dX12_agenda_40 rfl rfl rfl ?_
      refine f_callVi C (a := 101) (ci := 12) (As := fun B => []) o101 rfl (c_X12_now   _ _ h) tM_X12_330 tI_X12_now tS_X12_now tN_X12 tC_X12_now 0 dd_X12_now rfl (by decide) (by decide) rfl (Nat.le_of_ble_eq_true rfl) dX12_agenda_41 rfl (fun r_12 σ_11 h => ?_)
      refine f_iconst C (v := (-1)) dX12_agenda_44 kcm1 rfl ?_
      refine f_inot C dX12_agenda_45 rfl ?_
      refine f_iand C dX12_agenda_46 rfl ?_
      refine f_if_eq C (t := 57) dX12_agenda_47 (by decide) rfl (fun hq_13 => ?_) (fun hq_13 => ?_)
      · replace h := Eq.mp (if_pos hq_13) h
        refine f_aload_n C (j := 0) dX12_agenda_57 rfl rfl rfl ?_
        refine f_iconst C (v := (-1)) dX12_agenda_58 kcm1 rfl ?_
        refine f_puti C tF_X12_415 fm_12_32 rfl o101 dX12_agenda_59 rfl ?_
        refine f_aload_n C (j := 0) dX12_agenda_62 rfl rfl rfl ?_
        refine f_iload_n C (j := 1) dX12_agenda_63 rfl rfl rfl ?_
        refine f_aload_n C (j := 0) dX12_agenda_64 rfl rfl rfl ?_
        refine f_getc C tF_X12_35 rfl o101 cs101_20 (by decide) dX12_agenda_65 rfl ?_
        refine f_bipush C (v := 6) dX12_agenda_68 kb6 rfl ?_
        refine f_names (fun σ_14 hσ_15 => ?_)
        replace h := h σ_14 hσ_15
        refine f_iald C (j := 6) a106 (vp_lit (by decide)) rfl dX12_agenda_70 rfl ?_
        refine f_iconst C (v := 0) dX12_agenda_71 kc0 rfl ?_
        refine f_iconst C (v := 0) dX12_agenda_72 kc0 rfl ?_
        refine f_callVv C (a := 101) (ci := 12) (As := fun B => [.int x1, .int (gi σ_14 106 6), .int 0, .int 0]) o101 rfl (c_X12_orders 16 _ _ _ _ _ _ h) tM_X12_421 tI_X12_orders tS_X12_orders tN_X12 tC_X12_orders 4 dd_X12_orders rfl (by decide) (by decide) rfl (Nat.le_of_ble_eq_true rfl) dX12_agenda_73 rfl (fun σ_16 h => ?_)
        refine f_aload_n C (j := 0) dX12_agenda_76 rfl rfl rfl ?_
        refine f_geti C tF_X12_415 rfl o101 dX12_agenda_77 rfl ?_
        exact f_iret C dX12_agenda_80 h
      · replace h := Eq.mp (if_neg hq_13) h
        refine f_aload_n C (j := 0) dX12_agenda_50 rfl rfl rfl ?_
        refine f_bipush C (v := 9) dX12_agenda_51 kb9 rfl ?_
        refine f_callVi C (a := 101) (ci := 12) (As := fun B => [.int 9]) o101 rfl (c_X12_refuse  _ _ _ h) tM_X12_327 tI_X12_refuse tS_X12_refuse tN_X12 tC_X12_refuse 1 dd_X12_refuse rfl (by decide) (by decide) rfl (Nat.le_of_ble_eq_true rfl) dX12_agenda_53 rfl (fun r_19 σ_18 h => ?_)
        exact f_iret C dX12_agenda_56 h
    · replace h := Eq.mp (if_pos hq_10) h
      refine f_lv C (lv2 := [(0, .ref (B + 101))]) [0] rfl ?_
      exact s_X12_agenda_33 C  _ h
theorem c_X12_agenda (x1 : Int32) (σ : Sto) (P : Int32 → Sto → Prop) (h : w_X12_agenda x1 σ P) : Ct yX12_agenda cX12_agenda 2 (some .int) 20 511 (fun B => [.ref (B + 101), .int x1]) σ (QFi P) := Ct.of (by decide) (fun _ => Nat.le_of_ble_eq_true rfl) (fun B E C => s_X12_agenda C x1 σ h)
def w_X12_agendaAt (x1 : Int32) (σ : Sto) (P : Int32 → Sto → Prop) : Prop :=
  ∀ σ_1 : Sto, σ_1 = si (si σ 101 1 0) 101 0 0 → w_X12_isIn x1.toInt64 0 (((gi σ_1 101 31) - 1).toInt64) σ_1 (fun r_4 σ_3 => (if r_4 = 0 then w_X12_refuse 8 σ_3 (fun r_7 σ_6 => P r_7 σ_6) else vp_in x1 6 ∧ P (gi σ_3 113 (tn x1)) σ_3))
theorem s_X12_agendaAt {B : Nat} {E : Nat → List (Nat × Value) → List Value → Sto → Prop} {P : Int32 → Sto → Prop} (C : Cy B E RX12 cX12_agendaAt 2 (some .int) 1 25 (Zm (QFi P))) (x1 : Int32) (σ : Sto) (h : w_X12_agendaAt x1 σ P) : E 0 [(0, .ref (B + 101)), (1, .int x1)] [] σ := by
  unfold w_X12_agendaAt at h
  refine f_aload_n C (j := 0) dX12_agendaAt_0 rfl rfl rfl ?_
  refine f_iconst C (v := 0) dX12_agendaAt_1 kc0 rfl ?_
  refine f_puti C tF_X12_74 fm_12_1 rfl o101 dX12_agendaAt_2 rfl ?_
  refine f_aload_n C (j := 0) dX12_agendaAt_5 rfl rfl rfl ?_
  refine f_iconst C (v := 0) dX12_agendaAt_6 kc0 rfl ?_
  refine f_puti C tF_X12_77 fm_12_0 rfl o101 dX12_agendaAt_7 rfl ?_
  refine f_iload_n C (j := 1) dX12_agendaAt_10 rfl rfl rfl ?_
  refine f_i2l C dX12_agendaAt_11 rfl ?_
  refine f_lconst C (v := 0) dX12_agendaAt_12 (by decide) rfl ?_
  refine f_aload_n C (j := 0) dX12_agendaAt_13 rfl rfl rfl ?_
  refine f_names (fun σ_1 hσ_2 => ?_)
  replace h := h σ_1 hσ_2
  refine f_geti C tF_X12_418 rfl o101 dX12_agendaAt_14 rfl ?_
  refine f_iconst C (v := 1) dX12_agendaAt_17 kc1 rfl ?_
  refine f_isub C dX12_agendaAt_18 rfl ?_
  refine f_i2l C dX12_agendaAt_19 rfl ?_
  refine f_callSi C (As := fun B => [.long x1.toInt64, .long 0, .long (((gi σ_1 101 31) - 1).toInt64)]) (c_X12_isIn  _ _ _ _ _ h) tM_X12_109 tT_X12_isIn tN_X12 tC_X12_isIn 3 dd_X12_isIn rfl (by decide) (by decide) rfl (Nat.le_of_ble_eq_true rfl) dX12_agendaAt_20 rfl (fun r_4 σ_3 h => ?_)
  refine f_if_eq C (t := 35) dX12_agendaAt_23 (by decide) rfl (fun hq_5 => ?_) (fun hq_5 => ?_)
  · replace h := Eq.mp (if_pos hq_5) h
    refine f_aload_n C (j := 0) dX12_agendaAt_35 rfl rfl rfl ?_
    refine f_bipush C (v := 8) dX12_agendaAt_36 kb8 rfl ?_
    refine f_callVi C (a := 101) (ci := 12) (As := fun B => [.int 8]) o101 rfl (c_X12_refuse  _ _ _ h) tM_X12_327 tI_X12_refuse tS_X12_refuse tN_X12 tC_X12_refuse 1 dd_X12_refuse rfl (by decide) (by decide) rfl (Nat.le_of_ble_eq_true rfl) dX12_agendaAt_38 rfl (fun r_7 σ_6 h => ?_)
    exact f_iret C dX12_agendaAt_41 h
  · replace h := Eq.mp (if_neg hq_5) h
    refine f_aload_n C (j := 0) dX12_agendaAt_26 rfl rfl rfl ?_
    refine f_getc C tF_X12_56 rfl o101 cs101_30 (by decide) dX12_agendaAt_27 rfl ?_
    refine f_iload_n C (j := 1) dX12_agendaAt_30 rfl rfl rfl ?_
    obtain ⟨hi_8, h⟩ := h
    refine f_iald C (j := tn x1) a113 hi_8 rfl dX12_agendaAt_31 rfl ?_
    refine f_goto C (t := 41) dX12_agendaAt_32 (by decide) ?_
    exact f_iret C dX12_agendaAt_41 h
theorem c_X12_agendaAt (x1 : Int32) (σ : Sto) (P : Int32 → Sto → Prop) (h : w_X12_agendaAt x1 σ P) : Ct yX12_agendaAt cX12_agendaAt 2 (some .int) 1 25 (fun B => [.ref (B + 101), .int x1]) σ (QFi P) := Ct.of (by decide) (fun _ => Nat.le_of_ble_eq_true rfl) (fun B E C => s_X12_agendaAt C x1 σ h)
def w_X12_plays_183 (rec : Int32 → Int32 → Int32 → Int32 → Int32 → Sto → (Int32 → Sto → Prop) → Prop) (z0 : Int32) (z1 : Int32) (z2 : Int32) (z3 : Int32) (σ : Sto) (P : Int32 → Sto → Prop) : Prop :=
  rec z3 z2 z1 z0 0 σ (fun r_9 σ_8 => P r_9 σ_8)
theorem s_X12_plays_183 {B : Nat} {E : Nat → List (Nat × Value) → List Value → Sto → Prop} (rec : Int32 → Int32 → Int32 → Int32 → Int32 → Sto → (Int32 → Sto → Prop) → Prop) (n : Nat) (hrec : ∀ (x1 : Int32) (x2 : Int32) (x3 : Int32) (x4 : Int32) (x5 : Int32) (σ : Sto) (P : Int32 → Sto → Prop), rec x1 x2 x3 x4 x5 σ P → Ct yX12_plays cX12_plays 11 (some .int) (3 + n) (69 + n * 30) (fun B => [.ref (B + 101), .int x1, .int x2, .int x3, .int x4, .int x5]) σ (QFi P)) {P : Int32 → Sto → Prop} (C : Cy B E RX12 cX12_plays 11 (some .int) (3 + (n + 1)) (69 + (n + 1) * 30) (Zm (QFi P))) (z0 : Int32) (z1 : Int32) (z2 : Int32) (z3 : Int32) (σ : Sto) (h : w_X12_plays_183 rec z0 z1 z2 z3 σ P) : E 183 [(0, .ref (B + 101))] [.int z0, .int z1, .int z2, .int z3, .ref (B + 101)] σ := by
  unfold w_X12_plays_183 at h
  refine f_iconst C (v := 0) dX12_plays_183 kc0 rfl ?_
  refine f_callVi C (a := 101) (ci := 12) (As := fun B => [.int z3, .int z2, .int z1, .int z0, .int 0]) o101 rfl (hrec _ _ _ _ _ _ _ h) tM_X12_430 tI_X12_plays tS_X12_plays tN_X12 tC_X12_plays 5 dd_X12_plays rfl (by omega) (by omega) rfl (Nat.le_of_ble_eq_true rfl) dX12_plays_184 rfl (fun r_9 σ_8 h => ?_)
  refine f_goto C (t := 192) dX12_plays_187 (by decide) ?_
  exact f_iret C dX12_plays_192 h
def w_X12_plays_162 (rec : Int32 → Int32 → Int32 → Int32 → Int32 → Sto → (Int32 → Sto → Prop) → Prop) (x1 : Int32) (x2 : Int32) (x3 : Int32) (x4 : Int32) (x7 : Int32) (x8 : Int32) (σ : Sto) (P : Int32 → Sto → Prop) : Prop :=
  (if 0 ≤ x8 then P x7 σ else (if x4 = 0 then w_X12_plays_183 rec 1 (x3 - 1) x2 x1 σ P else w_X12_plays_183 rec 0 (x3 - 1) x2 x1 σ P))
theorem s_X12_plays_162 {B : Nat} {E : Nat → List (Nat × Value) → List Value → Sto → Prop} (rec : Int32 → Int32 → Int32 → Int32 → Int32 → Sto → (Int32 → Sto → Prop) → Prop) (n : Nat) (hrec : ∀ (x1 : Int32) (x2 : Int32) (x3 : Int32) (x4 : Int32) (x5 : Int32) (σ : Sto) (P : Int32 → Sto → Prop), rec x1 x2 x3 x4 x5 σ P → Ct yX12_plays cX12_plays 11 (some .int) (3 + n) (69 + n * 30) (fun B => [.ref (B + 101), .int x1, .int x2, .int x3, .int x4, .int x5]) σ (QFi P)) {P : Int32 → Sto → Prop} (C : Cy B E RX12 cX12_plays 11 (some .int) (3 + (n + 1)) (69 + (n + 1) * 30) (Zm (QFi P))) (x1 : Int32) (x2 : Int32) (x3 : Int32) (x4 : Int32) (x7 : Int32) (x8 : Int32) (σ : Sto) (h : w_X12_plays_162 rec x1 x2 x3 x4 x7 x8 σ P) : E 162 [(0, .ref (B + 101)), (1, .int x1), (2, .int x2), (3, .int x3), (4, .int x4), (7, .int x7), (8, .int x8)] [] σ := by
  unfold w_X12_plays_162 at h
  refine f_iload C (j := 6) dX12_plays_162 rfl rfl ?_
  refine f_if_ge C (t := 190) dX12_plays_164 (by decide) rfl (fun hq_6 => ?_) (fun hq_6 => ?_)
  · replace h := Eq.mp (if_pos hq_6) h
    refine f_iload C (j := 5) dX12_plays_190 rfl rfl ?_
    exact f_iret C dX12_plays_192 h
  · replace h := Eq.mp (if_neg hq_6) h
    refine f_aload_n C (j := 0) dX12_plays_167 rfl rfl rfl ?_
    refine f_iload_n C (j := 1) dX12_plays_168 rfl rfl rfl ?_
    refine f_iload_n C (j := 2) dX12_plays_169 rfl rfl rfl ?_
    refine f_iload_n C (j := 3) dX12_plays_170 rfl rfl rfl ?_
    refine f_iconst C (v := 1) dX12_plays_171 kc1 rfl ?_
    refine f_isub C dX12_plays_172 rfl ?_
    refine f_iload C (j := 4) dX12_plays_173 rfl rfl ?_
    refine f_if_ne C (t := 182) dX12_plays_175 (by decide) rfl (fun hq_7 => ?_) (fun hq_7 => ?_)
    · replace h := Eq.mp (if_neg hq_7) h
      refine f_iconst C (v := 0) dX12_plays_182 kc0 rfl ?_
      refine f_lv C (lv2 := [(0, .ref (B + 101))]) [0] rfl ?_
      exact s_X12_plays_183 (rec := rec) n hrec C _ _ _ _  _ h
    · replace h := Eq.mp (if_pos hq_7) h
      refine f_iconst C (v := 1) dX12_plays_178 kc1 rfl ?_
      refine f_goto C (t := 183) dX12_plays_179 (by decide) ?_
      refine f_lv C (lv2 := [(0, .ref (B + 101))]) [0] rfl ?_
      exact s_X12_plays_183 (rec := rec) n hrec C _ _ _ _  _ h
def w_X12_plays_101 (rec : Int32 → Int32 → Int32 → Int32 → Int32 → Sto → (Int32 → Sto → Prop) → Prop) (K46 : Int32 × Int32 × Int32 × Sto → Prop) (x1 : Int32) (x2 : Int32) (x3 : Int32) (x4 : Int32) (x5 : Int32) (x6 : Int32) (x7 : Int32) (x8 : Int32) (x9 : Int32) (z0 : Int32) (z1 : Int32) (z2 : Int32) (z3 : Int32) (σ : Sto) (P : Int32 → Sto → Prop) : Prop :=
  rec z3 z2 z1 z0 0 σ (fun r_15 σ_14 => (if x8 < 0 then ∀ x9_17 : Int32, x9_17 = x9 + 1 → K46 (r_15, x9, x9_17, σ_14) else (if x4 = 0 then (if r_15 < x7 then ∀ x9_21 : Int32, x9_21 = x9 + 1 → K46 (r_15, x9, x9_21, σ_14) else ∀ x9_23 : Int32, x9_23 = x9 + 1 → K46 (x7, x8, x9_23, σ_14)) else (if x7 < r_15 then ∀ x9_26 : Int32, x9_26 = x9 + 1 → K46 (r_15, x9, x9_26, σ_14) else ∀ x9_28 : Int32, x9_28 = x9 + 1 → K46 (x7, x8, x9_28, σ_14)))))
theorem s_X12_plays_101 {B : Nat} {E : Nat → List (Nat × Value) → List Value → Sto → Prop} (rec : Int32 → Int32 → Int32 → Int32 → Int32 → Sto → (Int32 → Sto → Prop) → Prop) (n : Nat) (hrec : ∀ (x1 : Int32) (x2 : Int32) (x3 : Int32) (x4 : Int32) (x5 : Int32) (σ : Sto) (P : Int32 → Sto → Prop), rec x1 x2 x3 x4 x5 σ P → Ct yX12_plays cX12_plays 11 (some .int) (3 + n) (69 + n * 30) (fun B => [.ref (B + 101), .int x1, .int x2, .int x3, .int x4, .int x5]) σ (QFi P)) {P : Int32 → Sto → Prop} (C : Cy B E RX12 cX12_plays 11 (some .int) (3 + (n + 1)) (69 + (n + 1) * 30) (Zm (QFi P))) (x1 : Int32) (x2 : Int32) (x3 : Int32) (x4 : Int32) (x5 : Int32) (x6 : Int32) (x7 : Int32) (x8 : Int32) (x9 : Int32) (z0 : Int32) (z1 : Int32) (z2 : Int32) (z3 : Int32) (K46 : Int32 × Int32 × Int32 × Sto → Prop) (hK46 : ∀ (x7 : Int32) (x8 : Int32) (x9 : Int32) (σ : Sto), K46 (x7, x8, x9, σ) → E 46 [(0, .ref (B + 101)), (1, .int x1), (2, .int x2), (3, .int x3), (4, .int x4), (5, .int x5), (6, .int x6), (7, .int x7), (8, .int x8), (9, .int x9)] [] σ) (σ : Sto) (h : w_X12_plays_101 rec K46 x1 x2 x3 x4 x5 x6 x7 x8 x9 z0 z1 z2 z3 σ P) : E 101 [(0, .ref (B + 101)), (1, .int x1), (2, .int x2), (3, .int x3), (4, .int x4), (5, .int x5), (6, .int x6), (7, .int x7), (8, .int x8), (9, .int x9)] [.int z0, .int z1, .int z2, .int z3, .ref (B + 101)] σ := by
  unfold w_X12_plays_101 at h
  refine f_iconst C (v := 0) dX12_plays_101 kc0 rfl ?_
  refine f_callVi C (a := 101) (ci := 12) (As := fun B => [.int z3, .int z2, .int z1, .int z0, .int 0]) o101 rfl (hrec _ _ _ _ _ _ _ h) tM_X12_430 tI_X12_plays tS_X12_plays tN_X12 tC_X12_plays 5 dd_X12_plays rfl (by omega) (by omega) rfl (Nat.le_of_ble_eq_true rfl) dX12_plays_102 rfl (fun r_15 σ_14 h => ?_)
  refine f_istore C (lv2 := [(10, .int r_15), (0, .ref (B + 101)), (1, .int x1), (2, .int x2), (3, .int x3), (4, .int x4), (5, .int x5), (6, .int x6), (7, .int x7), (8, .int x8), (9, .int x9)]) dX12_plays_105 (by decide) rfl rfl ?_
  refine f_iload C (j := 9) dX12_plays_107 rfl rfl ?_
  refine f_if_lt C (t := 137) dX12_plays_109 (by decide) rfl (fun hq_16 => ?_) (fun hq_16 => ?_)
  · replace h := Eq.mp (if_pos hq_16) h
    refine f_iload C (j := 0) dX12_plays_137 rfl rfl ?_
    refine f_istore C (lv2 := [(7, .int r_15), (10, .int r_15), (0, .ref (B + 101)), (1, .int x1), (2, .int x2), (3, .int x3), (4, .int x4), (5, .int x5), (6, .int x6), (8, .int x8), (9, .int x9)]) dX12_plays_139 (by decide) rfl rfl ?_
    refine f_iload C (j := 10) dX12_plays_141 rfl rfl ?_
    refine f_istore C (lv2 := [(8, .int x9), (7, .int r_15), (10, .int r_15), (0, .ref (B + 101)), (1, .int x1), (2, .int x2), (3, .int x3), (4, .int x4), (5, .int x5), (6, .int x6), (9, .int x9)]) dX12_plays_143 (by decide) rfl rfl ?_
    obtain ⟨x9_17, hx_18⟩ : ∃ y : Int32, y = x9 + 1 := ⟨_, rfl⟩
    replace h := h x9_17 hx_18
    refine f_iinc C (j := 10) (v := x9_17) (lv2 := [(9, .int x9_17), (8, .int x9), (7, .int r_15), (10, .int r_15), (0, .ref (B + 101)), (1, .int x1), (2, .int x2), (3, .int x3), (4, .int x4), (5, .int x5), (6, .int x6)]) dX12_plays_145 rfl hx_18.symm (by decide) rfl rfl ?_
    refine f_goto C (t := 46) dX12_plays_148 (by decide) ?_
    refine f_lv C (lv2 := [(0, .ref (B + 101)), (1, .int x1), (2, .int x2), (3, .int x3), (4, .int x4), (5, .int x5), (6, .int x6), (7, .int r_15), (8, .int x9), (9, .int x9_17)]) [4, 5, 6, 7, 8, 9, 10, 2, 1, 0] rfl ?_
    exact hK46 _ _ _ _ h
  · replace h := Eq.mp (if_neg hq_16) h
    refine f_iload C (j := 5) dX12_plays_112 rfl rfl ?_
    refine f_if_eq C (t := 127) dX12_plays_114 (by decide) rfl (fun hq_19 => ?_) (fun hq_19 => ?_)
    · replace h := Eq.mp (if_pos hq_19) h
      refine f_iload C (j := 0) dX12_plays_127 rfl rfl ?_
      refine f_iload C (j := 8) dX12_plays_129 rfl rfl ?_
      refine f_icmp_lt C (t := 137) dX12_plays_131 (by decide) rfl (fun hq_20 => ?_) (fun hq_20 => ?_)
      · replace h := Eq.mp (if_pos hq_20) h
        refine f_iload C (j := 0) dX12_plays_137 rfl rfl ?_
        refine f_istore C (lv2 := [(7, .int r_15), (10, .int r_15), (0, .ref (B + 101)), (1, .int x1), (2, .int x2), (3, .int x3), (4, .int x4), (5, .int x5), (6, .int x6), (8, .int x8), (9, .int x9)]) dX12_plays_139 (by decide) rfl rfl ?_
        refine f_iload C (j := 10) dX12_plays_141 rfl rfl ?_
        refine f_istore C (lv2 := [(8, .int x9), (7, .int r_15), (10, .int r_15), (0, .ref (B + 101)), (1, .int x1), (2, .int x2), (3, .int x3), (4, .int x4), (5, .int x5), (6, .int x6), (9, .int x9)]) dX12_plays_143 (by decide) rfl rfl ?_
        obtain ⟨x9_21, hx_22⟩ : ∃ y : Int32, y = x9 + 1 := ⟨_, rfl⟩
        replace h := h x9_21 hx_22
        refine f_iinc C (j := 10) (v := x9_21) (lv2 := [(9, .int x9_21), (8, .int x9), (7, .int r_15), (10, .int r_15), (0, .ref (B + 101)), (1, .int x1), (2, .int x2), (3, .int x3), (4, .int x4), (5, .int x5), (6, .int x6)]) dX12_plays_145 rfl hx_22.symm (by decide) rfl rfl ?_
        refine f_goto C (t := 46) dX12_plays_148 (by decide) ?_
        refine f_lv C (lv2 := [(0, .ref (B + 101)), (1, .int x1), (2, .int x2), (3, .int x3), (4, .int x4), (5, .int x5), (6, .int x6), (7, .int r_15), (8, .int x9), (9, .int x9_21)]) [4, 5, 6, 7, 8, 9, 10, 2, 1, 0] rfl ?_
        exact hK46 _ _ _ _ h
      · replace h := Eq.mp (if_neg hq_20) h
        refine f_goto C (t := 145) dX12_plays_134 (by decide) ?_
        obtain ⟨x9_23, hx_24⟩ : ∃ y : Int32, y = x9 + 1 := ⟨_, rfl⟩
        replace h := h x9_23 hx_24
        refine f_iinc C (j := 10) (v := x9_23) (lv2 := [(9, .int x9_23), (10, .int r_15), (0, .ref (B + 101)), (1, .int x1), (2, .int x2), (3, .int x3), (4, .int x4), (5, .int x5), (6, .int x6), (7, .int x7), (8, .int x8)]) dX12_plays_145 rfl hx_24.symm (by decide) rfl rfl ?_
        refine f_goto C (t := 46) dX12_plays_148 (by decide) ?_
        refine f_lv C (lv2 := [(0, .ref (B + 101)), (1, .int x1), (2, .int x2), (3, .int x3), (4, .int x4), (5, .int x5), (6, .int x6), (7, .int x7), (8, .int x8), (9, .int x9_23)]) [2, 3, 4, 5, 6, 7, 8, 9, 10, 0] rfl ?_
        exact hK46 _ _ _ _ h
    · replace h := Eq.mp (if_neg hq_19) h
      refine f_iload C (j := 0) dX12_plays_117 rfl rfl ?_
      refine f_iload C (j := 8) dX12_plays_119 rfl rfl ?_
      refine f_icmp_gt C (t := 137) dX12_plays_121 (by decide) rfl (fun hq_25 => ?_) (fun hq_25 => ?_)
      · replace h := Eq.mp (if_pos hq_25) h
        refine f_iload C (j := 0) dX12_plays_137 rfl rfl ?_
        refine f_istore C (lv2 := [(7, .int r_15), (10, .int r_15), (0, .ref (B + 101)), (1, .int x1), (2, .int x2), (3, .int x3), (4, .int x4), (5, .int x5), (6, .int x6), (8, .int x8), (9, .int x9)]) dX12_plays_139 (by decide) rfl rfl ?_
        refine f_iload C (j := 10) dX12_plays_141 rfl rfl ?_
        refine f_istore C (lv2 := [(8, .int x9), (7, .int r_15), (10, .int r_15), (0, .ref (B + 101)), (1, .int x1), (2, .int x2), (3, .int x3), (4, .int x4), (5, .int x5), (6, .int x6), (9, .int x9)]) dX12_plays_143 (by decide) rfl rfl ?_
        obtain ⟨x9_26, hx_27⟩ : ∃ y : Int32, y = x9 + 1 := ⟨_, rfl⟩
        replace h := h x9_26 hx_27
        refine f_iinc C (j := 10) (v := x9_26) (lv2 := [(9, .int x9_26), (8, .int x9), (7, .int r_15), (10, .int r_15), (0, .ref (B + 101)), (1, .int x1), (2, .int x2), (3, .int x3), (4, .int x4), (5, .int x5), (6, .int x6)]) dX12_plays_145 rfl hx_27.symm (by decide) rfl rfl ?_
        refine f_goto C (t := 46) dX12_plays_148 (by decide) ?_
        refine f_lv C (lv2 := [(0, .ref (B + 101)), (1, .int x1), (2, .int x2), (3, .int x3), (4, .int x4), (5, .int x5), (6, .int x6), (7, .int r_15), (8, .int x9), (9, .int x9_26)]) [4, 5, 6, 7, 8, 9, 10, 2, 1, 0] rfl ?_
        exact hK46 _ _ _ _ h
      · replace h := Eq.mp (if_neg hq_25) h
        refine f_goto C (t := 145) dX12_plays_124 (by decide) ?_
        obtain ⟨x9_28, hx_29⟩ : ∃ y : Int32, y = x9 + 1 := ⟨_, rfl⟩
        replace h := h x9_28 hx_29
        refine f_iinc C (j := 10) (v := x9_28) (lv2 := [(9, .int x9_28), (10, .int r_15), (0, .ref (B + 101)), (1, .int x1), (2, .int x2), (3, .int x3), (4, .int x4), (5, .int x5), (6, .int x6), (7, .int x7), (8, .int x8)]) dX12_plays_145 rfl hx_29.symm (by decide) rfl rfl ?_
        refine f_goto C (t := 46) dX12_plays_148 (by decide) ?_
        refine f_lv C (lv2 := [(0, .ref (B + 101)), (1, .int x1), (2, .int x2), (3, .int x3), (4, .int x4), (5, .int x5), (6, .int x6), (7, .int x7), (8, .int x8), (9, .int x9_28)]) [2, 3, 4, 5, 6, 7, 8, 9, 10, 0] rfl ?_
        exact hK46 _ _ _ _ h
def w_X12_plays_46 (rec : Int32 → Int32 → Int32 → Int32 → Int32 → Sto → (Int32 → Sto → Prop) → Prop) (K46 : Int32 × Int32 × Int32 × Sto → Prop) (x1 : Int32) (x2 : Int32) (x3 : Int32) (x4 : Int32) (x5 : Int32) (x6 : Int32) (x7 : Int32) (x8 : Int32) (x9 : Int32) (σ : Sto) (P : Int32 → Sto → Prop) : Prop :=
  (if (gi σ 106 0) ≤ x9 then (if x5 = 0 then w_X12_plays_162 rec x1 x2 x3 x4 x7 x8 σ P else w_X12_plays_162 rec x1 x2 x3 x4 x7 x8 (si σ 101 33 x8) P) else w_X12_has (x6 &&& (~~~(gi σ 106 7))) x9 σ (fun r_11 σ_10 => (if r_11 = 0 then ∀ x9_30 : Int32, x9_30 = x9 + 1 → K46 (x7, x8, x9_30, σ_10) else (if x4 = 0 then w_X12_plays_101 rec K46 x1 x2 x3 x4 x5 x6 x7 x8 x9 1 (x3 - 1) (x2 ||| (1 <<< (x9 &&& 31))) x1 σ_10 P else w_X12_plays_101 rec K46 x1 x2 x3 x4 x5 x6 x7 x8 x9 0 (x3 - 1) (x2 ||| (1 <<< (x9 &&& 31))) x1 σ_10 P))))
theorem s_X12_plays_46 {B : Nat} {E : Nat → List (Nat × Value) → List Value → Sto → Prop} (rec : Int32 → Int32 → Int32 → Int32 → Int32 → Sto → (Int32 → Sto → Prop) → Prop) (n : Nat) (hrec : ∀ (x1 : Int32) (x2 : Int32) (x3 : Int32) (x4 : Int32) (x5 : Int32) (σ : Sto) (P : Int32 → Sto → Prop), rec x1 x2 x3 x4 x5 σ P → Ct yX12_plays cX12_plays 11 (some .int) (3 + n) (69 + n * 30) (fun B => [.ref (B + 101), .int x1, .int x2, .int x3, .int x4, .int x5]) σ (QFi P)) {P : Int32 → Sto → Prop} (C : Cy B E RX12 cX12_plays 11 (some .int) (3 + (n + 1)) (69 + (n + 1) * 30) (Zm (QFi P))) (x1 : Int32) (x2 : Int32) (x3 : Int32) (x4 : Int32) (x5 : Int32) (x6 : Int32) (x7 : Int32) (x8 : Int32) (x9 : Int32) (K46 : Int32 × Int32 × Int32 × Sto → Prop) (hK46 : ∀ (x7 : Int32) (x8 : Int32) (x9 : Int32) (σ : Sto), K46 (x7, x8, x9, σ) → E 46 [(0, .ref (B + 101)), (1, .int x1), (2, .int x2), (3, .int x3), (4, .int x4), (5, .int x5), (6, .int x6), (7, .int x7), (8, .int x8), (9, .int x9)] [] σ) (σ : Sto) (h : w_X12_plays_46 rec K46 x1 x2 x3 x4 x5 x6 x7 x8 x9 σ P) : E 46 [(0, .ref (B + 101)), (1, .int x1), (2, .int x2), (3, .int x3), (4, .int x4), (5, .int x5), (6, .int x6), (7, .int x7), (8, .int x8), (9, .int x9)] [] σ := by
  unfold w_X12_plays_46 at h
  refine f_iload C (j := 9) dX12_plays_46 rfl rfl ?_
  refine f_aload_n C (j := 0) dX12_plays_48 rfl rfl rfl ?_
  refine f_getc C tF_X12_35 rfl o101 cs101_20 (by decide) dX12_plays_49 rfl ?_
  refine f_iconst C (v := 0) dX12_plays_52 kc0 rfl ?_
  refine f_iald C (j := 0) a106 (vp_lit (by decide)) rfl dX12_plays_53 rfl ?_
  refine f_icmp_ge C (t := 151) dX12_plays_54 (by decide) rfl (fun hq_4 => ?_) (fun hq_4 => ?_)
  · replace h := Eq.mp (if_pos hq_4) h
    refine f_iload C (j := 5) dX12_plays_151 rfl rfl ?_
    refine f_if_eq C (t := 162) dX12_plays_153 (by decide) rfl (fun hq_5 => ?_) (fun hq_5 => ?_)
    · replace h := Eq.mp (if_pos hq_5) h
      refine f_lv C (lv2 := [(0, .ref (B + 101)), (1, .int x1), (2, .int x2), (3, .int x3), (4, .int x4), (7, .int x7), (8, .int x8)]) [0, 1, 2, 3, 4, 7, 8] rfl ?_
      exact s_X12_plays_162 (rec := rec) n hrec C _ _ _ _ _ _  _ h
    · replace h := Eq.mp (if_neg hq_5) h
      refine f_aload_n C (j := 0) dX12_plays_156 rfl rfl rfl ?_
      refine f_iload C (j := 8) dX12_plays_157 rfl rfl ?_
      refine f_puti C tF_X12_434 fm_12_33 rfl o101 dX12_plays_159 rfl ?_
      refine f_lv C (lv2 := [(0, .ref (B + 101)), (1, .int x1), (2, .int x2), (3, .int x3), (4, .int x4), (7, .int x7), (8, .int x8)]) [0, 1, 2, 3, 4, 7, 8] rfl ?_
      exact s_X12_plays_162 (rec := rec) n hrec C _ _ _ _ _ _  _ h
  · replace h := Eq.mp (if_neg hq_4) h
    refine f_iload C (j := 6) dX12_plays_57 rfl rfl ?_
    refine f_aload_n C (j := 0) dX12_plays_59 rfl rfl rfl ?_
    refine f_getc C tF_X12_35 rfl o101 cs101_20 (by decide) dX12_plays_60 rfl ?_
    refine f_bipush C (v := 7) dX12_plays_63 kb7 rfl ?_
    refine f_iald C (j := 7) a106 (vp_lit (by decide)) rfl dX12_plays_65 rfl ?_
    refine f_iconst C (v := (-1)) dX12_plays_66 kcm1 rfl ?_
    refine f_inot C dX12_plays_67 rfl ?_
    refine f_iand C dX12_plays_68 rfl ?_
    refine f_iload C (j := 9) dX12_plays_69 rfl rfl ?_
    refine f_callSi C (As := fun B => [.int (x6 &&& (~~~(gi σ 106 7))), .int x9]) (c_X12_has  _ _ _ _ h) tM_X12_113 tT_X12_has tN_X12 tC_X12_has 2 dd_X12_has rfl (by omega) (by omega) rfl (Nat.le_of_ble_eq_true rfl) dX12_plays_71 rfl (fun r_11 σ_10 h => ?_)
    refine f_if_ne C (t := 80) dX12_plays_74 (by decide) rfl (fun hq_12 => ?_) (fun hq_12 => ?_)
    · replace h := Eq.mp (if_neg hq_12) h
      refine f_aload_n C (j := 0) dX12_plays_80 rfl rfl rfl ?_
      refine f_iload_n C (j := 1) dX12_plays_81 rfl rfl rfl ?_
      refine f_iload_n C (j := 2) dX12_plays_82 rfl rfl rfl ?_
      refine f_iconst C (v := 1) dX12_plays_83 kc1 rfl ?_
      refine f_iload C (j := 9) dX12_plays_84 rfl rfl ?_
      refine f_ishl C dX12_plays_86 rfl ?_
      refine f_ior C dX12_plays_87 rfl ?_
      refine f_iload_n C (j := 3) dX12_plays_88 rfl rfl rfl ?_
      refine f_iconst C (v := 1) dX12_plays_89 kc1 rfl ?_
      refine f_isub C dX12_plays_90 rfl ?_
      refine f_iload C (j := 4) dX12_plays_91 rfl rfl ?_
      refine f_if_ne C (t := 100) dX12_plays_93 (by decide) rfl (fun hq_13 => ?_) (fun hq_13 => ?_)
      · replace h := Eq.mp (if_neg hq_13) h
        refine f_iconst C (v := 0) dX12_plays_100 kc0 rfl ?_
        exact s_X12_plays_101 (rec := rec) n hrec C _ _ _ _ _ _ _ _ _ _ _ _ _  K46 hK46 _ h
      · replace h := Eq.mp (if_pos hq_13) h
        refine f_iconst C (v := 1) dX12_plays_96 kc1 rfl ?_
        refine f_goto C (t := 101) dX12_plays_97 (by decide) ?_
        exact s_X12_plays_101 (rec := rec) n hrec C _ _ _ _ _ _ _ _ _ _ _ _ _  K46 hK46 _ h
    · replace h := Eq.mp (if_pos hq_12) h
      refine f_goto C (t := 145) dX12_plays_77 (by decide) ?_
      obtain ⟨x9_30, hx_31⟩ : ∃ y : Int32, y = x9 + 1 := ⟨_, rfl⟩
      replace h := h x9_30 hx_31
      refine f_iinc C (j := 9) (v := x9_30) (lv2 := [(9, .int x9_30), (0, .ref (B + 101)), (1, .int x1), (2, .int x2), (3, .int x3), (4, .int x4), (5, .int x5), (6, .int x6), (7, .int x7), (8, .int x8)]) dX12_plays_145 rfl hx_31.symm (by decide) rfl rfl ?_
      refine f_goto C (t := 46) dX12_plays_148 (by decide) ?_
      refine f_lv C (lv2 := [(0, .ref (B + 101)), (1, .int x1), (2, .int x2), (3, .int x3), (4, .int x4), (5, .int x5), (6, .int x6), (7, .int x7), (8, .int x8), (9, .int x9_30)]) [1, 2, 3, 4, 5, 6, 7, 8, 9, 0] rfl ?_
      exact hK46 _ _ _ _ h
def w_X12_plays_e (rec : Int32 → Int32 → Int32 → Int32 → Int32 → Sto → (Int32 → Sto → Prop) → Prop) (x1 : Int32) (x2 : Int32) (x3 : Int32) (x4 : Int32) (x5 : Int32) (σ : Sto) (P : Int32 → Sto → Prop) : Prop :=
  w_X12_standing x2 σ (fun r_2 σ_1 => (if x3 = 0 then w_X12_doneBy r_2 σ_1 (fun r_33 σ_32 => w_X12_sizeOf (r_33 &&& x1) σ_32 (fun r_35 σ_34 => w_X12_sizeOf (r_33 &&& (~~~x1)) σ_34 (fun r_37 σ_36 => P (r_35 - r_37) σ_36))) else Lp (fun (K : Int32 × Int32 × Int32 × Sto → Prop) s => w_X12_plays_46 rec K x1 x2 x3 x4 x5 r_2 s.1 s.2.1 s.2.2.1 s.2.2.2 P) (0, (-1), 0, σ_1)))
theorem s_X12_plays_e {B : Nat} {E : Nat → List (Nat × Value) → List Value → Sto → Prop} (rec : Int32 → Int32 → Int32 → Int32 → Int32 → Sto → (Int32 → Sto → Prop) → Prop) (n : Nat) (hrec : ∀ (x1 : Int32) (x2 : Int32) (x3 : Int32) (x4 : Int32) (x5 : Int32) (σ : Sto) (P : Int32 → Sto → Prop), rec x1 x2 x3 x4 x5 σ P → Ct yX12_plays cX12_plays 11 (some .int) (3 + n) (69 + n * 30) (fun B => [.ref (B + 101), .int x1, .int x2, .int x3, .int x4, .int x5]) σ (QFi P)) {P : Int32 → Sto → Prop} (C : Cy B E RX12 cX12_plays 11 (some .int) (3 + (n + 1)) (69 + (n + 1) * 30) (Zm (QFi P))) (x1 : Int32) (x2 : Int32) (x3 : Int32) (x4 : Int32) (x5 : Int32) (σ : Sto) (h : w_X12_plays_e rec x1 x2 x3 x4 x5 σ P) : E 0 [(0, .ref (B + 101)), (1, .int x1), (2, .int x2), (3, .int x3), (4, .int x4), (5, .int x5)] [] σ := by
  unfold w_X12_plays_e at h
  refine f_aload_n C (j := 0) dX12_plays_0 rfl rfl rfl ?_
  refine f_iload_n C (j := 2) dX12_plays_1 rfl rfl rfl ?_
  refine f_callVi C (a := 101) (ci := 12) (As := fun B => [.int x2]) o101 rfl (c_X12_standing  _ _ _ h) tM_X12_322 tI_X12_standing tS_X12_standing tN_X12 tC_X12_standing 1 dd_X12_standing rfl (by omega) (by omega) rfl (Nat.le_of_ble_eq_true rfl) dX12_plays_2 rfl (fun r_2 σ_1 h => ?_)
  refine f_istore C (lv2 := [(6, .int r_2), (0, .ref (B + 101)), (1, .int x1), (2, .int x2), (3, .int x3), (4, .int x4), (5, .int x5)]) dX12_plays_5 (by decide) rfl rfl ?_
  refine f_iload_n C (j := 4) dX12_plays_7 rfl rfl rfl ?_
  refine f_if_ne C (t := 37) dX12_plays_8 (by decide) rfl (fun hq_3 => ?_) (fun hq_3 => ?_)
  · replace h := Eq.mp (if_neg hq_3) h
    refine f_iconst C (v := 0) dX12_plays_37 kc0 rfl ?_
    refine f_istore C (lv2 := [(7, .int 0), (6, .int r_2), (0, .ref (B + 101)), (1, .int x1), (2, .int x2), (3, .int x3), (4, .int x4), (5, .int x5)]) dX12_plays_38 (by decide) rfl rfl ?_
    refine f_iconst C (v := (-1)) dX12_plays_40 kcm1 rfl ?_
    refine f_istore C (lv2 := [(8, .int (-1)), (7, .int 0), (6, .int r_2), (0, .ref (B + 101)), (1, .int x1), (2, .int x2), (3, .int x3), (4, .int x4), (5, .int x5)]) dX12_plays_41 (by decide) rfl rfl ?_
    refine f_iconst C (v := 0) dX12_plays_43 kc0 rfl ?_
    refine f_istore C (lv2 := [(9, .int 0), (8, .int (-1)), (7, .int 0), (6, .int r_2), (0, .ref (B + 101)), (1, .int x1), (2, .int x2), (3, .int x3), (4, .int x4), (5, .int x5)]) dX12_plays_44 (by decide) rfl rfl ?_
    refine f_lv C (lv2 := [(0, .ref (B + 101)), (1, .int x1), (2, .int x2), (3, .int x3), (4, .int x4), (5, .int x5), (6, .int r_2), (7, .int 0), (8, .int (-1)), (9, .int 0)]) [4, 5, 6, 7, 8, 9, 3, 2, 1, 0] rfl ?_
    exact Lp_sound (fun s : Int32 × Int32 × Int32 × Sto => E 46 [(0, .ref (B + 101)), (1, .int x1), (2, .int x2), (3, .int x3), (4, .int x4), (5, .int x5), (6, .int r_2), (7, .int s.1), (8, .int s.2.1), (9, .int s.2.2.1)] [] s.2.2.2) h (fun K s hK h => s_X12_plays_46 (rec := rec) n hrec C x1 x2 x3 x4 x5 r_2 s.1 s.2.1 s.2.2.1 K (fun x7 x8 x9 σ hk => hK (x7, x8, x9, σ) hk) s.2.2.2 h)
  · replace h := Eq.mp (if_pos hq_3) h
    refine f_aload_n C (j := 1) dX12_plays_11 rfl rfl rfl ?_
    refine f_iload C (j := 0) dX12_plays_12 rfl rfl ?_
    refine f_callVi C (a := 101) (ci := 12) (As := fun B => [.int r_2]) o101 rfl (c_X12_doneBy  _ _ _ h) tM_X12_333 tI_X12_doneBy tS_X12_doneBy tN_X12 tC_X12_doneBy 1 dd_X12_doneBy rfl (by omega) (by omega) rfl (Nat.le_of_ble_eq_true rfl) dX12_plays_14 rfl (fun r_33 σ_32 h => ?_)
    refine f_istore C (lv2 := [(7, .int r_33), (6, .int r_2), (0, .ref (B + 101)), (1, .int x1), (2, .int x2), (3, .int x3), (4, .int x4), (5, .int x5)]) dX12_plays_17 (by decide) rfl rfl ?_
    refine f_iload C (j := 0) dX12_plays_19 rfl rfl ?_
    refine f_iload_n C (j := 3) dX12_plays_21 rfl rfl rfl ?_
    refine f_iand C dX12_plays_22 rfl ?_
    refine f_callSi C (As := fun B => [.int (r_33 &&& x1)]) (c_X12_sizeOf  _ _ _ h) tM_X12_397 tT_X12_sizeOf tN_X12 tC_X12_sizeOf 1 dd_X12_sizeOf rfl (by omega) (by omega) rfl (Nat.le_of_ble_eq_true rfl) dX12_plays_23 rfl (fun r_35 σ_34 h => ?_)
    refine f_iload C (j := 0) dX12_plays_26 rfl rfl ?_
    refine f_iload_n C (j := 3) dX12_plays_28 rfl rfl rfl ?_
    refine f_iconst C (v := (-1)) dX12_plays_29 kcm1 rfl ?_
    refine f_inot C dX12_plays_30 rfl ?_
    refine f_iand C dX12_plays_31 rfl ?_
    refine f_callSi C (As := fun B => [.int (r_33 &&& (~~~x1))]) (c_X12_sizeOf  _ _ _ h) tM_X12_397 tT_X12_sizeOf tN_X12 tC_X12_sizeOf 1 dd_X12_sizeOf rfl (by omega) (by omega) rfl (Nat.le_of_ble_eq_true rfl) dX12_plays_32 rfl (fun r_37 σ_36 h => ?_)
    refine f_isub C dX12_plays_35 rfl ?_
    exact f_iret C dX12_plays_36 h
def w_X12_plays : Nat → Int32 → Int32 → Int32 → Int32 → Int32 → Sto → (Int32 → Sto → Prop) → Prop
  | 0 => fun _ _ _ _ _ _ _ => False
  | n + 1 => fun x1 x2 x3 x4 x5 σ P => w_X12_plays_e (w_X12_plays n) x1 x2 x3 x4 x5 σ P
theorem c_X12_plays (n : Nat) (x1 : Int32) (x2 : Int32) (x3 : Int32) (x4 : Int32) (x5 : Int32) (σ : Sto) (P : Int32 → Sto → Prop) (h : w_X12_plays n x1 x2 x3 x4 x5 σ P) : Ct yX12_plays cX12_plays 11 (some .int) (3 + n) (69 + n * 30) (fun B => [.ref (B + 101), .int x1, .int x2, .int x3, .int x4, .int x5]) σ (QFi P) := by
  induction n generalizing x1 x2 x3 x4 x5 σ P with
  | zero => exact h.elim
  | succ n ih => exact Ct.of (by decide) (fun _ => Nat.le_of_ble_eq_true rfl) (fun B E C => s_X12_plays_e (rec := w_X12_plays n) n ih C x1 x2 x3 x4 x5 σ h)
def w_X12_whyNoGame (x1 : Int32) (x2 : Int32) (σ : Sto) (P : Int32 → Sto → Prop) : Prop :=
  w_X12_isIn x1.toInt64 0 (((1 <<< ((gi σ 106 2) &&& 31)) - 1).toInt64) σ (fun r_2 σ_1 => (if r_2 = 0 then P 5 σ_1 else w_X12_isIn x2.toInt64 1 4 σ_1 (fun r_5 σ_4 => (if r_5 = 0 then P 5 σ_4 else P 0 σ_4))))
theorem s_X12_whyNoGame {B : Nat} {E : Nat → List (Nat × Value) → List Value → Sto → Prop} {P : Int32 → Sto → Prop} (C : Cy B E RX12 cX12_whyNoGame 3 (some .int) 1 25 (Zm (QFi P))) (x1 : Int32) (x2 : Int32) (σ : Sto) (h : w_X12_whyNoGame x1 x2 σ P) : E 0 [(0, .ref (B + 101)), (1, .int x1), (2, .int x2)] [] σ := by
  unfold w_X12_whyNoGame at h
  refine f_iload_n C (j := 1) dX12_whyNoGame_0 rfl rfl rfl ?_
  refine f_i2l C dX12_whyNoGame_1 rfl ?_
  refine f_lconst C (v := 0) dX12_whyNoGame_2 (by decide) rfl ?_
  refine f_iconst C (v := 1) dX12_whyNoGame_3 kc1 rfl ?_
  refine f_aload_n C (j := 0) dX12_whyNoGame_4 rfl rfl rfl ?_
  refine f_getc C tF_X12_35 rfl o101 cs101_20 (by decide) dX12_whyNoGame_5 rfl ?_
  refine f_iconst C (v := 2) dX12_whyNoGame_8 kc2 rfl ?_
  refine f_iald C (j := 2) a106 (vp_lit (by decide)) rfl dX12_whyNoGame_9 rfl ?_
  refine f_ishl C dX12_whyNoGame_10 rfl ?_
  refine f_iconst C (v := 1) dX12_whyNoGame_11 kc1 rfl ?_
  refine f_isub C dX12_whyNoGame_12 rfl ?_
  refine f_i2l C dX12_whyNoGame_13 rfl ?_
  refine f_callSi C (As := fun B => [.long x1.toInt64, .long 0, .long (((1 <<< ((gi σ 106 2) &&& 31)) - 1).toInt64)]) (c_X12_isIn  _ _ _ _ _ h) tM_X12_109 tT_X12_isIn tN_X12 tC_X12_isIn 3 dd_X12_isIn rfl (by decide) (by decide) rfl (Nat.le_of_ble_eq_true rfl) dX12_whyNoGame_14 rfl (fun r_2 σ_1 h => ?_)
  refine f_if_eq C (t := 36) dX12_whyNoGame_17 (by decide) rfl (fun hq_3 => ?_) (fun hq_3 => ?_)
  · replace h := Eq.mp (if_pos hq_3) h
    refine f_iconst C (v := 5) dX12_whyNoGame_36 kc5 rfl ?_
    exact f_iret C dX12_whyNoGame_37 h
  · replace h := Eq.mp (if_neg hq_3) h
    refine f_iload_n C (j := 2) dX12_whyNoGame_20 rfl rfl rfl ?_
    refine f_i2l C dX12_whyNoGame_21 rfl ?_
    refine f_lconst C (v := 1) dX12_whyNoGame_22 (by decide) rfl ?_
    refine f_ldc2_w C tL_X12_437 dX12_whyNoGame_23 rfl ?_
    refine f_callSi C (As := fun B => [.long x2.toInt64, .long 1, .long 4]) (c_X12_isIn  _ _ _ _ _ h) tM_X12_109 tT_X12_isIn tN_X12 tC_X12_isIn 3 dd_X12_isIn rfl (by decide) (by decide) rfl (Nat.le_of_ble_eq_true rfl) dX12_whyNoGame_26 rfl (fun r_5 σ_4 h => ?_)
    refine f_if_eq C (t := 36) dX12_whyNoGame_29 (by decide) rfl (fun hq_6 => ?_) (fun hq_6 => ?_)
    · replace h := Eq.mp (if_pos hq_6) h
      refine f_iconst C (v := 5) dX12_whyNoGame_36 kc5 rfl ?_
      exact f_iret C dX12_whyNoGame_37 h
    · replace h := Eq.mp (if_neg hq_6) h
      refine f_iconst C (v := 0) dX12_whyNoGame_32 kc0 rfl ?_
      refine f_goto C (t := 37) dX12_whyNoGame_33 (by decide) ?_
      exact f_iret C dX12_whyNoGame_37 h
theorem c_X12_whyNoGame (x1 : Int32) (x2 : Int32) (σ : Sto) (P : Int32 → Sto → Prop) (h : w_X12_whyNoGame x1 x2 σ P) : Ct yX12_whyNoGame cX12_whyNoGame 3 (some .int) 1 25 (fun B => [.ref (B + 101), .int x1, .int x2]) σ (QFi P) := Ct.of (by decide) (fun _ => Nat.le_of_ble_eq_true rfl) (fun B E C => s_X12_whyNoGame C x1 x2 σ h)
def w_X12_game (x1 : Int32) (x2 : Int32) (σ : Sto) (P : Int32 → Sto → Prop) : Prop :=
  w_X12_whyNoGame x1 x2 (si σ 101 1 0) (fun r_2 σ_1 => ∀ σ_3 : Sto, σ_3 = si σ_1 101 0 r_2 → (if (gi σ_3 101 0) ≤ 0 then w_X12_plays 16 x1 (gi σ_3 106 6) x2 1 1 σ_3 (fun r_7 σ_6 => P r_7 σ_6) else P (-1) σ_3))
theorem s_X12_game {B : Nat} {E : Nat → List (Nat × Value) → List Value → Sto → Prop} {P : Int32 → Sto → Prop} (C : Cy B E RX12 cX12_game 3 (some .int) 20 579 (Zm (QFi P))) (x1 : Int32) (x2 : Int32) (σ : Sto) (h : w_X12_game x1 x2 σ P) : E 0 [(0, .ref (B + 101)), (1, .int x1), (2, .int x2)] [] σ := by
  unfold w_X12_game at h
  refine f_aload_n C (j := 0) dX12_game_0 rfl rfl rfl ?_
  refine f_iconst C (v := 0) dX12_game_1 kc0 rfl ?_
  refine f_puti C tF_X12_74 fm_12_1 rfl o101 dX12_game_2 rfl ?_
  refine f_aload_n C (j := 0) dX12_game_5 rfl rfl rfl ?_
  refine f_aload_n C (j := 0) dX12_game_6 rfl rfl rfl ?_
  refine f_iload_n C (j := 1) dX12_game_7 rfl rfl rfl ?_
  refine f_iload_n C (j := 2) dX12_game_8 rfl rfl rfl ?_
  refine f_callVi C (a := 101) (ci := 12) (As := fun B => [.int x1, .int x2]) o101 rfl (c_X12_whyNoGame  _ _ _ _ h) tM_X12_439 tI_X12_whyNoGame tS_X12_whyNoGame tN_X12 tC_X12_whyNoGame 2 dd_X12_whyNoGame rfl (by decide) (by decide) rfl (Nat.le_of_ble_eq_true rfl) dX12_game_9 rfl (fun r_2 σ_1 h => ?_)
  refine f_puti C tF_X12_77 fm_12_0 rfl o101 dX12_game_12 rfl ?_
  refine f_aload_n C (j := 0) dX12_game_15 rfl rfl rfl ?_
  refine f_names (fun σ_3 hσ_4 => ?_)
  replace h := h σ_3 hσ_4
  refine f_geti C tF_X12_77 rfl o101 dX12_game_16 rfl ?_
  refine f_if_le C (t := 26) dX12_game_19 (by decide) rfl (fun hq_5 => ?_) (fun hq_5 => ?_)
  · replace h := Eq.mp (if_pos hq_5) h
    refine f_aload_n C (j := 0) dX12_game_26 rfl rfl rfl ?_
    refine f_iload_n C (j := 1) dX12_game_27 rfl rfl rfl ?_
    refine f_aload_n C (j := 0) dX12_game_28 rfl rfl rfl ?_
    refine f_getc C tF_X12_35 rfl o101 cs101_20 (by decide) dX12_game_29 rfl ?_
    refine f_bipush C (v := 6) dX12_game_32 kb6 rfl ?_
    refine f_iald C (j := 6) a106 (vp_lit (by decide)) rfl dX12_game_34 rfl ?_
    refine f_iload_n C (j := 2) dX12_game_35 rfl rfl rfl ?_
    refine f_iconst C (v := 1) dX12_game_36 kc1 rfl ?_
    refine f_iconst C (v := 1) dX12_game_37 kc1 rfl ?_
    refine f_callVi C (a := 101) (ci := 12) (As := fun B => [.int x1, .int (gi σ_3 106 6), .int x2, .int 1, .int 1]) o101 rfl (c_X12_plays 16 _ _ _ _ _ _ _ h) tM_X12_430 tI_X12_plays tS_X12_plays tN_X12 tC_X12_plays 5 dd_X12_plays rfl (by decide) (by decide) rfl (Nat.le_of_ble_eq_true rfl) dX12_game_38 rfl (fun r_7 σ_6 h => ?_)
    exact f_iret C dX12_game_41 h
  · replace h := Eq.mp (if_neg hq_5) h
    refine f_iconst C (v := (-1)) dX12_game_22 kcm1 rfl ?_
    refine f_goto C (t := 41) dX12_game_23 (by decide) ?_
    exact f_iret C dX12_game_41 h
theorem c_X12_game (x1 : Int32) (x2 : Int32) (σ : Sto) (P : Int32 → Sto → Prop) (h : w_X12_game x1 x2 σ P) : Ct yX12_game cX12_game 3 (some .int) 20 579 (fun B => [.ref (B + 101), .int x1, .int x2]) σ (QFi P) := Ct.of (by decide) (fun _ => Nat.le_of_ble_eq_true rfl) (fun B E C => s_X12_game C x1 x2 σ h)
def w_X12_firstMove (x1 : Int32) (x2 : Int32) (σ : Sto) (P : Int32 → Sto → Prop) : Prop :=
  w_X12_whyNoGame x1 x2 (si σ 101 1 0) (fun r_2 σ_1 => ∀ σ_3 : Sto, σ_3 = si σ_1 101 0 r_2 → (if (gi σ_3 101 0) ≤ 0 then w_X12_plays 16 x1 (gi σ_3 106 6) x2 1 1 σ_3 (fun r_7 σ_6 => (if 0 ≤ (gi σ_6 101 33) then P (gi σ_6 101 33) σ_6 else w_X12_refuse 8 σ_6 (fun r_10 σ_9 => P r_10 σ_9))) else P (-1) σ_3))
theorem s_X12_firstMove {B : Nat} {E : Nat → List (Nat × Value) → List Value → Sto → Prop} {P : Int32 → Sto → Prop} (C : Cy B E RX12 cX12_firstMove 3 (some .int) 20 579 (Zm (QFi P))) (x1 : Int32) (x2 : Int32) (σ : Sto) (h : w_X12_firstMove x1 x2 σ P) : E 0 [(0, .ref (B + 101)), (1, .int x1), (2, .int x2)] [] σ := by
  unfold w_X12_firstMove at h
  refine f_aload_n C (j := 0) dX12_firstMove_0 rfl rfl rfl ?_
  refine f_iconst C (v := 0) dX12_firstMove_1 kc0 rfl ?_
  refine f_puti C tF_X12_74 fm_12_1 rfl o101 dX12_firstMove_2 rfl ?_
  refine f_aload_n C (j := 0) dX12_firstMove_5 rfl rfl rfl ?_
  refine f_aload_n C (j := 0) dX12_firstMove_6 rfl rfl rfl ?_
  refine f_iload_n C (j := 1) dX12_firstMove_7 rfl rfl rfl ?_
  refine f_iload_n C (j := 2) dX12_firstMove_8 rfl rfl rfl ?_
  refine f_callVi C (a := 101) (ci := 12) (As := fun B => [.int x1, .int x2]) o101 rfl (c_X12_whyNoGame  _ _ _ _ h) tM_X12_439 tI_X12_whyNoGame tS_X12_whyNoGame tN_X12 tC_X12_whyNoGame 2 dd_X12_whyNoGame rfl (by decide) (by decide) rfl (Nat.le_of_ble_eq_true rfl) dX12_firstMove_9 rfl (fun r_2 σ_1 h => ?_)
  refine f_puti C tF_X12_77 fm_12_0 rfl o101 dX12_firstMove_12 rfl ?_
  refine f_aload_n C (j := 0) dX12_firstMove_15 rfl rfl rfl ?_
  refine f_names (fun σ_3 hσ_4 => ?_)
  replace h := h σ_3 hσ_4
  refine f_geti C tF_X12_77 rfl o101 dX12_firstMove_16 rfl ?_
  refine f_if_le C (t := 24) dX12_firstMove_19 (by decide) rfl (fun hq_5 => ?_) (fun hq_5 => ?_)
  · replace h := Eq.mp (if_pos hq_5) h
    refine f_aload_n C (j := 0) dX12_firstMove_24 rfl rfl rfl ?_
    refine f_iload_n C (j := 1) dX12_firstMove_25 rfl rfl rfl ?_
    refine f_aload_n C (j := 0) dX12_firstMove_26 rfl rfl rfl ?_
    refine f_getc C tF_X12_35 rfl o101 cs101_20 (by decide) dX12_firstMove_27 rfl ?_
    refine f_bipush C (v := 6) dX12_firstMove_30 kb6 rfl ?_
    refine f_iald C (j := 6) a106 (vp_lit (by decide)) rfl dX12_firstMove_32 rfl ?_
    refine f_iload_n C (j := 2) dX12_firstMove_33 rfl rfl rfl ?_
    refine f_iconst C (v := 1) dX12_firstMove_34 kc1 rfl ?_
    refine f_iconst C (v := 1) dX12_firstMove_35 kc1 rfl ?_
    refine f_callVi C (a := 101) (ci := 12) (As := fun B => [.int x1, .int (gi σ_3 106 6), .int x2, .int 1, .int 1]) o101 rfl (c_X12_plays 16 _ _ _ _ _ _ _ h) tM_X12_430 tI_X12_plays tS_X12_plays tN_X12 tC_X12_plays 5 dd_X12_plays rfl (by decide) (by decide) rfl (Nat.le_of_ble_eq_true rfl) dX12_firstMove_36 rfl (fun r_7 σ_6 h => ?_)
    refine f_pop C dX12_firstMove_39 rfl rfl ?_
    refine f_aload_n C (j := 0) dX12_firstMove_40 rfl rfl rfl ?_
    refine f_geti C tF_X12_434 rfl o101 dX12_firstMove_41 rfl ?_
    refine f_if_ge C (t := 56) dX12_firstMove_44 (by decide) rfl (fun hq_8 => ?_) (fun hq_8 => ?_)
    · replace h := Eq.mp (if_pos hq_8) h
      refine f_aload_n C (j := 0) dX12_firstMove_56 rfl rfl rfl ?_
      refine f_geti C tF_X12_434 rfl o101 dX12_firstMove_57 rfl ?_
      exact f_iret C dX12_firstMove_60 h
    · replace h := Eq.mp (if_neg hq_8) h
      refine f_aload_n C (j := 0) dX12_firstMove_47 rfl rfl rfl ?_
      refine f_bipush C (v := 8) dX12_firstMove_48 kb8 rfl ?_
      refine f_callVi C (a := 101) (ci := 12) (As := fun B => [.int 8]) o101 rfl (c_X12_refuse  _ _ _ h) tM_X12_327 tI_X12_refuse tS_X12_refuse tN_X12 tC_X12_refuse 1 dd_X12_refuse rfl (by decide) (by decide) rfl (Nat.le_of_ble_eq_true rfl) dX12_firstMove_50 rfl (fun r_10 σ_9 h => ?_)
      refine f_goto C (t := 60) dX12_firstMove_53 (by decide) ?_
      exact f_iret C dX12_firstMove_60 h
  · replace h := Eq.mp (if_neg hq_5) h
    refine f_iconst C (v := (-1)) dX12_firstMove_22 kcm1 rfl ?_
    exact f_iret C dX12_firstMove_23 h
theorem c_X12_firstMove (x1 : Int32) (x2 : Int32) (σ : Sto) (P : Int32 → Sto → Prop) (h : w_X12_firstMove x1 x2 σ P) : Ct yX12_firstMove cX12_firstMove 3 (some .int) 20 579 (fun B => [.ref (B + 101), .int x1, .int x2]) σ (QFi P) := Ct.of (by decide) (fun _ => Nat.le_of_ble_eq_true rfl) (fun B E C => s_X12_firstMove C x1 x2 σ h)
def w_X12_makingsFor_50 (K20 : Int32 × Int32 × Sto → Prop) (x1 : Int32) (x2 : Int32) (x3 : Int32) (σ : Sto) (P : Int32 → Sto → Prop) : Prop :=
  w_X12_standingBy (gi σ 106 6) x3 σ (fun r_7 σ_6 => w_X12_has r_7 x1 σ_6 (fun r_9 σ_8 => (if r_9 = 0 then ∀ x3_11 : Int32, x3_11 = x3 + 1 → K20 (x2, x3_11, σ_8) else ∀ x3_13 : Int32, x3_13 = x3 + 1 → K20 (x3, x3_13, σ_8))))
theorem s_X12_makingsFor_50 {B : Nat} {E : Nat → List (Nat × Value) → List Value → Sto → Prop} {P : Int32 → Sto → Prop} (C : Cy B E RX12 cX12_makingsFor 4 (some .int) 2 48 (Zm (QFi P))) (x1 : Int32) (x2 : Int32) (x3 : Int32) (K20 : Int32 × Int32 × Sto → Prop) (hK20 : ∀ (x2 : Int32) (x3 : Int32) (σ : Sto), K20 (x2, x3, σ) → E 20 [(0, .ref (B + 101)), (1, .int x1), (2, .int x2), (3, .int x3)] [] σ) (σ : Sto) (h : w_X12_makingsFor_50 K20 x1 x2 x3 σ P) : E 50 [(0, .ref (B + 101)), (1, .int x1), (2, .int x2), (3, .int x3)] [] σ := by
  unfold w_X12_makingsFor_50 at h
  refine f_aload_n C (j := 0) dX12_makingsFor_50 rfl rfl rfl ?_
  refine f_aload_n C (j := 0) dX12_makingsFor_51 rfl rfl rfl ?_
  refine f_getc C tF_X12_35 rfl o101 cs101_20 (by decide) dX12_makingsFor_52 rfl ?_
  refine f_bipush C (v := 6) dX12_makingsFor_55 kb6 rfl ?_
  refine f_iald C (j := 6) a106 (vp_lit (by decide)) rfl dX12_makingsFor_57 rfl ?_
  refine f_iload_n C (j := 3) dX12_makingsFor_58 rfl rfl rfl ?_
  refine f_callVi C (a := 101) (ci := 12) (As := fun B => [.int (gi σ 106 6), .int x3]) o101 rfl (c_X12_standingBy  _ _ _ _ h) tM_X12_319 tI_X12_standingBy tS_X12_standingBy tN_X12 tC_X12_standingBy 2 dd_X12_standingBy rfl (by decide) (by decide) rfl (Nat.le_of_ble_eq_true rfl) dX12_makingsFor_59 rfl (fun r_7 σ_6 h => ?_)
  refine f_iload_n C (j := 1) dX12_makingsFor_62 rfl rfl rfl ?_
  refine f_callSi C (As := fun B => [.int r_7, .int x1]) (c_X12_has  _ _ _ _ h) tM_X12_113 tT_X12_has tN_X12 tC_X12_has 2 dd_X12_has rfl (by decide) (by decide) rfl (Nat.le_of_ble_eq_true rfl) dX12_makingsFor_63 rfl (fun r_9 σ_8 h => ?_)
  refine f_if_eq C (t := 71) dX12_makingsFor_66 (by decide) rfl (fun hq_10 => ?_) (fun hq_10 => ?_)
  · replace h := Eq.mp (if_pos hq_10) h
    obtain ⟨x3_11, hx_12⟩ : ∃ y : Int32, y = x3 + 1 := ⟨_, rfl⟩
    replace h := h x3_11 hx_12
    refine f_iinc C (j := 3) (v := x3_11) (lv2 := [(3, .int x3_11), (0, .ref (B + 101)), (1, .int x1), (2, .int x2)]) dX12_makingsFor_71 rfl hx_12.symm (by decide) rfl rfl ?_
    refine f_goto C (t := 20) dX12_makingsFor_74 (by decide) ?_
    refine f_lv C (lv2 := [(0, .ref (B + 101)), (1, .int x1), (2, .int x2), (3, .int x3_11)]) [1, 2, 3, 0] rfl ?_
    exact hK20 _ _ _ h
  · replace h := Eq.mp (if_neg hq_10) h
    refine f_iload_n C (j := 3) dX12_makingsFor_69 rfl rfl rfl ?_
    refine f_istore_n C (lv2 := [(2, .int x3), (0, .ref (B + 101)), (1, .int x1), (3, .int x3)]) dX12_makingsFor_70 rfl (by decide) rfl rfl ?_
    obtain ⟨x3_13, hx_14⟩ : ∃ y : Int32, y = x3 + 1 := ⟨_, rfl⟩
    replace h := h x3_13 hx_14
    refine f_iinc C (j := 3) (v := x3_13) (lv2 := [(3, .int x3_13), (2, .int x3), (0, .ref (B + 101)), (1, .int x1)]) dX12_makingsFor_71 rfl hx_14.symm (by decide) rfl rfl ?_
    refine f_goto C (t := 20) dX12_makingsFor_74 (by decide) ?_
    refine f_lv C (lv2 := [(0, .ref (B + 101)), (1, .int x1), (2, .int x3), (3, .int x3_13)]) [2, 3, 1, 0] rfl ?_
    exact hK20 _ _ _ h
def w_X12_makingsFor_20 (K20 : Int32 × Int32 × Sto → Prop) (x1 : Int32) (x2 : Int32) (x3 : Int32) (σ : Sto) (P : Int32 → Sto → Prop) : Prop :=
  (if (1 <<< ((gi σ 106 1) &&& 31)) ≤ x3 then P x2 σ else (if x2 < 0 then w_X12_makingsFor_50 K20 x1 x2 x3 σ P else w_X12_sizeOf x3 σ (fun r_16 σ_15 => w_X12_sizeOf x2 σ_15 (fun r_18 σ_17 => (if r_16 < r_18 then w_X12_makingsFor_50 K20 x1 x2 x3 σ_17 P else ∀ x3_20 : Int32, x3_20 = x3 + 1 → K20 (x2, x3_20, σ_17))))))
theorem s_X12_makingsFor_20 {B : Nat} {E : Nat → List (Nat × Value) → List Value → Sto → Prop} {P : Int32 → Sto → Prop} (C : Cy B E RX12 cX12_makingsFor 4 (some .int) 2 48 (Zm (QFi P))) (x1 : Int32) (x2 : Int32) (x3 : Int32) (K20 : Int32 × Int32 × Sto → Prop) (hK20 : ∀ (x2 : Int32) (x3 : Int32) (σ : Sto), K20 (x2, x3, σ) → E 20 [(0, .ref (B + 101)), (1, .int x1), (2, .int x2), (3, .int x3)] [] σ) (σ : Sto) (h : w_X12_makingsFor_20 K20 x1 x2 x3 σ P) : E 20 [(0, .ref (B + 101)), (1, .int x1), (2, .int x2), (3, .int x3)] [] σ := by
  unfold w_X12_makingsFor_20 at h
  refine f_iload_n C (j := 3) dX12_makingsFor_20 rfl rfl rfl ?_
  refine f_iconst C (v := 1) dX12_makingsFor_21 kc1 rfl ?_
  refine f_aload_n C (j := 0) dX12_makingsFor_22 rfl rfl rfl ?_
  refine f_getc C tF_X12_35 rfl o101 cs101_20 (by decide) dX12_makingsFor_23 rfl ?_
  refine f_iconst C (v := 1) dX12_makingsFor_26 kc1 rfl ?_
  refine f_iald C (j := 1) a106 (vp_lit (by decide)) rfl dX12_makingsFor_27 rfl ?_
  refine f_ishl C dX12_makingsFor_28 rfl ?_
  refine f_icmp_ge C (t := 77) dX12_makingsFor_29 (by decide) rfl (fun hq_4 => ?_) (fun hq_4 => ?_)
  · replace h := Eq.mp (if_pos hq_4) h
    refine f_iload_n C (j := 2) dX12_makingsFor_77 rfl rfl rfl ?_
    exact f_iret C dX12_makingsFor_78 h
  · replace h := Eq.mp (if_neg hq_4) h
    refine f_iload_n C (j := 2) dX12_makingsFor_32 rfl rfl rfl ?_
    refine f_if_lt C (t := 50) dX12_makingsFor_33 (by decide) rfl (fun hq_5 => ?_) (fun hq_5 => ?_)
    · replace h := Eq.mp (if_pos hq_5) h
      exact s_X12_makingsFor_50 C _ _ _  K20 hK20 _ h
    · replace h := Eq.mp (if_neg hq_5) h
      refine f_iload_n C (j := 3) dX12_makingsFor_36 rfl rfl rfl ?_
      refine f_callSi C (As := fun B => [.int x3]) (c_X12_sizeOf  _ _ _ h) tM_X12_397 tT_X12_sizeOf tN_X12 tC_X12_sizeOf 1 dd_X12_sizeOf rfl (by decide) (by decide) rfl (Nat.le_of_ble_eq_true rfl) dX12_makingsFor_37 rfl (fun r_16 σ_15 h => ?_)
      refine f_iload_n C (j := 2) dX12_makingsFor_40 rfl rfl rfl ?_
      refine f_callSi C (As := fun B => [.int x2]) (c_X12_sizeOf  _ _ _ h) tM_X12_397 tT_X12_sizeOf tN_X12 tC_X12_sizeOf 1 dd_X12_sizeOf rfl (by decide) (by decide) rfl (Nat.le_of_ble_eq_true rfl) dX12_makingsFor_41 rfl (fun r_18 σ_17 h => ?_)
      refine f_icmp_lt C (t := 50) dX12_makingsFor_44 (by decide) rfl (fun hq_19 => ?_) (fun hq_19 => ?_)
      · replace h := Eq.mp (if_pos hq_19) h
        exact s_X12_makingsFor_50 C _ _ _  K20 hK20 _ h
      · replace h := Eq.mp (if_neg hq_19) h
        refine f_goto C (t := 71) dX12_makingsFor_47 (by decide) ?_
        obtain ⟨x3_20, hx_21⟩ : ∃ y : Int32, y = x3 + 1 := ⟨_, rfl⟩
        replace h := h x3_20 hx_21
        refine f_iinc C (j := 3) (v := x3_20) (lv2 := [(3, .int x3_20), (0, .ref (B + 101)), (1, .int x1), (2, .int x2)]) dX12_makingsFor_71 rfl hx_21.symm (by decide) rfl rfl ?_
        refine f_goto C (t := 20) dX12_makingsFor_74 (by decide) ?_
        refine f_lv C (lv2 := [(0, .ref (B + 101)), (1, .int x1), (2, .int x2), (3, .int x3_20)]) [1, 2, 3, 0] rfl ?_
        exact hK20 _ _ _ h
def w_X12_makingsFor (x1 : Int32) (σ : Sto) (P : Int32 → Sto → Prop) : Prop :=
  w_X12_has (gi σ 106 6) x1 σ (fun r_2 σ_1 => (if r_2 = 0 then Lp (fun (K : Int32 × Int32 × Sto → Prop) s => w_X12_makingsFor_20 K x1 s.1 s.2.1 s.2.2 P) ((-1), 0, σ_1) else P (-1) σ_1))
theorem s_X12_makingsFor {B : Nat} {E : Nat → List (Nat × Value) → List Value → Sto → Prop} {P : Int32 → Sto → Prop} (C : Cy B E RX12 cX12_makingsFor 4 (some .int) 2 48 (Zm (QFi P))) (x1 : Int32) (σ : Sto) (h : w_X12_makingsFor x1 σ P) : E 0 [(0, .ref (B + 101)), (1, .int x1)] [] σ := by
  unfold w_X12_makingsFor at h
  refine f_aload_n C (j := 0) dX12_makingsFor_0 rfl rfl rfl ?_
  refine f_getc C tF_X12_35 rfl o101 cs101_20 (by decide) dX12_makingsFor_1 rfl ?_
  refine f_bipush C (v := 6) dX12_makingsFor_4 kb6 rfl ?_
  refine f_iald C (j := 6) a106 (vp_lit (by decide)) rfl dX12_makingsFor_6 rfl ?_
  refine f_iload_n C (j := 1) dX12_makingsFor_7 rfl rfl rfl ?_
  refine f_callSi C (As := fun B => [.int (gi σ 106 6), .int x1]) (c_X12_has  _ _ _ _ h) tM_X12_113 tT_X12_has tN_X12 tC_X12_has 2 dd_X12_has rfl (by decide) (by decide) rfl (Nat.le_of_ble_eq_true rfl) dX12_makingsFor_8 rfl (fun r_2 σ_1 h => ?_)
  refine f_if_eq C (t := 16) dX12_makingsFor_11 (by decide) rfl (fun hq_3 => ?_) (fun hq_3 => ?_)
  · replace h := Eq.mp (if_pos hq_3) h
    refine f_iconst C (v := (-1)) dX12_makingsFor_16 kcm1 rfl ?_
    refine f_istore_n C (lv2 := [(2, .int (-1)), (0, .ref (B + 101)), (1, .int x1)]) dX12_makingsFor_17 rfl (by decide) rfl rfl ?_
    refine f_iconst C (v := 0) dX12_makingsFor_18 kc0 rfl ?_
    refine f_istore_n C (lv2 := [(3, .int 0), (2, .int (-1)), (0, .ref (B + 101)), (1, .int x1)]) dX12_makingsFor_19 rfl (by decide) rfl rfl ?_
    refine f_lv C (lv2 := [(0, .ref (B + 101)), (1, .int x1), (2, .int (-1)), (3, .int 0)]) [2, 3, 1, 0] rfl ?_
    exact Lp_sound (fun s : Int32 × Int32 × Sto => E 20 [(0, .ref (B + 101)), (1, .int x1), (2, .int s.1), (3, .int s.2.1)] [] s.2.2) h (fun K s hK h => s_X12_makingsFor_20 C x1 s.1 s.2.1 K (fun x2 x3 σ hk => hK (x2, x3, σ) hk) s.2.2 h)
  · replace h := Eq.mp (if_neg hq_3) h
    refine f_iconst C (v := (-1)) dX12_makingsFor_14 kcm1 rfl ?_
    exact f_iret C dX12_makingsFor_15 h
theorem c_X12_makingsFor (x1 : Int32) (σ : Sto) (P : Int32 → Sto → Prop) (h : w_X12_makingsFor x1 σ P) : Ct yX12_makingsFor cX12_makingsFor 4 (some .int) 2 48 (fun B => [.ref (B + 101), .int x1]) σ (QFi P) := Ct.of (by decide) (fun _ => Nat.le_of_ble_eq_true rfl) (fun B E C => s_X12_makingsFor C x1 σ h)
def w_X12_again (x1 : Int32) (σ : Sto) (P : Int32 → Sto → Prop) : Prop :=
  w_X12_isThingAt x1 (si (si σ 101 1 0) 101 0 0) (fun r_2 σ_1 => (if r_2 = 0 then w_X12_refuse 2 σ_1 (fun r_12 σ_11 => P r_12 σ_11) else w_X12_makingsFor x1 σ_1 (fun r_5 σ_4 => (if 0 ≤ r_5 then w_X12_sizeOf r_5 σ_4 (fun r_8 σ_7 => P r_8 σ_7) else w_X12_refuse 8 σ_4 (fun r_10 σ_9 => P r_10 σ_9)))))
theorem s_X12_again {B : Nat} {E : Nat → List (Nat × Value) → List Value → Sto → Prop} {P : Int32 → Sto → Prop} (C : Cy B E RX12 cX12_again 3 (some .int) 3 71 (Zm (QFi P))) (x1 : Int32) (σ : Sto) (h : w_X12_again x1 σ P) : E 0 [(0, .ref (B + 101)), (1, .int x1)] [] σ := by
  unfold w_X12_again at h
  refine f_aload_n C (j := 0) dX12_again_0 rfl rfl rfl ?_
  refine f_iconst C (v := 0) dX12_again_1 kc0 rfl ?_
  refine f_puti C tF_X12_74 fm_12_1 rfl o101 dX12_again_2 rfl ?_
  refine f_aload_n C (j := 0) dX12_again_5 rfl rfl rfl ?_
  refine f_iconst C (v := 0) dX12_again_6 kc0 rfl ?_
  refine f_puti C tF_X12_77 fm_12_0 rfl o101 dX12_again_7 rfl ?_
  refine f_aload_n C (j := 0) dX12_again_10 rfl rfl rfl ?_
  refine f_iload_n C (j := 1) dX12_again_11 rfl rfl rfl ?_
  refine f_callVi C (a := 101) (ci := 12) (As := fun B => [.int x1]) o101 rfl (c_X12_isThingAt  _ _ _ h) tM_X12_339 tI_X12_isThingAt tS_X12_isThingAt tN_X12 tC_X12_isThingAt 1 dd_X12_isThingAt rfl (by decide) (by decide) rfl (Nat.le_of_ble_eq_true rfl) dX12_again_12 rfl (fun r_2 σ_1 h => ?_)
  refine f_if_ne C (t := 24) dX12_again_15 (by decide) rfl (fun hq_3 => ?_) (fun hq_3 => ?_)
  · replace h := Eq.mp (if_neg hq_3) h
    refine f_aload_n C (j := 0) dX12_again_24 rfl rfl rfl ?_
    refine f_iload_n C (j := 1) dX12_again_25 rfl rfl rfl ?_
    refine f_callVi C (a := 101) (ci := 12) (As := fun B => [.int x1]) o101 rfl (c_X12_makingsFor  _ _ _ h) tM_X12_442 tI_X12_makingsFor tS_X12_makingsFor tN_X12 tC_X12_makingsFor 1 dd_X12_makingsFor rfl (by decide) (by decide) rfl (Nat.le_of_ble_eq_true rfl) dX12_again_26 rfl (fun r_5 σ_4 h => ?_)
    refine f_istore_n C (lv2 := [(2, .int r_5), (0, .ref (B + 101)), (1, .int x1)]) dX12_again_29 rfl (by decide) rfl rfl ?_
    refine f_iload_n C (j := 0) dX12_again_30 rfl rfl rfl ?_
    refine f_if_ge C (t := 43) dX12_again_31 (by decide) rfl (fun hq_6 => ?_) (fun hq_6 => ?_)
    · replace h := Eq.mp (if_pos hq_6) h
      refine f_iload_n C (j := 0) dX12_again_43 rfl rfl rfl ?_
      refine f_callSi C (As := fun B => [.int r_5]) (c_X12_sizeOf  _ _ _ h) tM_X12_397 tT_X12_sizeOf tN_X12 tC_X12_sizeOf 1 dd_X12_sizeOf rfl (by decide) (by decide) rfl (Nat.le_of_ble_eq_true rfl) dX12_again_44 rfl (fun r_8 σ_7 h => ?_)
      exact f_iret C dX12_again_47 h
    · replace h := Eq.mp (if_neg hq_6) h
      refine f_aload_n C (j := 1) dX12_again_34 rfl rfl rfl ?_
      refine f_bipush C (v := 8) dX12_again_35 kb8 rfl ?_
      refine f_callVi C (a := 101) (ci := 12) (As := fun B => [.int 8]) o101 rfl (c_X12_refuse  _ _ _ h) tM_X12_327 tI_X12_refuse tS_X12_refuse tN_X12 tC_X12_refuse 1 dd_X12_refuse rfl (by decide) (by decide) rfl (Nat.le_of_ble_eq_true rfl) dX12_again_37 rfl (fun r_10 σ_9 h => ?_)
      refine f_goto C (t := 47) dX12_again_40 (by decide) ?_
      exact f_iret C dX12_again_47 h
  · replace h := Eq.mp (if_pos hq_3) h
    refine f_aload_n C (j := 0) dX12_again_18 rfl rfl rfl ?_
    refine f_iconst C (v := 2) dX12_again_19 kc2 rfl ?_
    refine f_callVi C (a := 101) (ci := 12) (As := fun B => [.int 2]) o101 rfl (c_X12_refuse  _ _ _ h) tM_X12_327 tI_X12_refuse tS_X12_refuse tN_X12 tC_X12_refuse 1 dd_X12_refuse rfl (by decide) (by decide) rfl (Nat.le_of_ble_eq_true rfl) dX12_again_20 rfl (fun r_12 σ_11 h => ?_)
    exact f_iret C dX12_again_23 h
theorem c_X12_again (x1 : Int32) (σ : Sto) (P : Int32 → Sto → Prop) (h : w_X12_again x1 σ P) : Ct yX12_again cX12_again 3 (some .int) 3 71 (fun B => [.ref (B + 101), .int x1]) σ (QFi P) := Ct.of (by decide) (fun _ => Nat.le_of_ble_eq_true rfl) (fun B E C => s_X12_again C x1 σ h)
def w_X12_againSet (x1 : Int32) (σ : Sto) (P : Int32 → Sto → Prop) : Prop :=
  w_X12_isThingAt x1 (si (si σ 101 1 0) 101 0 0) (fun r_2 σ_1 => (if r_2 = 0 then w_X12_refuse 2 σ_1 (fun r_10 σ_9 => P r_10 σ_9) else w_X12_makingsFor x1 σ_1 (fun r_5 σ_4 => (if 0 ≤ r_5 then P r_5 σ_4 else w_X12_refuse 8 σ_4 (fun r_8 σ_7 => P r_8 σ_7)))))
theorem s_X12_againSet {B : Nat} {E : Nat → List (Nat × Value) → List Value → Sto → Prop} {P : Int32 → Sto → Prop} (C : Cy B E RX12 cX12_againSet 3 (some .int) 3 71 (Zm (QFi P))) (x1 : Int32) (σ : Sto) (h : w_X12_againSet x1 σ P) : E 0 [(0, .ref (B + 101)), (1, .int x1)] [] σ := by
  unfold w_X12_againSet at h
  refine f_aload_n C (j := 0) dX12_againSet_0 rfl rfl rfl ?_
  refine f_iconst C (v := 0) dX12_againSet_1 kc0 rfl ?_
  refine f_puti C tF_X12_74 fm_12_1 rfl o101 dX12_againSet_2 rfl ?_
  refine f_aload_n C (j := 0) dX12_againSet_5 rfl rfl rfl ?_
  refine f_iconst C (v := 0) dX12_againSet_6 kc0 rfl ?_
  refine f_puti C tF_X12_77 fm_12_0 rfl o101 dX12_againSet_7 rfl ?_
  refine f_aload_n C (j := 0) dX12_againSet_10 rfl rfl rfl ?_
  refine f_iload_n C (j := 1) dX12_againSet_11 rfl rfl rfl ?_
  refine f_callVi C (a := 101) (ci := 12) (As := fun B => [.int x1]) o101 rfl (c_X12_isThingAt  _ _ _ h) tM_X12_339 tI_X12_isThingAt tS_X12_isThingAt tN_X12 tC_X12_isThingAt 1 dd_X12_isThingAt rfl (by decide) (by decide) rfl (Nat.le_of_ble_eq_true rfl) dX12_againSet_12 rfl (fun r_2 σ_1 h => ?_)
  refine f_if_ne C (t := 24) dX12_againSet_15 (by decide) rfl (fun hq_3 => ?_) (fun hq_3 => ?_)
  · replace h := Eq.mp (if_neg hq_3) h
    refine f_aload_n C (j := 0) dX12_againSet_24 rfl rfl rfl ?_
    refine f_iload_n C (j := 1) dX12_againSet_25 rfl rfl rfl ?_
    refine f_callVi C (a := 101) (ci := 12) (As := fun B => [.int x1]) o101 rfl (c_X12_makingsFor  _ _ _ h) tM_X12_442 tI_X12_makingsFor tS_X12_makingsFor tN_X12 tC_X12_makingsFor 1 dd_X12_makingsFor rfl (by decide) (by decide) rfl (Nat.le_of_ble_eq_true rfl) dX12_againSet_26 rfl (fun r_5 σ_4 h => ?_)
    refine f_istore_n C (lv2 := [(2, .int r_5), (0, .ref (B + 101)), (1, .int x1)]) dX12_againSet_29 rfl (by decide) rfl rfl ?_
    refine f_iload_n C (j := 0) dX12_againSet_30 rfl rfl rfl ?_
    refine f_if_ge C (t := 43) dX12_againSet_31 (by decide) rfl (fun hq_6 => ?_) (fun hq_6 => ?_)
    · replace h := Eq.mp (if_pos hq_6) h
      refine f_iload_n C (j := 0) dX12_againSet_43 rfl rfl rfl ?_
      exact f_iret C dX12_againSet_44 h
    · replace h := Eq.mp (if_neg hq_6) h
      refine f_aload_n C (j := 1) dX12_againSet_34 rfl rfl rfl ?_
      refine f_bipush C (v := 8) dX12_againSet_35 kb8 rfl ?_
      refine f_callVi C (a := 101) (ci := 12) (As := fun B => [.int 8]) o101 rfl (c_X12_refuse  _ _ _ h) tM_X12_327 tI_X12_refuse tS_X12_refuse tN_X12 tC_X12_refuse 1 dd_X12_refuse rfl (by decide) (by decide) rfl (Nat.le_of_ble_eq_true rfl) dX12_againSet_37 rfl (fun r_8 σ_7 h => ?_)
      refine f_goto C (t := 44) dX12_againSet_40 (by decide) ?_
      exact f_iret C dX12_againSet_44 h
  · replace h := Eq.mp (if_pos hq_3) h
    refine f_aload_n C (j := 0) dX12_againSet_18 rfl rfl rfl ?_
    refine f_iconst C (v := 2) dX12_againSet_19 kc2 rfl ?_
    refine f_callVi C (a := 101) (ci := 12) (As := fun B => [.int 2]) o101 rfl (c_X12_refuse  _ _ _ h) tM_X12_327 tI_X12_refuse tS_X12_refuse tN_X12 tC_X12_refuse 1 dd_X12_refuse rfl (by decide) (by decide) rfl (Nat.le_of_ble_eq_true rfl) dX12_againSet_20 rfl (fun r_10 σ_9 h => ?_)
    exact f_iret C dX12_againSet_23 h
theorem c_X12_againSet (x1 : Int32) (σ : Sto) (P : Int32 → Sto → Prop) (h : w_X12_againSet x1 σ P) : Ct yX12_againSet cX12_againSet 3 (some .int) 3 71 (fun B => [.ref (B + 101), .int x1]) σ (QFi P) := Ct.of (by decide) (fun _ => Nat.le_of_ble_eq_true rfl) (fun B E C => s_X12_againSet C x1 σ h)
def w_X12_wasIt_28 (K28 : Int32 × Int32 × Sto → Prop) (x1 : Int32) (x2 : Int32) (x3 : Int32) (σ : Sto) (P : Int32 → Sto → Prop) : Prop :=
  (if (gi σ 106 0) ≤ x3 then P x2 σ else w_X12_now σ (fun r_6 σ_5 => w_X12_has r_6 x3 σ_5 (fun r_8 σ_7 => (if r_8 = 0 then ∀ x2_10 : Int32, x2_10 = x2 ||| 0 → ∀ x3_12 : Int32, x3_12 = x3 + 1 → K28 (x2_10, x3_12, σ_7) else w_X12_fallsWith x3 σ_7 (fun r_15 σ_14 => (if r_15 = x1 then ∀ x2_21 : Int32, x2_21 = x2 ||| (1 <<< (x3 &&& 31)) → ∀ x3_23 : Int32, x3_23 = x3 + 1 → K28 (x2_21, x3_23, σ_14) else ∀ x2_17 : Int32, x2_17 = x2 ||| 0 → ∀ x3_19 : Int32, x3_19 = x3 + 1 → K28 (x2_17, x3_19, σ_14)))))))
theorem s_X12_wasIt_28 {B : Nat} {E : Nat → List (Nat × Value) → List Value → Sto → Prop} {P : Int32 → Sto → Prop} (C : Cy B E RX12 cX12_wasIt 4 (some .int) 5 110 (Zm (QFi P))) (x1 : Int32) (x2 : Int32) (x3 : Int32) (K28 : Int32 × Int32 × Sto → Prop) (hK28 : ∀ (x2 : Int32) (x3 : Int32) (σ : Sto), K28 (x2, x3, σ) → E 28 [(0, .ref (B + 101)), (1, .int x1), (2, .int x2), (3, .int x3)] [] σ) (σ : Sto) (h : w_X12_wasIt_28 K28 x1 x2 x3 σ P) : E 28 [(0, .ref (B + 101)), (1, .int x1), (2, .int x2), (3, .int x3)] [] σ := by
  unfold w_X12_wasIt_28 at h
  refine f_iload_n C (j := 3) dX12_wasIt_28 rfl rfl rfl ?_
  refine f_aload_n C (j := 0) dX12_wasIt_29 rfl rfl rfl ?_
  refine f_getc C tF_X12_35 rfl o101 cs101_20 (by decide) dX12_wasIt_30 rfl ?_
  refine f_iconst C (v := 0) dX12_wasIt_33 kc0 rfl ?_
  refine f_iald C (j := 0) a106 (vp_lit (by decide)) rfl dX12_wasIt_34 rfl ?_
  refine f_icmp_ge C (t := 74) dX12_wasIt_35 (by decide) rfl (fun hq_4 => ?_) (fun hq_4 => ?_)
  · replace h := Eq.mp (if_pos hq_4) h
    refine f_iload_n C (j := 2) dX12_wasIt_74 rfl rfl rfl ?_
    exact f_iret C dX12_wasIt_75 h
  · replace h := Eq.mp (if_neg hq_4) h
    refine f_iload_n C (j := 2) dX12_wasIt_38 rfl rfl rfl ?_
    refine f_aload_n C (j := 0) dX12_wasIt_39 rfl rfl rfl ?_
    refine f_callVi C (a := 101) (ci := 12) (As := fun B => []) o101 rfl (c_X12_now   _ _ h) tM_X12_330 tI_X12_now tS_X12_now tN_X12 tC_X12_now 0 dd_X12_now rfl (by decide) (by decide) rfl (Nat.le_of_ble_eq_true rfl) dX12_wasIt_40 rfl (fun r_6 σ_5 h => ?_)
    refine f_iload_n C (j := 3) dX12_wasIt_43 rfl rfl rfl ?_
    refine f_callSi C (As := fun B => [.int r_6, .int x3]) (c_X12_has  _ _ _ _ h) tM_X12_113 tT_X12_has tN_X12 tC_X12_has 2 dd_X12_has rfl (by decide) (by decide) rfl (Nat.le_of_ble_eq_true rfl) dX12_wasIt_44 rfl (fun r_8 σ_7 h => ?_)
    refine f_if_eq C (t := 65) dX12_wasIt_47 (by decide) rfl (fun hq_9 => ?_) (fun hq_9 => ?_)
    · replace h := Eq.mp (if_pos hq_9) h
      refine f_iconst C (v := 0) dX12_wasIt_65 kc0 rfl ?_
      refine f_ior C dX12_wasIt_66 rfl ?_
      refine f_name (fun x2_10 hx_11 => ?_)
      replace h := h x2_10 hx_11
      refine f_istore_n C (lv2 := [(2, .int x2_10), (0, .ref (B + 101)), (1, .int x1), (3, .int x3)]) dX12_wasIt_67 rfl (by decide) rfl rfl ?_
      obtain ⟨x3_12, hx_13⟩ : ∃ y : Int32, y = x3 + 1 := ⟨_, rfl⟩
      replace h := h x3_12 hx_13
      refine f_iinc C (j := 3) (v := x3_12) (lv2 := [(3, .int x3_12), (2, .int x2_10), (0, .ref (B + 101)), (1, .int x1)]) dX12_wasIt_68 rfl hx_13.symm (by decide) rfl rfl ?_
      refine f_goto C (t := 28) dX12_wasIt_71 (by decide) ?_
      refine f_lv C (lv2 := [(0, .ref (B + 101)), (1, .int x1), (2, .int x2_10), (3, .int x3_12)]) [2, 3, 1, 0] rfl ?_
      exact hK28 _ _ _ h
    · replace h := Eq.mp (if_neg hq_9) h
      refine f_aload_n C (j := 0) dX12_wasIt_50 rfl rfl rfl ?_
      refine f_iload_n C (j := 3) dX12_wasIt_51 rfl rfl rfl ?_
      refine f_callVi C (a := 101) (ci := 12) (As := fun B => [.int x3]) o101 rfl (c_X12_fallsWith  _ _ _ h) tM_X12_388 tI_X12_fallsWith tS_X12_fallsWith tN_X12 tC_X12_fallsWith 1 dd_X12_fallsWith rfl (by decide) (by decide) rfl (Nat.le_of_ble_eq_true rfl) dX12_wasIt_52 rfl (fun r_15 σ_14 h => ?_)
      refine f_iload_n C (j := 1) dX12_wasIt_55 rfl rfl rfl ?_
      refine f_icmp_ne C (t := 65) dX12_wasIt_56 (by decide) rfl (fun hq_16 => ?_) (fun hq_16 => ?_)
      · replace h := Eq.mp (if_neg hq_16) h
        refine f_iconst C (v := 0) dX12_wasIt_65 kc0 rfl ?_
        refine f_ior C dX12_wasIt_66 rfl ?_
        refine f_name (fun x2_17 hx_18 => ?_)
        replace h := h x2_17 hx_18
        refine f_istore_n C (lv2 := [(2, .int x2_17), (0, .ref (B + 101)), (1, .int x1), (3, .int x3)]) dX12_wasIt_67 rfl (by decide) rfl rfl ?_
        obtain ⟨x3_19, hx_20⟩ : ∃ y : Int32, y = x3 + 1 := ⟨_, rfl⟩
        replace h := h x3_19 hx_20
        refine f_iinc C (j := 3) (v := x3_19) (lv2 := [(3, .int x3_19), (2, .int x2_17), (0, .ref (B + 101)), (1, .int x1)]) dX12_wasIt_68 rfl hx_20.symm (by decide) rfl rfl ?_
        refine f_goto C (t := 28) dX12_wasIt_71 (by decide) ?_
        refine f_lv C (lv2 := [(0, .ref (B + 101)), (1, .int x1), (2, .int x2_17), (3, .int x3_19)]) [2, 3, 1, 0] rfl ?_
        exact hK28 _ _ _ h
      · replace h := Eq.mp (if_pos hq_16) h
        refine f_iconst C (v := 1) dX12_wasIt_59 kc1 rfl ?_
        refine f_iload_n C (j := 3) dX12_wasIt_60 rfl rfl rfl ?_
        refine f_ishl C dX12_wasIt_61 rfl ?_
        refine f_goto C (t := 66) dX12_wasIt_62 (by decide) ?_
        refine f_ior C dX12_wasIt_66 rfl ?_
        refine f_name (fun x2_21 hx_22 => ?_)
        replace h := h x2_21 hx_22
        refine f_istore_n C (lv2 := [(2, .int x2_21), (0, .ref (B + 101)), (1, .int x1), (3, .int x3)]) dX12_wasIt_67 rfl (by decide) rfl rfl ?_
        obtain ⟨x3_23, hx_24⟩ : ∃ y : Int32, y = x3 + 1 := ⟨_, rfl⟩
        replace h := h x3_23 hx_24
        refine f_iinc C (j := 3) (v := x3_23) (lv2 := [(3, .int x3_23), (2, .int x2_21), (0, .ref (B + 101)), (1, .int x1)]) dX12_wasIt_68 rfl hx_24.symm (by decide) rfl rfl ?_
        refine f_goto C (t := 28) dX12_wasIt_71 (by decide) ?_
        refine f_lv C (lv2 := [(0, .ref (B + 101)), (1, .int x1), (2, .int x2_21), (3, .int x3_23)]) [2, 3, 1, 0] rfl ?_
        exact hK28 _ _ _ h
def w_X12_wasIt (x1 : Int32) (σ : Sto) (P : Int32 → Sto → Prop) : Prop :=
  w_X12_isSet x1 (si (si σ 101 1 0) 101 0 0) (fun r_2 σ_1 => (if r_2 = 0 then w_X12_refuse 5 σ_1 (fun r_26 σ_25 => P r_26 σ_25) else Lp (fun (K : Int32 × Int32 × Sto → Prop) s => w_X12_wasIt_28 K x1 s.1 s.2.1 s.2.2 P) (0, 0, σ_1)))
theorem s_X12_wasIt {B : Nat} {E : Nat → List (Nat × Value) → List Value → Sto → Prop} {P : Int32 → Sto → Prop} (C : Cy B E RX12 cX12_wasIt 4 (some .int) 5 110 (Zm (QFi P))) (x1 : Int32) (σ : Sto) (h : w_X12_wasIt x1 σ P) : E 0 [(0, .ref (B + 101)), (1, .int x1)] [] σ := by
  unfold w_X12_wasIt at h
  refine f_aload_n C (j := 0) dX12_wasIt_0 rfl rfl rfl ?_
  refine f_iconst C (v := 0) dX12_wasIt_1 kc0 rfl ?_
  refine f_puti C tF_X12_74 fm_12_1 rfl o101 dX12_wasIt_2 rfl ?_
  refine f_aload_n C (j := 0) dX12_wasIt_5 rfl rfl rfl ?_
  refine f_iconst C (v := 0) dX12_wasIt_6 kc0 rfl ?_
  refine f_puti C tF_X12_77 fm_12_0 rfl o101 dX12_wasIt_7 rfl ?_
  refine f_aload_n C (j := 0) dX12_wasIt_10 rfl rfl rfl ?_
  refine f_iload_n C (j := 1) dX12_wasIt_11 rfl rfl rfl ?_
  refine f_callVi C (a := 101) (ci := 12) (As := fun B => [.int x1]) o101 rfl (c_X12_isSet  _ _ _ h) tM_X12_425 tI_X12_isSet tS_X12_isSet tN_X12 tC_X12_isSet 1 dd_X12_isSet rfl (by decide) (by decide) rfl (Nat.le_of_ble_eq_true rfl) dX12_wasIt_12 rfl (fun r_2 σ_1 h => ?_)
  refine f_if_ne C (t := 24) dX12_wasIt_15 (by decide) rfl (fun hq_3 => ?_) (fun hq_3 => ?_)
  · replace h := Eq.mp (if_neg hq_3) h
    refine f_iconst C (v := 0) dX12_wasIt_24 kc0 rfl ?_
    refine f_istore_n C (lv2 := [(2, .int 0), (0, .ref (B + 101)), (1, .int x1)]) dX12_wasIt_25 rfl (by decide) rfl rfl ?_
    refine f_iconst C (v := 0) dX12_wasIt_26 kc0 rfl ?_
    refine f_istore_n C (lv2 := [(3, .int 0), (2, .int 0), (0, .ref (B + 101)), (1, .int x1)]) dX12_wasIt_27 rfl (by decide) rfl rfl ?_
    refine f_lv C (lv2 := [(0, .ref (B + 101)), (1, .int x1), (2, .int 0), (3, .int 0)]) [2, 3, 1, 0] rfl ?_
    exact Lp_sound (fun s : Int32 × Int32 × Sto => E 28 [(0, .ref (B + 101)), (1, .int x1), (2, .int s.1), (3, .int s.2.1)] [] s.2.2) h (fun K s hK h => s_X12_wasIt_28 C x1 s.1 s.2.1 K (fun x2 x3 σ hk => hK (x2, x3, σ) hk) s.2.2 h)
  · replace h := Eq.mp (if_pos hq_3) h
    refine f_aload_n C (j := 0) dX12_wasIt_18 rfl rfl rfl ?_
    refine f_iconst C (v := 5) dX12_wasIt_19 kc5 rfl ?_
    refine f_callVi C (a := 101) (ci := 12) (As := fun B => [.int 5]) o101 rfl (c_X12_refuse  _ _ _ h) tM_X12_327 tI_X12_refuse tS_X12_refuse tN_X12 tC_X12_refuse 1 dd_X12_refuse rfl (by decide) (by decide) rfl (Nat.le_of_ble_eq_true rfl) dX12_wasIt_20 rfl (fun r_26 σ_25 h => ?_)
    exact f_iret C dX12_wasIt_23 h
theorem c_X12_wasIt (x1 : Int32) (σ : Sto) (P : Int32 → Sto → Prop) (h : w_X12_wasIt x1 σ P) : Ct yX12_wasIt cX12_wasIt 4 (some .int) 5 110 (fun B => [.ref (B + 101), .int x1]) σ (QFi P) := Ct.of (by decide) (fun _ => Nat.le_of_ble_eq_true rfl) (fun B E C => s_X12_wasIt C x1 σ h)
def w_X12_laysFalls_57 (K27 : Int32 × Sto → Prop) (K57 : Int32 × Sto → Prop) (x1 : Int32) (x2 : Int32) (x3 : Int32) (x4 : Int32) (σ : Sto) (P : Sto → Prop) : Prop :=
  (if (gi σ 106 0) ≤ x4 then ∀ x2_9 : Int32, x2_9 = x2 + 1 → K27 (x2_9, σ) else vp_in x4 12 ∧ w_X12_has x3 x4 σ (fun r_13 σ_12 => (if r_13 = 0 then ∀ x4_15 : Int32, x4_15 = x4 + 1 → K57 (x4_15, si σ_12 114 (tn x4) ((gi σ 114 (tn x4)) ||| 0)) else ∀ x4_17 : Int32, x4_17 = x4 + 1 → K57 (x4_17, si σ_12 114 (tn x4) ((gi σ 114 (tn x4)) ||| (1 <<< (x2 &&& 31)))))))
theorem s_X12_laysFalls_57 {B : Nat} {E : Nat → List (Nat × Value) → List Value → Sto → Prop} {P : Sto → Prop} (C : Cy B E RX12 cX12_laysFalls 5 none 5 110 (Zm (QFv P))) (x1 : Int32) (x2 : Int32) (x3 : Int32) (x4 : Int32) (K27 : Int32 × Sto → Prop) (K57 : Int32 × Sto → Prop) (hK27 : ∀ (x2 : Int32) (σ : Sto), K27 (x2, σ) → E 27 [(0, .ref (B + 101)), (1, .int x1), (2, .int x2)] [] σ) (hK57 : ∀ (x4 : Int32) (σ : Sto), K57 (x4, σ) → E 57 [(0, .ref (B + 101)), (1, .int x1), (2, .int x2), (3, .int x3), (4, .int x4)] [] σ) (σ : Sto) (h : w_X12_laysFalls_57 K27 K57 x1 x2 x3 x4 σ P) : E 57 [(0, .ref (B + 101)), (1, .int x1), (2, .int x2), (3, .int x3), (4, .int x4)] [] σ := by
  unfold w_X12_laysFalls_57 at h
  refine f_iload C (j := 4) dX12_laysFalls_57 rfl rfl ?_
  refine f_aload_n C (j := 0) dX12_laysFalls_59 rfl rfl rfl ?_
  refine f_getc C tF_X12_35 rfl o101 cs101_20 (by decide) dX12_laysFalls_60 rfl ?_
  refine f_iconst C (v := 0) dX12_laysFalls_63 kc0 rfl ?_
  refine f_iald C (j := 0) a106 (vp_lit (by decide)) rfl dX12_laysFalls_64 rfl ?_
  refine f_icmp_ge C (t := 100) dX12_laysFalls_65 (by decide) rfl (fun hq_8 => ?_) (fun hq_8 => ?_)
  · replace h := Eq.mp (if_pos hq_8) h
    obtain ⟨x2_9, hx_10⟩ : ∃ y : Int32, y = x2 + 1 := ⟨_, rfl⟩
    replace h := h x2_9 hx_10
    refine f_iinc C (j := 2) (v := x2_9) (lv2 := [(2, .int x2_9), (0, .ref (B + 101)), (1, .int x1), (3, .int x3), (4, .int x4)]) dX12_laysFalls_100 rfl hx_10.symm (by decide) rfl rfl ?_
    refine f_goto C (t := 27) dX12_laysFalls_103 (by decide) ?_
    refine f_lv C (lv2 := [(0, .ref (B + 101)), (1, .int x1), (2, .int x2_9)]) [1, 2, 0] rfl ?_
    exact hK27 _ _ h
  · replace h := Eq.mp (if_neg hq_8) h
    refine f_aload_n C (j := 0) dX12_laysFalls_68 rfl rfl rfl ?_
    refine f_getc C tF_X12_59 rfl o101 cs101_34 (by decide) dX12_laysFalls_69 rfl ?_
    refine f_iload C (j := 4) dX12_laysFalls_72 rfl rfl ?_
    refine f_dup2 C dX12_laysFalls_74 rfl rfl rfl ?_
    obtain ⟨hi_11, h⟩ := h
    refine f_iald C (j := tn x4) a114 hi_11 rfl dX12_laysFalls_75 rfl ?_
    refine f_iload_n C (j := 3) dX12_laysFalls_76 rfl rfl rfl ?_
    refine f_iload C (j := 4) dX12_laysFalls_77 rfl rfl ?_
    refine f_callSi C (As := fun B => [.int x3, .int x4]) (c_X12_has  _ _ _ _ h) tM_X12_113 tT_X12_has tN_X12 tC_X12_has 2 dd_X12_has rfl (by decide) (by decide) rfl (Nat.le_of_ble_eq_true rfl) dX12_laysFalls_79 rfl (fun r_13 σ_12 h => ?_)
    refine f_if_eq C (t := 91) dX12_laysFalls_82 (by decide) rfl (fun hq_14 => ?_) (fun hq_14 => ?_)
    · replace h := Eq.mp (if_pos hq_14) h
      refine f_iconst C (v := 0) dX12_laysFalls_91 kc0 rfl ?_
      refine f_ior C dX12_laysFalls_92 rfl ?_
      refine f_iast C (j := tn x4) a114 hi_11 rfl dX12_laysFalls_93 rfl ?_
      obtain ⟨x4_15, hx_16⟩ : ∃ y : Int32, y = x4 + 1 := ⟨_, rfl⟩
      replace h := h x4_15 hx_16
      refine f_iinc C (j := 4) (v := x4_15) (lv2 := [(4, .int x4_15), (0, .ref (B + 101)), (1, .int x1), (2, .int x2), (3, .int x3)]) dX12_laysFalls_94 rfl hx_16.symm (by decide) rfl rfl ?_
      refine f_goto C (t := 57) dX12_laysFalls_97 (by decide) ?_
      refine f_lv C (lv2 := [(0, .ref (B + 101)), (1, .int x1), (2, .int x2), (3, .int x3), (4, .int x4_15)]) [1, 2, 3, 4, 0] rfl ?_
      exact hK57 _ _ h
    · replace h := Eq.mp (if_neg hq_14) h
      refine f_iconst C (v := 1) dX12_laysFalls_85 kc1 rfl ?_
      refine f_iload_n C (j := 2) dX12_laysFalls_86 rfl rfl rfl ?_
      refine f_ishl C dX12_laysFalls_87 rfl ?_
      refine f_goto C (t := 92) dX12_laysFalls_88 (by decide) ?_
      refine f_ior C dX12_laysFalls_92 rfl ?_
      refine f_iast C (j := tn x4) a114 hi_11 rfl dX12_laysFalls_93 rfl ?_
      obtain ⟨x4_17, hx_18⟩ : ∃ y : Int32, y = x4 + 1 := ⟨_, rfl⟩
      replace h := h x4_17 hx_18
      refine f_iinc C (j := 4) (v := x4_17) (lv2 := [(4, .int x4_17), (0, .ref (B + 101)), (1, .int x1), (2, .int x2), (3, .int x3)]) dX12_laysFalls_94 rfl hx_18.symm (by decide) rfl rfl ?_
      refine f_goto C (t := 57) dX12_laysFalls_97 (by decide) ?_
      refine f_lv C (lv2 := [(0, .ref (B + 101)), (1, .int x1), (2, .int x2), (3, .int x3), (4, .int x4_17)]) [1, 2, 3, 4, 0] rfl ?_
      exact hK57 _ _ h
def w_X12_laysFalls_27 (K27 : Int32 × Sto → Prop) (x1 : Int32) (x2 : Int32) (σ : Sto) (P : Sto → Prop) : Prop :=
  (if (gi σ 106 0) ≤ x2 then P σ else w_X12_has x1 x2 σ (fun r_4 σ_3 => (if r_4 = 0 then ∀ x2_19 : Int32, x2_19 = x2 + 1 → K27 (x2_19, σ_3) else w_X12_fallsWith x2 σ_3 (fun r_7 σ_6 => Lp (fun (K : Int32 × Sto → Prop) s => w_X12_laysFalls_57 K27 K x1 x2 r_7 s.1 s.2 P) (0, σ_6)))))
theorem s_X12_laysFalls_27 {B : Nat} {E : Nat → List (Nat × Value) → List Value → Sto → Prop} {P : Sto → Prop} (C : Cy B E RX12 cX12_laysFalls 5 none 5 110 (Zm (QFv P))) (x1 : Int32) (x2 : Int32) (K27 : Int32 × Sto → Prop) (hK27 : ∀ (x2 : Int32) (σ : Sto), K27 (x2, σ) → E 27 [(0, .ref (B + 101)), (1, .int x1), (2, .int x2)] [] σ) (σ : Sto) (h : w_X12_laysFalls_27 K27 x1 x2 σ P) : E 27 [(0, .ref (B + 101)), (1, .int x1), (2, .int x2)] [] σ := by
  unfold w_X12_laysFalls_27 at h
  refine f_iload_n C (j := 2) dX12_laysFalls_27 rfl rfl rfl ?_
  refine f_aload_n C (j := 0) dX12_laysFalls_28 rfl rfl rfl ?_
  refine f_getc C tF_X12_35 rfl o101 cs101_20 (by decide) dX12_laysFalls_29 rfl ?_
  refine f_iconst C (v := 0) dX12_laysFalls_32 kc0 rfl ?_
  refine f_iald C (j := 0) a106 (vp_lit (by decide)) rfl dX12_laysFalls_33 rfl ?_
  refine f_icmp_ge C (t := 106) dX12_laysFalls_34 (by decide) rfl (fun hq_2 => ?_) (fun hq_2 => ?_)
  · replace h := Eq.mp (if_pos hq_2) h
    exact f_vret C dX12_laysFalls_106 h
  · replace h := Eq.mp (if_neg hq_2) h
    refine f_iload_n C (j := 1) dX12_laysFalls_37 rfl rfl rfl ?_
    refine f_iload_n C (j := 2) dX12_laysFalls_38 rfl rfl rfl ?_
    refine f_callSi C (As := fun B => [.int x1, .int x2]) (c_X12_has  _ _ _ _ h) tM_X12_113 tT_X12_has tN_X12 tC_X12_has 2 dd_X12_has rfl (by decide) (by decide) rfl (Nat.le_of_ble_eq_true rfl) dX12_laysFalls_39 rfl (fun r_4 σ_3 h => ?_)
    refine f_if_ne C (t := 48) dX12_laysFalls_42 (by decide) rfl (fun hq_5 => ?_) (fun hq_5 => ?_)
    · replace h := Eq.mp (if_neg hq_5) h
      refine f_aload_n C (j := 0) dX12_laysFalls_48 rfl rfl rfl ?_
      refine f_iload_n C (j := 2) dX12_laysFalls_49 rfl rfl rfl ?_
      refine f_callVi C (a := 101) (ci := 12) (As := fun B => [.int x2]) o101 rfl (c_X12_fallsWith  _ _ _ h) tM_X12_388 tI_X12_fallsWith tS_X12_fallsWith tN_X12 tC_X12_fallsWith 1 dd_X12_fallsWith rfl (by decide) (by decide) rfl (Nat.le_of_ble_eq_true rfl) dX12_laysFalls_50 rfl (fun r_7 σ_6 h => ?_)
      refine f_istore_n C (lv2 := [(3, .int r_7), (0, .ref (B + 101)), (1, .int x1), (2, .int x2)]) dX12_laysFalls_53 rfl (by decide) rfl rfl ?_
      refine f_iconst C (v := 0) dX12_laysFalls_54 kc0 rfl ?_
      refine f_istore C (lv2 := [(4, .int 0), (3, .int r_7), (0, .ref (B + 101)), (1, .int x1), (2, .int x2)]) dX12_laysFalls_55 (by decide) rfl rfl ?_
      refine f_lv C (lv2 := [(0, .ref (B + 101)), (1, .int x1), (2, .int x2), (3, .int r_7), (4, .int 0)]) [2, 3, 4, 1, 0] rfl ?_
      exact Lp_sound (fun s : Int32 × Sto => E 57 [(0, .ref (B + 101)), (1, .int x1), (2, .int x2), (3, .int r_7), (4, .int s.1)] [] s.2) h (fun K s hK h => s_X12_laysFalls_57 C x1 x2 r_7 s.1 K27 K hK27 (fun x4 σ hk => hK (x4, σ) hk) s.2 h)
    · replace h := Eq.mp (if_pos hq_5) h
      refine f_goto C (t := 100) dX12_laysFalls_45 (by decide) ?_
      obtain ⟨x2_19, hx_20⟩ : ∃ y : Int32, y = x2 + 1 := ⟨_, rfl⟩
      replace h := h x2_19 hx_20
      refine f_iinc C (j := 2) (v := x2_19) (lv2 := [(2, .int x2_19), (0, .ref (B + 101)), (1, .int x1)]) dX12_laysFalls_100 rfl hx_20.symm (by decide) rfl rfl ?_
      refine f_goto C (t := 27) dX12_laysFalls_103 (by decide) ?_
      refine f_lv C (lv2 := [(0, .ref (B + 101)), (1, .int x1), (2, .int x2_19)]) [1, 2, 0] rfl ?_
      exact hK27 _ _ h
def w_X12_laysFalls_2 (K2 : Int32 × Sto → Prop) (x1 : Int32) (x2 : Int32) (σ : Sto) (P : Sto → Prop) : Prop :=
  (if (gi σ 106 0) ≤ x2 then Lp (fun (K : Int32 × Sto → Prop) s => w_X12_laysFalls_27 K x1 s.1 s.2 P) (0, σ) else vp_in x2 12 ∧ ∀ x2_22 : Int32, x2_22 = x2 + 1 → K2 (x2_22, si σ 114 (tn x2) 0))
theorem s_X12_laysFalls_2 {B : Nat} {E : Nat → List (Nat × Value) → List Value → Sto → Prop} {P : Sto → Prop} (C : Cy B E RX12 cX12_laysFalls 5 none 5 110 (Zm (QFv P))) (x1 : Int32) (x2 : Int32) (K2 : Int32 × Sto → Prop) (hK2 : ∀ (x2 : Int32) (σ : Sto), K2 (x2, σ) → E 2 [(0, .ref (B + 101)), (1, .int x1), (2, .int x2)] [] σ) (σ : Sto) (h : w_X12_laysFalls_2 K2 x1 x2 σ P) : E 2 [(0, .ref (B + 101)), (1, .int x1), (2, .int x2)] [] σ := by
  unfold w_X12_laysFalls_2 at h
  refine f_iload_n C (j := 2) dX12_laysFalls_2 rfl rfl rfl ?_
  refine f_aload_n C (j := 0) dX12_laysFalls_3 rfl rfl rfl ?_
  refine f_getc C tF_X12_35 rfl o101 cs101_20 (by decide) dX12_laysFalls_4 rfl ?_
  refine f_iconst C (v := 0) dX12_laysFalls_7 kc0 rfl ?_
  refine f_iald C (j := 0) a106 (vp_lit (by decide)) rfl dX12_laysFalls_8 rfl ?_
  refine f_icmp_ge C (t := 25) dX12_laysFalls_9 (by decide) rfl (fun hq_1 => ?_) (fun hq_1 => ?_)
  · replace h := Eq.mp (if_pos hq_1) h
    refine f_iconst C (v := 0) dX12_laysFalls_25 kc0 rfl ?_
    refine f_istore_n C (lv2 := [(2, .int 0), (0, .ref (B + 101)), (1, .int x1)]) dX12_laysFalls_26 rfl (by decide) rfl rfl ?_
    refine f_lv C (lv2 := [(0, .ref (B + 101)), (1, .int x1), (2, .int 0)]) [1, 2, 0] rfl ?_
    exact Lp_sound (fun s : Int32 × Sto => E 27 [(0, .ref (B + 101)), (1, .int x1), (2, .int s.1)] [] s.2) h (fun K s hK h => s_X12_laysFalls_27 C x1 s.1 K (fun x2 σ hk => hK (x2, σ) hk) s.2 h)
  · replace h := Eq.mp (if_neg hq_1) h
    refine f_aload_n C (j := 0) dX12_laysFalls_12 rfl rfl rfl ?_
    refine f_getc C tF_X12_59 rfl o101 cs101_34 (by decide) dX12_laysFalls_13 rfl ?_
    refine f_iload_n C (j := 2) dX12_laysFalls_16 rfl rfl rfl ?_
    refine f_iconst C (v := 0) dX12_laysFalls_17 kc0 rfl ?_
    obtain ⟨hi_21, h⟩ := h
    refine f_iast C (j := tn x2) a114 hi_21 rfl dX12_laysFalls_18 rfl ?_
    obtain ⟨x2_22, hx_23⟩ : ∃ y : Int32, y = x2 + 1 := ⟨_, rfl⟩
    replace h := h x2_22 hx_23
    refine f_iinc C (j := 2) (v := x2_22) (lv2 := [(2, .int x2_22), (0, .ref (B + 101)), (1, .int x1)]) dX12_laysFalls_19 rfl hx_23.symm (by decide) rfl rfl ?_
    refine f_goto C (t := 2) dX12_laysFalls_22 (by decide) ?_
    refine f_lv C (lv2 := [(0, .ref (B + 101)), (1, .int x1), (2, .int x2_22)]) [1, 2, 0] rfl ?_
    exact hK2 _ _ h
def w_X12_laysFalls (x1 : Int32) (σ : Sto) (P : Sto → Prop) : Prop :=
  Lp (fun (K : Int32 × Sto → Prop) s => w_X12_laysFalls_2 K x1 s.1 s.2 P) (0, σ)
theorem s_X12_laysFalls {B : Nat} {E : Nat → List (Nat × Value) → List Value → Sto → Prop} {P : Sto → Prop} (C : Cy B E RX12 cX12_laysFalls 5 none 5 110 (Zm (QFv P))) (x1 : Int32) (σ : Sto) (h : w_X12_laysFalls x1 σ P) : E 0 [(0, .ref (B + 101)), (1, .int x1)] [] σ := by
  unfold w_X12_laysFalls at h
  refine f_iconst C (v := 0) dX12_laysFalls_0 kc0 rfl ?_
  refine f_istore_n C (lv2 := [(2, .int 0), (0, .ref (B + 101)), (1, .int x1)]) dX12_laysFalls_1 rfl (by decide) rfl rfl ?_
  refine f_lv C (lv2 := [(0, .ref (B + 101)), (1, .int x1), (2, .int 0)]) [1, 2, 0] rfl ?_
  exact Lp_sound (fun s : Int32 × Sto => E 2 [(0, .ref (B + 101)), (1, .int x1), (2, .int s.1)] [] s.2) h (fun K s hK h => s_X12_laysFalls_2 C x1 s.1 K (fun x2 σ hk => hK (x2, σ) hk) s.2 h)
theorem c_X12_laysFalls (x1 : Int32) (σ : Sto) (P : Sto → Prop) (h : w_X12_laysFalls x1 σ P) : Ct yX12_laysFalls cX12_laysFalls 5 none 5 110 (fun B => [.ref (B + 101), .int x1]) σ (QFv P) := Ct.of (by decide) (fun _ => Nat.le_of_ble_eq_true rfl) (fun B E C => s_X12_laysFalls C x1 σ h)
def w_X12_tells_37 (σ : Sto) (P : Int32 → Sto → Prop) : Prop :=
  w_X12_refuse 5 σ (fun r_5 σ_4 => P r_5 σ_4)
theorem s_X12_tells_37 {B : Nat} {E : Nat → List (Nat × Value) → List Value → Sto → Prop} {P : Int32 → Sto → Prop} (C : Cy B E RX12 cX12_tells 6 (some .int) 6 134 (Zm (QFi P))) (σ : Sto) (h : w_X12_tells_37 σ P) : E 37 [(0, .ref (B + 101))] [] σ := by
  unfold w_X12_tells_37 at h
  refine f_aload_n C (j := 0) dX12_tells_37 rfl rfl rfl ?_
  refine f_iconst C (v := 5) dX12_tells_38 kc5 rfl ?_
  refine f_callVi C (a := 101) (ci := 12) (As := fun B => [.int 5]) o101 rfl (c_X12_refuse  _ _ _ h) tM_X12_327 tI_X12_refuse tS_X12_refuse tN_X12 tC_X12_refuse 1 dd_X12_refuse rfl (by decide) (by decide) rfl (Nat.le_of_ble_eq_true rfl) dX12_tells_39 rfl (fun r_5 σ_4 h => ?_)
  exact f_iret C dX12_tells_42 h
def w_X12_tells_58 (K58 : Int32 × Int32 × Int32 × Sto → Prop) (x1 : Int32) (x2 : Int32) (x3 : Int32) (x4 : Int32) (σ : Sto) (P : Int32 → Sto → Prop) : Prop :=
  (if (gi σ 106 0) ≤ x4 then (if 0 ≤ x2 then P x2 σ else w_X12_refuse 8 σ (fun r_19 σ_18 => P r_19 σ_18)) else vp_in x4 12 ∧ w_X12_sizeOf (x1 &&& (gi σ 114 (tn x4))) σ (fun r_22 σ_21 => w_X12_sizeOf (x1 &&& (~~~(gi σ_21 114 (tn x4)))) σ_21 (fun r_24 σ_23 => ∀ x5_25 : Int32, x5_25 = (if r_22 < r_24 then r_24 else r_22) → w_X12_now σ_23 (fun r_28 σ_27 => w_X12_has r_28 x4 σ_27 (fun r_30 σ_29 => (if r_30 = 0 then ∀ x4_32 : Int32, x4_32 = x4 + 1 → K58 (x2, x3, x4_32, σ_29) else (if x5_25 < x3 then ∀ x4_35 : Int32, x4_35 = x4 + 1 → K58 (x4, x5_25, x4_35, σ_29) else ∀ x4_37 : Int32, x4_37 = x4 + 1 → K58 (x2, x3, x4_37, σ_29))))))))
theorem s_X12_tells_58 {B : Nat} {E : Nat → List (Nat × Value) → List Value → Sto → Prop} {P : Int32 → Sto → Prop} (C : Cy B E RX12 cX12_tells 6 (some .int) 6 134 (Zm (QFi P))) (x1 : Int32) (x2 : Int32) (x3 : Int32) (x4 : Int32) (K58 : Int32 × Int32 × Int32 × Sto → Prop) (hK58 : ∀ (x2 : Int32) (x3 : Int32) (x4 : Int32) (σ : Sto), K58 (x2, x3, x4, σ) → E 58 [(0, .ref (B + 101)), (1, .int x1), (2, .int x2), (3, .int x3), (4, .int x4)] [] σ) (σ : Sto) (h : w_X12_tells_58 K58 x1 x2 x3 x4 σ P) : E 58 [(0, .ref (B + 101)), (1, .int x1), (2, .int x2), (3, .int x3), (4, .int x4)] [] σ := by
  unfold w_X12_tells_58 at h
  refine f_iload C (j := 4) dX12_tells_58 rfl rfl ?_
  refine f_aload_n C (j := 0) dX12_tells_60 rfl rfl rfl ?_
  refine f_getc C tF_X12_35 rfl o101 cs101_20 (by decide) dX12_tells_61 rfl ?_
  refine f_iconst C (v := 0) dX12_tells_64 kc0 rfl ?_
  refine f_iald C (j := 0) a106 (vp_lit (by decide)) rfl dX12_tells_65 rfl ?_
  refine f_icmp_ge C (t := 133) dX12_tells_66 (by decide) rfl (fun hq_16 => ?_) (fun hq_16 => ?_)
  · replace h := Eq.mp (if_pos hq_16) h
    refine f_iload_n C (j := 2) dX12_tells_133 rfl rfl rfl ?_
    refine f_if_ge C (t := 146) dX12_tells_134 (by decide) rfl (fun hq_17 => ?_) (fun hq_17 => ?_)
    · replace h := Eq.mp (if_pos hq_17) h
      refine f_iload_n C (j := 2) dX12_tells_146 rfl rfl rfl ?_
      exact f_iret C dX12_tells_147 h
    · replace h := Eq.mp (if_neg hq_17) h
      refine f_aload_n C (j := 0) dX12_tells_137 rfl rfl rfl ?_
      refine f_bipush C (v := 8) dX12_tells_138 kb8 rfl ?_
      refine f_callVi C (a := 101) (ci := 12) (As := fun B => [.int 8]) o101 rfl (c_X12_refuse  _ _ _ h) tM_X12_327 tI_X12_refuse tS_X12_refuse tN_X12 tC_X12_refuse 1 dd_X12_refuse rfl (by decide) (by decide) rfl (Nat.le_of_ble_eq_true rfl) dX12_tells_140 rfl (fun r_19 σ_18 h => ?_)
      refine f_goto C (t := 147) dX12_tells_143 (by decide) ?_
      exact f_iret C dX12_tells_147 h
  · replace h := Eq.mp (if_neg hq_16) h
    refine f_iload_n C (j := 1) dX12_tells_69 rfl rfl rfl ?_
    refine f_aload_n C (j := 0) dX12_tells_70 rfl rfl rfl ?_
    refine f_getc C tF_X12_59 rfl o101 cs101_34 (by decide) dX12_tells_71 rfl ?_
    refine f_iload C (j := 4) dX12_tells_74 rfl rfl ?_
    obtain ⟨hi_20, h⟩ := h
    refine f_iald C (j := tn x4) a114 hi_20 rfl dX12_tells_76 rfl ?_
    refine f_iand C dX12_tells_77 rfl ?_
    refine f_callSi C (As := fun B => [.int (x1 &&& (gi σ 114 (tn x4)))]) (c_X12_sizeOf  _ _ _ h) tM_X12_397 tT_X12_sizeOf tN_X12 tC_X12_sizeOf 1 dd_X12_sizeOf rfl (by decide) (by decide) rfl (Nat.le_of_ble_eq_true rfl) dX12_tells_78 rfl (fun r_22 σ_21 h => ?_)
    refine f_iload_n C (j := 1) dX12_tells_81 rfl rfl rfl ?_
    refine f_aload_n C (j := 0) dX12_tells_82 rfl rfl rfl ?_
    refine f_getc C tF_X12_59 rfl o101 cs101_34 (by decide) dX12_tells_83 rfl ?_
    refine f_iload C (j := 4) dX12_tells_86 rfl rfl ?_
    refine f_iald C (j := tn x4) a114 hi_20 rfl dX12_tells_88 rfl ?_
    refine f_iconst C (v := (-1)) dX12_tells_89 kcm1 rfl ?_
    refine f_inot C dX12_tells_90 rfl ?_
    refine f_iand C dX12_tells_91 rfl ?_
    refine f_callSi C (As := fun B => [.int (x1 &&& (~~~(gi σ_21 114 (tn x4))))]) (c_X12_sizeOf  _ _ _ h) tM_X12_397 tT_X12_sizeOf tN_X12 tC_X12_sizeOf 1 dd_X12_sizeOf rfl (by decide) (by decide) rfl (Nat.le_of_ble_eq_true rfl) dX12_tells_92 rfl (fun r_24 σ_23 h => ?_)
    refine f_mmax C tM_X12_248 tT_J9_max_7cf53 tN_J9 tC_J9_max_7cf53 (by decide) (by decide) (Nat.le_of_ble_eq_true rfl) dX12_tells_95 rfl ?_
    refine f_name (fun x5_25 hx_26 => ?_)
    replace h := h x5_25 hx_26
    refine f_istore C (lv2 := [(5, .int x5_25), (0, .ref (B + 101)), (1, .int x1), (2, .int x2), (3, .int x3), (4, .int x4)]) dX12_tells_98 (by decide) rfl rfl ?_
    refine f_aload_n C (j := 1) dX12_tells_100 rfl rfl rfl ?_
    refine f_callVi C (a := 101) (ci := 12) (As := fun B => []) o101 rfl (c_X12_now   _ _ h) tM_X12_330 tI_X12_now tS_X12_now tN_X12 tC_X12_now 0 dd_X12_now rfl (by decide) (by decide) rfl (Nat.le_of_ble_eq_true rfl) dX12_tells_101 rfl (fun r_28 σ_27 h => ?_)
    refine f_iload C (j := 5) dX12_tells_104 rfl rfl ?_
    refine f_callSi C (As := fun B => [.int r_28, .int x4]) (c_X12_has  _ _ _ _ h) tM_X12_113 tT_X12_has tN_X12 tC_X12_has 2 dd_X12_has rfl (by decide) (by decide) rfl (Nat.le_of_ble_eq_true rfl) dX12_tells_106 rfl (fun r_30 σ_29 h => ?_)
    refine f_if_eq C (t := 127) dX12_tells_109 (by decide) rfl (fun hq_31 => ?_) (fun hq_31 => ?_)
    · replace h := Eq.mp (if_pos hq_31) h
      obtain ⟨x4_32, hx_33⟩ : ∃ y : Int32, y = x4 + 1 := ⟨_, rfl⟩
      replace h := h x4_32 hx_33
      refine f_iinc C (j := 5) (v := x4_32) (lv2 := [(4, .int x4_32), (5, .int x5_25), (0, .ref (B + 101)), (1, .int x1), (2, .int x2), (3, .int x3)]) dX12_tells_127 rfl hx_33.symm (by decide) rfl rfl ?_
      refine f_goto C (t := 58) dX12_tells_130 (by decide) ?_
      refine f_lv C (lv2 := [(0, .ref (B + 101)), (1, .int x1), (2, .int x2), (3, .int x3), (4, .int x4_32)]) [2, 3, 4, 5, 0] rfl ?_
      exact hK58 _ _ _ _ h
    · replace h := Eq.mp (if_neg hq_31) h
      refine f_iload C (j := 0) dX12_tells_112 rfl rfl ?_
      refine f_iload_n C (j := 4) dX12_tells_114 rfl rfl rfl ?_
      refine f_icmp_lt C (t := 121) dX12_tells_115 (by decide) rfl (fun hq_34 => ?_) (fun hq_34 => ?_)
      · replace h := Eq.mp (if_pos hq_34) h
        refine f_iload C (j := 5) dX12_tells_121 rfl rfl ?_
        refine f_istore_n C (lv2 := [(2, .int x4), (5, .int x5_25), (0, .ref (B + 101)), (1, .int x1), (3, .int x3), (4, .int x4)]) dX12_tells_123 rfl (by decide) rfl rfl ?_
        refine f_iload C (j := 1) dX12_tells_124 rfl rfl ?_
        refine f_istore_n C (lv2 := [(3, .int x5_25), (2, .int x4), (5, .int x5_25), (0, .ref (B + 101)), (1, .int x1), (4, .int x4)]) dX12_tells_126 rfl (by decide) rfl rfl ?_
        obtain ⟨x4_35, hx_36⟩ : ∃ y : Int32, y = x4 + 1 := ⟨_, rfl⟩
        replace h := h x4_35 hx_36
        refine f_iinc C (j := 5) (v := x4_35) (lv2 := [(4, .int x4_35), (3, .int x5_25), (2, .int x4), (5, .int x5_25), (0, .ref (B + 101)), (1, .int x1)]) dX12_tells_127 rfl hx_36.symm (by decide) rfl rfl ?_
        refine f_goto C (t := 58) dX12_tells_130 (by decide) ?_
        refine f_lv C (lv2 := [(0, .ref (B + 101)), (1, .int x1), (2, .int x4), (3, .int x5_25), (4, .int x4_35)]) [4, 5, 2, 1, 0] rfl ?_
        exact hK58 _ _ _ _ h
      · replace h := Eq.mp (if_neg hq_34) h
        refine f_goto C (t := 127) dX12_tells_118 (by decide) ?_
        obtain ⟨x4_37, hx_38⟩ : ∃ y : Int32, y = x4 + 1 := ⟨_, rfl⟩
        replace h := h x4_37 hx_38
        refine f_iinc C (j := 5) (v := x4_37) (lv2 := [(4, .int x4_37), (5, .int x5_25), (0, .ref (B + 101)), (1, .int x1), (2, .int x2), (3, .int x3)]) dX12_tells_127 rfl hx_38.symm (by decide) rfl rfl ?_
        refine f_goto C (t := 58) dX12_tells_130 (by decide) ?_
        refine f_lv C (lv2 := [(0, .ref (B + 101)), (1, .int x1), (2, .int x2), (3, .int x3), (4, .int x4_37)]) [2, 3, 4, 5, 0] rfl ?_
        exact hK58 _ _ _ _ h
def w_X12_tells (x1 : Int32) (σ : Sto) (P : Int32 → Sto → Prop) : Prop :=
  w_X12_isSet x1 (si (si σ 101 1 0) 101 0 0) (fun r_2 σ_1 => (if r_2 = 0 then w_X12_tells_37 σ_1 P else w_X12_sizeOf x1 σ_1 (fun r_7 σ_6 => (if r_7 < 2 then w_X12_tells_37 σ_6 P else w_X12_now σ_6 (fun r_10 σ_9 => (if (x1 &&& (~~~r_10)) = 0 then w_X12_laysFalls x1 σ_9 (fun σ_12 => w_X12_sizeOf x1 σ_12 (fun r_15 σ_14 => Lp (fun (K : Int32 × Int32 × Int32 × Sto → Prop) s => w_X12_tells_58 K x1 s.1 s.2.1 s.2.2.1 s.2.2.2 P) ((-1), r_15, 0, σ_14))) else w_X12_tells_37 σ_9 P))))))
theorem s_X12_tells {B : Nat} {E : Nat → List (Nat × Value) → List Value → Sto → Prop} {P : Int32 → Sto → Prop} (C : Cy B E RX12 cX12_tells 6 (some .int) 6 134 (Zm (QFi P))) (x1 : Int32) (σ : Sto) (h : w_X12_tells x1 σ P) : E 0 [(0, .ref (B + 101)), (1, .int x1)] [] σ := by
  unfold w_X12_tells at h
  refine f_aload_n C (j := 0) dX12_tells_0 rfl rfl rfl ?_
  refine f_iconst C (v := 0) dX12_tells_1 kc0 rfl ?_
  refine f_puti C tF_X12_74 fm_12_1 rfl o101 dX12_tells_2 rfl ?_
  refine f_aload_n C (j := 0) dX12_tells_5 rfl rfl rfl ?_
  refine f_iconst C (v := 0) dX12_tells_6 kc0 rfl ?_
  refine f_puti C tF_X12_77 fm_12_0 rfl o101 dX12_tells_7 rfl ?_
  refine f_aload_n C (j := 0) dX12_tells_10 rfl rfl rfl ?_
  refine f_iload_n C (j := 1) dX12_tells_11 rfl rfl rfl ?_
  refine f_callVi C (a := 101) (ci := 12) (As := fun B => [.int x1]) o101 rfl (c_X12_isSet  _ _ _ h) tM_X12_425 tI_X12_isSet tS_X12_isSet tN_X12 tC_X12_isSet 1 dd_X12_isSet rfl (by decide) (by decide) rfl (Nat.le_of_ble_eq_true rfl) dX12_tells_12 rfl (fun r_2 σ_1 h => ?_)
  refine f_if_eq C (t := 37) dX12_tells_15 (by decide) rfl (fun hq_3 => ?_) (fun hq_3 => ?_)
  · replace h := Eq.mp (if_pos hq_3) h
    refine f_lv C (lv2 := [(0, .ref (B + 101))]) [0] rfl ?_
    exact s_X12_tells_37 C  _ h
  · replace h := Eq.mp (if_neg hq_3) h
    refine f_iload_n C (j := 1) dX12_tells_18 rfl rfl rfl ?_
    refine f_callSi C (As := fun B => [.int x1]) (c_X12_sizeOf  _ _ _ h) tM_X12_397 tT_X12_sizeOf tN_X12 tC_X12_sizeOf 1 dd_X12_sizeOf rfl (by decide) (by decide) rfl (Nat.le_of_ble_eq_true rfl) dX12_tells_19 rfl (fun r_7 σ_6 h => ?_)
    refine f_iconst C (v := 2) dX12_tells_22 kc2 rfl ?_
    refine f_icmp_lt C (t := 37) dX12_tells_23 (by decide) rfl (fun hq_8 => ?_) (fun hq_8 => ?_)
    · replace h := Eq.mp (if_pos hq_8) h
      refine f_lv C (lv2 := [(0, .ref (B + 101))]) [0] rfl ?_
      exact s_X12_tells_37 C  _ h
    · replace h := Eq.mp (if_neg hq_8) h
      refine f_iload_n C (j := 1) dX12_tells_26 rfl rfl rfl ?_
      refine f_aload_n C (j := 0) dX12_tells_27 rfl rfl rfl ?_
      refine f_callVi C (a := 101) (ci := 12) (As := fun B => []) o101 rfl (c_X12_now   _ _ h) tM_X12_330 tI_X12_now tS_X12_now tN_X12 tC_X12_now 0 dd_X12_now rfl (by decide) (by decide) rfl (Nat.le_of_ble_eq_true rfl) dX12_tells_28 rfl (fun r_10 σ_9 h => ?_)
      refine f_iconst C (v := (-1)) dX12_tells_31 kcm1 rfl ?_
      refine f_inot C dX12_tells_32 rfl ?_
      refine f_iand C dX12_tells_33 rfl ?_
      refine f_if_eq C (t := 43) dX12_tells_34 (by decide) rfl (fun hq_11 => ?_) (fun hq_11 => ?_)
      · replace h := Eq.mp (if_pos hq_11) h
        refine f_aload_n C (j := 0) dX12_tells_43 rfl rfl rfl ?_
        refine f_iload_n C (j := 1) dX12_tells_44 rfl rfl rfl ?_
        refine f_callVv C (a := 101) (ci := 12) (As := fun B => [.int x1]) o101 rfl (c_X12_laysFalls  _ _ _ h) tM_X12_445 tI_X12_laysFalls tS_X12_laysFalls tN_X12 tC_X12_laysFalls 1 dd_X12_laysFalls rfl (by decide) (by decide) rfl (Nat.le_of_ble_eq_true rfl) dX12_tells_45 rfl (fun σ_12 h => ?_)
        refine f_iconst C (v := (-1)) dX12_tells_48 kcm1 rfl ?_
        refine f_istore_n C (lv2 := [(2, .int (-1)), (0, .ref (B + 101)), (1, .int x1)]) dX12_tells_49 rfl (by decide) rfl rfl ?_
        refine f_iload_n C (j := 2) dX12_tells_50 rfl rfl rfl ?_
        refine f_callSi C (As := fun B => [.int x1]) (c_X12_sizeOf  _ _ _ h) tM_X12_397 tT_X12_sizeOf tN_X12 tC_X12_sizeOf 1 dd_X12_sizeOf rfl (by decide) (by decide) rfl (Nat.le_of_ble_eq_true rfl) dX12_tells_51 rfl (fun r_15 σ_14 h => ?_)
        refine f_istore_n C (lv2 := [(3, .int r_15), (2, .int (-1)), (0, .ref (B + 101)), (1, .int x1)]) dX12_tells_54 rfl (by decide) rfl rfl ?_
        refine f_iconst C (v := 0) dX12_tells_55 kc0 rfl ?_
        refine f_istore C (lv2 := [(4, .int 0), (3, .int r_15), (2, .int (-1)), (0, .ref (B + 101)), (1, .int x1)]) dX12_tells_56 (by decide) rfl rfl ?_
        refine f_lv C (lv2 := [(0, .ref (B + 101)), (1, .int x1), (2, .int (-1)), (3, .int r_15), (4, .int 0)]) [3, 4, 2, 1, 0] rfl ?_
        exact Lp_sound (fun s : Int32 × Int32 × Int32 × Sto => E 58 [(0, .ref (B + 101)), (1, .int x1), (2, .int s.1), (3, .int s.2.1), (4, .int s.2.2.1)] [] s.2.2.2) h (fun K s hK h => s_X12_tells_58 C x1 s.1 s.2.1 s.2.2.1 K (fun x2 x3 x4 σ hk => hK (x2, x3, x4, σ) hk) s.2.2.2 h)
      · replace h := Eq.mp (if_neg hq_11) h
        refine f_lv C (lv2 := [(0, .ref (B + 101))]) [0] rfl ?_
        exact s_X12_tells_37 C  _ h
theorem c_X12_tells (x1 : Int32) (σ : Sto) (P : Int32 → Sto → Prop) (h : w_X12_tells x1 σ P) : Ct yX12_tells cX12_tells 6 (some .int) 6 134 (fun B => [.ref (B + 101), .int x1]) σ (QFi P) := Ct.of (by decide) (fun _ => Nat.le_of_ble_eq_true rfl) (fun B E C => s_X12_tells C x1 σ h)
def w_X12_looksFor_39 (K2 : Int32 × Sto → Prop) (K39 : Int32 × Sto → Prop) (x1 : Int32) (x2 : Int32) (x3 : Int32) (σ : Sto) (P : Int32 → Sto → Prop) : Prop :=
  (if (gi σ 106 0) ≤ x3 then ∀ x2_9 : Int32, x2_9 = x2 + 1 → K2 (x2_9, σ) else vp_in x3 12 ∧ ∀ x4_12 : Int32, x4_12 = x2 &&& (gi σ 114 (tn x3)) → (if x4_12 = 0 then ∀ x3_15 : Int32, x3_15 = x3 + 1 → K39 (x3_15, σ) else (if x4_12 = x2 then ∀ x3_18 : Int32, x3_18 = x3 + 1 → K39 (x3_18, σ) else vp_in x4_12 4096 ∧ (if (gi σ 115 (tn x4_12)) < 0 then ∀ x3_22 : Int32, x3_22 = x3 + 1 → K39 (x3_22, σ) else vp_in (x2 &&& (~~~x4_12)) 4096 ∧ (if 0 ≤ (gi σ 115 (tn (x2 &&& (~~~x4_12)))) then ∀ x5_26 : Int32, x5_26 = 1 + (if (gi σ 115 (tn x4_12)) < (gi σ 115 (tn (x2 &&& (~~~x4_12)))) then (gi σ 115 (tn (x2 &&& (~~~x4_12)))) else (gi σ 115 (tn x4_12))) → vp_in x2 4096 ∧ (if 0 ≤ (gi σ 115 (tn x2)) then ∀ x3_30 : Int32, x3_30 = x3 + 1 → K39 (x3_30, si σ 115 (tn x2) (if x5_26 < (gi σ 115 (tn x2)) then x5_26 else (gi σ 115 (tn x2)))) else ∀ x3_32 : Int32, x3_32 = x3 + 1 → K39 (x3_32, si σ 115 (tn x2) x5_26)) else ∀ x3_34 : Int32, x3_34 = x3 + 1 → K39 (x3_34, σ))))))
theorem s_X12_looksFor_39 {B : Nat} {E : Nat → List (Nat × Value) → List Value → Sto → Prop} {P : Int32 → Sto → Prop} (C : Cy B E RX12 cX12_looksFor 6 (some .int) 2 43 (Zm (QFi P))) (x1 : Int32) (x2 : Int32) (x3 : Int32) (K2 : Int32 × Sto → Prop) (K39 : Int32 × Sto → Prop) (hK2 : ∀ (x2 : Int32) (σ : Sto), K2 (x2, σ) → E 2 [(0, .ref (B + 101)), (1, .int x1), (2, .int x2)] [] σ) (hK39 : ∀ (x3 : Int32) (σ : Sto), K39 (x3, σ) → E 39 [(0, .ref (B + 101)), (1, .int x1), (2, .int x2), (3, .int x3)] [] σ) (σ : Sto) (h : w_X12_looksFor_39 K2 K39 x1 x2 x3 σ P) : E 39 [(0, .ref (B + 101)), (1, .int x1), (2, .int x2), (3, .int x3)] [] σ := by
  unfold w_X12_looksFor_39 at h
  refine f_iload_n C (j := 3) dX12_looksFor_39 rfl rfl rfl ?_
  refine f_aload_n C (j := 0) dX12_looksFor_40 rfl rfl rfl ?_
  refine f_getc C tF_X12_35 rfl o101 cs101_20 (by decide) dX12_looksFor_41 rfl ?_
  refine f_iconst C (v := 0) dX12_looksFor_44 kc0 rfl ?_
  refine f_iald C (j := 0) a106 (vp_lit (by decide)) rfl dX12_looksFor_45 rfl ?_
  refine f_icmp_ge C (t := 159) dX12_looksFor_46 (by decide) rfl (fun hq_8 => ?_) (fun hq_8 => ?_)
  · replace h := Eq.mp (if_pos hq_8) h
    obtain ⟨x2_9, hx_10⟩ : ∃ y : Int32, y = x2 + 1 := ⟨_, rfl⟩
    replace h := h x2_9 hx_10
    refine f_iinc C (j := 2) (v := x2_9) (lv2 := [(2, .int x2_9), (0, .ref (B + 101)), (1, .int x1), (3, .int x3)]) dX12_looksFor_159 rfl hx_10.symm (by decide) rfl rfl ?_
    refine f_goto C (t := 2) dX12_looksFor_162 (by decide) ?_
    refine f_lv C (lv2 := [(0, .ref (B + 101)), (1, .int x1), (2, .int x2_9)]) [1, 2, 0] rfl ?_
    exact hK2 _ _ h
  · replace h := Eq.mp (if_neg hq_8) h
    refine f_iload_n C (j := 2) dX12_looksFor_49 rfl rfl rfl ?_
    refine f_aload_n C (j := 0) dX12_looksFor_50 rfl rfl rfl ?_
    refine f_getc C tF_X12_59 rfl o101 cs101_34 (by decide) dX12_looksFor_51 rfl ?_
    refine f_iload_n C (j := 3) dX12_looksFor_54 rfl rfl rfl ?_
    obtain ⟨hi_11, h⟩ := h
    refine f_iald C (j := tn x3) a114 hi_11 rfl dX12_looksFor_55 rfl ?_
    refine f_iand C dX12_looksFor_56 rfl ?_
    refine f_name (fun x4_12 hx_13 => ?_)
    replace h := h x4_12 hx_13
    refine f_istore C (lv2 := [(4, .int x4_12), (0, .ref (B + 101)), (1, .int x1), (2, .int x2), (3, .int x3)]) dX12_looksFor_57 (by decide) rfl rfl ?_
    refine f_iload C (j := 0) dX12_looksFor_59 rfl rfl ?_
    refine f_if_eq C (t := 153) dX12_looksFor_61 (by decide) rfl (fun hq_14 => ?_) (fun hq_14 => ?_)
    · replace h := Eq.mp (if_pos hq_14) h
      obtain ⟨x3_15, hx_16⟩ : ∃ y : Int32, y = x3 + 1 := ⟨_, rfl⟩
      replace h := h x3_15 hx_16
      refine f_iinc C (j := 4) (v := x3_15) (lv2 := [(3, .int x3_15), (4, .int x4_12), (0, .ref (B + 101)), (1, .int x1), (2, .int x2)]) dX12_looksFor_153 rfl hx_16.symm (by decide) rfl rfl ?_
      refine f_goto C (t := 39) dX12_looksFor_156 (by decide) ?_
      refine f_lv C (lv2 := [(0, .ref (B + 101)), (1, .int x1), (2, .int x2), (3, .int x3_15)]) [2, 3, 4, 0] rfl ?_
      exact hK39 _ _ h
    · replace h := Eq.mp (if_neg hq_14) h
      refine f_iload C (j := 0) dX12_looksFor_64 rfl rfl ?_
      refine f_iload_n C (j := 3) dX12_looksFor_66 rfl rfl rfl ?_
      refine f_icmp_eq C (t := 153) dX12_looksFor_67 (by decide) rfl (fun hq_17 => ?_) (fun hq_17 => ?_)
      · replace h := Eq.mp (if_pos hq_17) h
        obtain ⟨x3_18, hx_19⟩ : ∃ y : Int32, y = x3 + 1 := ⟨_, rfl⟩
        replace h := h x3_18 hx_19
        refine f_iinc C (j := 4) (v := x3_18) (lv2 := [(3, .int x3_18), (4, .int x4_12), (0, .ref (B + 101)), (1, .int x1), (2, .int x2)]) dX12_looksFor_153 rfl hx_19.symm (by decide) rfl rfl ?_
        refine f_goto C (t := 39) dX12_looksFor_156 (by decide) ?_
        refine f_lv C (lv2 := [(0, .ref (B + 101)), (1, .int x1), (2, .int x2), (3, .int x3_18)]) [2, 3, 4, 0] rfl ?_
        exact hK39 _ _ h
      · replace h := Eq.mp (if_neg hq_17) h
        refine f_aload_n C (j := 1) dX12_looksFor_70 rfl rfl rfl ?_
        refine f_getc C tF_X12_62 rfl o101 cs101_35 (by decide) dX12_looksFor_71 rfl ?_
        refine f_iload C (j := 0) dX12_looksFor_74 rfl rfl ?_
        obtain ⟨hi_20, h⟩ := h
        refine f_iald C (j := tn x4_12) a115 hi_20 rfl dX12_looksFor_76 rfl ?_
        refine f_if_lt C (t := 153) dX12_looksFor_77 (by decide) rfl (fun hq_21 => ?_) (fun hq_21 => ?_)
        · replace h := Eq.mp (if_pos hq_21) h
          obtain ⟨x3_22, hx_23⟩ : ∃ y : Int32, y = x3 + 1 := ⟨_, rfl⟩
          replace h := h x3_22 hx_23
          refine f_iinc C (j := 4) (v := x3_22) (lv2 := [(3, .int x3_22), (4, .int x4_12), (0, .ref (B + 101)), (1, .int x1), (2, .int x2)]) dX12_looksFor_153 rfl hx_23.symm (by decide) rfl rfl ?_
          refine f_goto C (t := 39) dX12_looksFor_156 (by decide) ?_
          refine f_lv C (lv2 := [(0, .ref (B + 101)), (1, .int x1), (2, .int x2), (3, .int x3_22)]) [2, 3, 4, 0] rfl ?_
          exact hK39 _ _ h
        · replace h := Eq.mp (if_neg hq_21) h
          refine f_aload_n C (j := 1) dX12_looksFor_80 rfl rfl rfl ?_
          refine f_getc C tF_X12_62 rfl o101 cs101_35 (by decide) dX12_looksFor_81 rfl ?_
          refine f_iload_n C (j := 3) dX12_looksFor_84 rfl rfl rfl ?_
          refine f_iload C (j := 0) dX12_looksFor_85 rfl rfl ?_
          refine f_iconst C (v := (-1)) dX12_looksFor_87 kcm1 rfl ?_
          refine f_inot C dX12_looksFor_88 rfl ?_
          refine f_iand C dX12_looksFor_89 rfl ?_
          obtain ⟨hi_24, h⟩ := h
          refine f_iald C (j := tn (x2 &&& (~~~x4_12))) a115 hi_24 rfl dX12_looksFor_90 rfl ?_
          refine f_if_ge C (t := 97) dX12_looksFor_91 (by decide) rfl (fun hq_25 => ?_) (fun hq_25 => ?_)
          · replace h := Eq.mp (if_pos hq_25) h
            refine f_iconst C (v := 1) dX12_looksFor_97 kc1 rfl ?_
            refine f_aload_n C (j := 1) dX12_looksFor_98 rfl rfl rfl ?_
            refine f_getc C tF_X12_62 rfl o101 cs101_35 (by decide) dX12_looksFor_99 rfl ?_
            refine f_iload C (j := 0) dX12_looksFor_102 rfl rfl ?_
            refine f_iald C (j := tn x4_12) a115 hi_20 rfl dX12_looksFor_104 rfl ?_
            refine f_aload_n C (j := 1) dX12_looksFor_105 rfl rfl rfl ?_
            refine f_getc C tF_X12_62 rfl o101 cs101_35 (by decide) dX12_looksFor_106 rfl ?_
            refine f_iload_n C (j := 3) dX12_looksFor_109 rfl rfl rfl ?_
            refine f_iload C (j := 0) dX12_looksFor_110 rfl rfl ?_
            refine f_iconst C (v := (-1)) dX12_looksFor_112 kcm1 rfl ?_
            refine f_inot C dX12_looksFor_113 rfl ?_
            refine f_iand C dX12_looksFor_114 rfl ?_
            refine f_iald C (j := tn (x2 &&& (~~~x4_12))) a115 hi_24 rfl dX12_looksFor_115 rfl ?_
            refine f_mmax C tM_X12_248 tT_J9_max_7cf53 tN_J9 tC_J9_max_7cf53 (by decide) (by decide) (Nat.le_of_ble_eq_true rfl) dX12_looksFor_116 rfl ?_
            refine f_iadd C dX12_looksFor_119 rfl ?_
            refine f_name (fun x5_26 hx_27 => ?_)
            replace h := h x5_26 hx_27
            refine f_istore C (lv2 := [(5, .int x5_26), (4, .int x4_12), (0, .ref (B + 101)), (1, .int x1), (2, .int x2), (3, .int x3)]) dX12_looksFor_120 (by decide) rfl rfl ?_
            refine f_aload_n C (j := 2) dX12_looksFor_122 rfl rfl rfl ?_
            refine f_getc C tF_X12_62 rfl o101 cs101_35 (by decide) dX12_looksFor_123 rfl ?_
            refine f_iload_n C (j := 4) dX12_looksFor_126 rfl rfl rfl ?_
            refine f_aload_n C (j := 2) dX12_looksFor_127 rfl rfl rfl ?_
            refine f_getc C tF_X12_62 rfl o101 cs101_35 (by decide) dX12_looksFor_128 rfl ?_
            refine f_iload_n C (j := 4) dX12_looksFor_131 rfl rfl rfl ?_
            obtain ⟨hi_28, h⟩ := h
            refine f_iald C (j := tn x2) a115 hi_28 rfl dX12_looksFor_132 rfl ?_
            refine f_if_ge C (t := 141) dX12_looksFor_133 (by decide) rfl (fun hq_29 => ?_) (fun hq_29 => ?_)
            · replace h := Eq.mp (if_pos hq_29) h
              refine f_aload_n C (j := 2) dX12_looksFor_141 rfl rfl rfl ?_
              refine f_getc C tF_X12_62 rfl o101 cs101_35 (by decide) dX12_looksFor_142 rfl ?_
              refine f_iload_n C (j := 4) dX12_looksFor_145 rfl rfl rfl ?_
              refine f_iald C (j := tn x2) a115 hi_28 rfl dX12_looksFor_146 rfl ?_
              refine f_iload C (j := 0) dX12_looksFor_147 rfl rfl ?_
              refine f_mmin C tM_X12_448 tT_J9_min_7cf53 tN_J9 tC_J9_min_7cf53 (by decide) (by decide) (Nat.le_of_ble_eq_true rfl) dX12_looksFor_149 rfl ?_
              refine f_iast C (j := tn x2) a115 hi_28 rfl dX12_looksFor_152 rfl ?_
              obtain ⟨x3_30, hx_31⟩ : ∃ y : Int32, y = x3 + 1 := ⟨_, rfl⟩
              replace h := h x3_30 hx_31
              refine f_iinc C (j := 5) (v := x3_30) (lv2 := [(3, .int x3_30), (5, .int x5_26), (4, .int x4_12), (0, .ref (B + 101)), (1, .int x1), (2, .int x2)]) dX12_looksFor_153 rfl hx_31.symm (by decide) rfl rfl ?_
              refine f_goto C (t := 39) dX12_looksFor_156 (by decide) ?_
              refine f_lv C (lv2 := [(0, .ref (B + 101)), (1, .int x1), (2, .int x2), (3, .int x3_30)]) [3, 4, 5, 0] rfl ?_
              exact hK39 _ _ h
            · replace h := Eq.mp (if_neg hq_29) h
              refine f_iload C (j := 0) dX12_looksFor_136 rfl rfl ?_
              refine f_goto C (t := 152) dX12_looksFor_138 (by decide) ?_
              refine f_iast C (j := tn x2) a115 hi_28 rfl dX12_looksFor_152 rfl ?_
              obtain ⟨x3_32, hx_33⟩ : ∃ y : Int32, y = x3 + 1 := ⟨_, rfl⟩
              replace h := h x3_32 hx_33
              refine f_iinc C (j := 5) (v := x3_32) (lv2 := [(3, .int x3_32), (5, .int x5_26), (4, .int x4_12), (0, .ref (B + 101)), (1, .int x1), (2, .int x2)]) dX12_looksFor_153 rfl hx_33.symm (by decide) rfl rfl ?_
              refine f_goto C (t := 39) dX12_looksFor_156 (by decide) ?_
              refine f_lv C (lv2 := [(0, .ref (B + 101)), (1, .int x1), (2, .int x2), (3, .int x3_32)]) [3, 4, 5, 0] rfl ?_
              exact hK39 _ _ h
          · replace h := Eq.mp (if_neg hq_25) h
            refine f_goto C (t := 153) dX12_looksFor_94 (by decide) ?_
            obtain ⟨x3_34, hx_35⟩ : ∃ y : Int32, y = x3 + 1 := ⟨_, rfl⟩
            replace h := h x3_34 hx_35
            refine f_iinc C (j := 4) (v := x3_34) (lv2 := [(3, .int x3_34), (4, .int x4_12), (0, .ref (B + 101)), (1, .int x1), (2, .int x2)]) dX12_looksFor_153 rfl hx_35.symm (by decide) rfl rfl ?_
            refine f_goto C (t := 39) dX12_looksFor_156 (by decide) ?_
            refine f_lv C (lv2 := [(0, .ref (B + 101)), (1, .int x1), (2, .int x2), (3, .int x3_34)]) [2, 3, 4, 0] rfl ?_
            exact hK39 _ _ h
def w_X12_looksFor_2 (K2 : Int32 × Sto → Prop) (x1 : Int32) (x2 : Int32) (σ : Sto) (P : Int32 → Sto → Prop) : Prop :=
  (if x1 < x2 then vp_in x1 4096 ∧ P (gi σ 115 (tn x1)) σ else (if (x2 &&& (~~~x1)) = 0 then w_X12_sizeOf x2 σ (fun r_5 σ_4 => (if r_5 = 1 then vp_in x2 4096 ∧ Lp (fun (K : Int32 × Sto → Prop) s => w_X12_looksFor_39 K2 K x1 x2 s.1 s.2 P) (0, si σ_4 115 (tn x2) 0) else vp_in x2 4096 ∧ Lp (fun (K : Int32 × Sto → Prop) s => w_X12_looksFor_39 K2 K x1 x2 s.1 s.2 P) (0, si σ_4 115 (tn x2) (-1)))) else ∀ x2_37 : Int32, x2_37 = x2 + 1 → K2 (x2_37, σ)))
theorem s_X12_looksFor_2 {B : Nat} {E : Nat → List (Nat × Value) → List Value → Sto → Prop} {P : Int32 → Sto → Prop} (C : Cy B E RX12 cX12_looksFor 6 (some .int) 2 43 (Zm (QFi P))) (x1 : Int32) (x2 : Int32) (K2 : Int32 × Sto → Prop) (hK2 : ∀ (x2 : Int32) (σ : Sto), K2 (x2, σ) → E 2 [(0, .ref (B + 101)), (1, .int x1), (2, .int x2)] [] σ) (σ : Sto) (h : w_X12_looksFor_2 K2 x1 x2 σ P) : E 2 [(0, .ref (B + 101)), (1, .int x1), (2, .int x2)] [] σ := by
  unfold w_X12_looksFor_2 at h
  refine f_iload_n C (j := 2) dX12_looksFor_2 rfl rfl rfl ?_
  refine f_iload_n C (j := 1) dX12_looksFor_3 rfl rfl rfl ?_
  refine f_icmp_gt C (t := 165) dX12_looksFor_4 (by decide) rfl (fun hq_1 => ?_) (fun hq_1 => ?_)
  · replace h := Eq.mp (if_pos hq_1) h
    refine f_aload_n C (j := 0) dX12_looksFor_165 rfl rfl rfl ?_
    refine f_getc C tF_X12_62 rfl o101 cs101_35 (by decide) dX12_looksFor_166 rfl ?_
    refine f_iload_n C (j := 1) dX12_looksFor_169 rfl rfl rfl ?_
    obtain ⟨hi_2, h⟩ := h
    refine f_iald C (j := tn x1) a115 hi_2 rfl dX12_looksFor_170 rfl ?_
    exact f_iret C dX12_looksFor_171 h
  · replace h := Eq.mp (if_neg hq_1) h
    refine f_iload_n C (j := 2) dX12_looksFor_7 rfl rfl rfl ?_
    refine f_iload_n C (j := 1) dX12_looksFor_8 rfl rfl rfl ?_
    refine f_iconst C (v := (-1)) dX12_looksFor_9 kcm1 rfl ?_
    refine f_inot C dX12_looksFor_10 rfl ?_
    refine f_iand C dX12_looksFor_11 rfl ?_
    refine f_if_eq C (t := 18) dX12_looksFor_12 (by decide) rfl (fun hq_3 => ?_) (fun hq_3 => ?_)
    · replace h := Eq.mp (if_pos hq_3) h
      refine f_aload_n C (j := 0) dX12_looksFor_18 rfl rfl rfl ?_
      refine f_getc C tF_X12_62 rfl o101 cs101_35 (by decide) dX12_looksFor_19 rfl ?_
      refine f_iload_n C (j := 2) dX12_looksFor_22 rfl rfl rfl ?_
      refine f_iload_n C (j := 2) dX12_looksFor_23 rfl rfl rfl ?_
      refine f_callSi C (As := fun B => [.int x2]) (c_X12_sizeOf  _ _ _ h) tM_X12_397 tT_X12_sizeOf tN_X12 tC_X12_sizeOf 1 dd_X12_sizeOf rfl (by decide) (by decide) rfl (Nat.le_of_ble_eq_true rfl) dX12_looksFor_24 rfl (fun r_5 σ_4 h => ?_)
      refine f_iconst C (v := 1) dX12_looksFor_27 kc1 rfl ?_
      refine f_icmp_ne C (t := 35) dX12_looksFor_28 (by decide) rfl (fun hq_6 => ?_) (fun hq_6 => ?_)
      · replace h := Eq.mp (if_neg hq_6) h
        refine f_iconst C (v := (-1)) dX12_looksFor_35 kcm1 rfl ?_
        obtain ⟨hi_7, h⟩ := h
        refine f_iast C (j := tn x2) a115 hi_7 rfl dX12_looksFor_36 rfl ?_
        refine f_iconst C (v := 0) dX12_looksFor_37 kc0 rfl ?_
        refine f_istore_n C (lv2 := [(3, .int 0), (0, .ref (B + 101)), (1, .int x1), (2, .int x2)]) dX12_looksFor_38 rfl (by decide) rfl rfl ?_
        refine f_lv C (lv2 := [(0, .ref (B + 101)), (1, .int x1), (2, .int x2), (3, .int 0)]) [1, 2, 3, 0] rfl ?_
        exact Lp_sound (fun s : Int32 × Sto => E 39 [(0, .ref (B + 101)), (1, .int x1), (2, .int x2), (3, .int s.1)] [] s.2) h (fun K s hK h => s_X12_looksFor_39 C x1 x2 s.1 K2 K hK2 (fun x3 σ hk => hK (x3, σ) hk) s.2 h)
      · replace h := Eq.mp (if_pos hq_6) h
        refine f_iconst C (v := 0) dX12_looksFor_31 kc0 rfl ?_
        refine f_goto C (t := 36) dX12_looksFor_32 (by decide) ?_
        obtain ⟨hi_36, h⟩ := h
        refine f_iast C (j := tn x2) a115 hi_36 rfl dX12_looksFor_36 rfl ?_
        refine f_iconst C (v := 0) dX12_looksFor_37 kc0 rfl ?_
        refine f_istore_n C (lv2 := [(3, .int 0), (0, .ref (B + 101)), (1, .int x1), (2, .int x2)]) dX12_looksFor_38 rfl (by decide) rfl rfl ?_
        refine f_lv C (lv2 := [(0, .ref (B + 101)), (1, .int x1), (2, .int x2), (3, .int 0)]) [1, 2, 3, 0] rfl ?_
        exact Lp_sound (fun s : Int32 × Sto => E 39 [(0, .ref (B + 101)), (1, .int x1), (2, .int x2), (3, .int s.1)] [] s.2) h (fun K s hK h => s_X12_looksFor_39 C x1 x2 s.1 K2 K hK2 (fun x3 σ hk => hK (x3, σ) hk) s.2 h)
    · replace h := Eq.mp (if_neg hq_3) h
      refine f_goto C (t := 159) dX12_looksFor_15 (by decide) ?_
      obtain ⟨x2_37, hx_38⟩ : ∃ y : Int32, y = x2 + 1 := ⟨_, rfl⟩
      replace h := h x2_37 hx_38
      refine f_iinc C (j := 2) (v := x2_37) (lv2 := [(2, .int x2_37), (0, .ref (B + 101)), (1, .int x1)]) dX12_looksFor_159 rfl hx_38.symm (by decide) rfl rfl ?_
      refine f_goto C (t := 2) dX12_looksFor_162 (by decide) ?_
      refine f_lv C (lv2 := [(0, .ref (B + 101)), (1, .int x1), (2, .int x2_37)]) [1, 2, 0] rfl ?_
      exact hK2 _ _ h
def w_X12_looksFor (x1 : Int32) (σ : Sto) (P : Int32 → Sto → Prop) : Prop :=
  Lp (fun (K : Int32 × Sto → Prop) s => w_X12_looksFor_2 K x1 s.1 s.2 P) (1, σ)
theorem s_X12_looksFor {B : Nat} {E : Nat → List (Nat × Value) → List Value → Sto → Prop} {P : Int32 → Sto → Prop} (C : Cy B E RX12 cX12_looksFor 6 (some .int) 2 43 (Zm (QFi P))) (x1 : Int32) (σ : Sto) (h : w_X12_looksFor x1 σ P) : E 0 [(0, .ref (B + 101)), (1, .int x1)] [] σ := by
  unfold w_X12_looksFor at h
  refine f_iconst C (v := 1) dX12_looksFor_0 kc1 rfl ?_
  refine f_istore_n C (lv2 := [(2, .int 1), (0, .ref (B + 101)), (1, .int x1)]) dX12_looksFor_1 rfl (by decide) rfl rfl ?_
  refine f_lv C (lv2 := [(0, .ref (B + 101)), (1, .int x1), (2, .int 1)]) [1, 2, 0] rfl ?_
  exact Lp_sound (fun s : Int32 × Sto => E 2 [(0, .ref (B + 101)), (1, .int x1), (2, .int s.1)] [] s.2) h (fun K s hK h => s_X12_looksFor_2 C x1 s.1 K (fun x2 σ hk => hK (x2, σ) hk) s.2 h)
theorem c_X12_looksFor (x1 : Int32) (σ : Sto) (P : Int32 → Sto → Prop) (h : w_X12_looksFor x1 σ P) : Ct yX12_looksFor cX12_looksFor 6 (some .int) 2 43 (fun B => [.ref (B + 101), .int x1]) σ (QFi P) := Ct.of (by decide) (fun _ => Nat.le_of_ble_eq_true rfl) (fun B E C => s_X12_looksFor C x1 σ h)
def w_X12_sure_33 (σ : Sto) (P : Int32 → Sto → Prop) : Prop :=
  w_X12_refuse 5 σ (fun r_5 σ_4 => P r_5 σ_4)
theorem s_X12_sure_33 {B : Nat} {E : Nat → List (Nat × Value) → List Value → Sto → Prop} {P : Int32 → Sto → Prop} (C : Cy B E RX12 cX12_sure 3 (some .int) 6 134 (Zm (QFi P))) (σ : Sto) (h : w_X12_sure_33 σ P) : E 33 [(0, .ref (B + 101))] [] σ := by
  unfold w_X12_sure_33 at h
  refine f_aload_n C (j := 0) dX12_sure_33 rfl rfl rfl ?_
  refine f_iconst C (v := 5) dX12_sure_34 kc5 rfl ?_
  refine f_callVi C (a := 101) (ci := 12) (As := fun B => [.int 5]) o101 rfl (c_X12_refuse  _ _ _ h) tM_X12_327 tI_X12_refuse tS_X12_refuse tN_X12 tC_X12_refuse 1 dd_X12_refuse rfl (by decide) (by decide) rfl (Nat.le_of_ble_eq_true rfl) dX12_sure_35 rfl (fun r_5 σ_4 h => ?_)
  exact f_iret C dX12_sure_38 h
def w_X12_sure (x1 : Int32) (σ : Sto) (P : Int32 → Sto → Prop) : Prop :=
  w_X12_isSet x1 (si (si σ 101 1 0) 101 0 0) (fun r_2 σ_1 => (if r_2 = 0 then w_X12_sure_33 σ_1 P else (if x1 = 0 then w_X12_sure_33 σ_1 P else w_X12_now σ_1 (fun r_8 σ_7 => (if (x1 &&& (~~~r_8)) = 0 then w_X12_laysFalls x1 σ_7 (fun σ_10 => w_X12_looksFor x1 σ_10 (fun r_13 σ_12 => (if 0 ≤ r_13 then P r_13 σ_12 else w_X12_refuse 8 σ_12 (fun r_16 σ_15 => P r_16 σ_15)))) else w_X12_sure_33 σ_7 P)))))
theorem s_X12_sure {B : Nat} {E : Nat → List (Nat × Value) → List Value → Sto → Prop} {P : Int32 → Sto → Prop} (C : Cy B E RX12 cX12_sure 3 (some .int) 6 134 (Zm (QFi P))) (x1 : Int32) (σ : Sto) (h : w_X12_sure x1 σ P) : E 0 [(0, .ref (B + 101)), (1, .int x1)] [] σ := by
  unfold w_X12_sure at h
  refine f_aload_n C (j := 0) dX12_sure_0 rfl rfl rfl ?_
  refine f_iconst C (v := 0) dX12_sure_1 kc0 rfl ?_
  refine f_puti C tF_X12_74 fm_12_1 rfl o101 dX12_sure_2 rfl ?_
  refine f_aload_n C (j := 0) dX12_sure_5 rfl rfl rfl ?_
  refine f_iconst C (v := 0) dX12_sure_6 kc0 rfl ?_
  refine f_puti C tF_X12_77 fm_12_0 rfl o101 dX12_sure_7 rfl ?_
  refine f_aload_n C (j := 0) dX12_sure_10 rfl rfl rfl ?_
  refine f_iload_n C (j := 1) dX12_sure_11 rfl rfl rfl ?_
  refine f_callVi C (a := 101) (ci := 12) (As := fun B => [.int x1]) o101 rfl (c_X12_isSet  _ _ _ h) tM_X12_425 tI_X12_isSet tS_X12_isSet tN_X12 tC_X12_isSet 1 dd_X12_isSet rfl (by decide) (by decide) rfl (Nat.le_of_ble_eq_true rfl) dX12_sure_12 rfl (fun r_2 σ_1 h => ?_)
  refine f_if_eq C (t := 33) dX12_sure_15 (by decide) rfl (fun hq_3 => ?_) (fun hq_3 => ?_)
  · replace h := Eq.mp (if_pos hq_3) h
    refine f_lv C (lv2 := [(0, .ref (B + 101))]) [0] rfl ?_
    exact s_X12_sure_33 C  _ h
  · replace h := Eq.mp (if_neg hq_3) h
    refine f_iload_n C (j := 1) dX12_sure_18 rfl rfl rfl ?_
    refine f_if_eq C (t := 33) dX12_sure_19 (by decide) rfl (fun hq_6 => ?_) (fun hq_6 => ?_)
    · replace h := Eq.mp (if_pos hq_6) h
      refine f_lv C (lv2 := [(0, .ref (B + 101))]) [0] rfl ?_
      exact s_X12_sure_33 C  _ h
    · replace h := Eq.mp (if_neg hq_6) h
      refine f_iload_n C (j := 1) dX12_sure_22 rfl rfl rfl ?_
      refine f_aload_n C (j := 0) dX12_sure_23 rfl rfl rfl ?_
      refine f_callVi C (a := 101) (ci := 12) (As := fun B => []) o101 rfl (c_X12_now   _ _ h) tM_X12_330 tI_X12_now tS_X12_now tN_X12 tC_X12_now 0 dd_X12_now rfl (by decide) (by decide) rfl (Nat.le_of_ble_eq_true rfl) dX12_sure_24 rfl (fun r_8 σ_7 h => ?_)
      refine f_iconst C (v := (-1)) dX12_sure_27 kcm1 rfl ?_
      refine f_inot C dX12_sure_28 rfl ?_
      refine f_iand C dX12_sure_29 rfl ?_
      refine f_if_eq C (t := 39) dX12_sure_30 (by decide) rfl (fun hq_9 => ?_) (fun hq_9 => ?_)
      · replace h := Eq.mp (if_pos hq_9) h
        refine f_aload_n C (j := 0) dX12_sure_39 rfl rfl rfl ?_
        refine f_iload_n C (j := 1) dX12_sure_40 rfl rfl rfl ?_
        refine f_callVv C (a := 101) (ci := 12) (As := fun B => [.int x1]) o101 rfl (c_X12_laysFalls  _ _ _ h) tM_X12_445 tI_X12_laysFalls tS_X12_laysFalls tN_X12 tC_X12_laysFalls 1 dd_X12_laysFalls rfl (by decide) (by decide) rfl (Nat.le_of_ble_eq_true rfl) dX12_sure_41 rfl (fun σ_10 h => ?_)
        refine f_aload_n C (j := 0) dX12_sure_44 rfl rfl rfl ?_
        refine f_iload_n C (j := 1) dX12_sure_45 rfl rfl rfl ?_
        refine f_callVi C (a := 101) (ci := 12) (As := fun B => [.int x1]) o101 rfl (c_X12_looksFor  _ _ _ h) tM_X12_451 tI_X12_looksFor tS_X12_looksFor tN_X12 tC_X12_looksFor 1 dd_X12_looksFor rfl (by decide) (by decide) rfl (Nat.le_of_ble_eq_true rfl) dX12_sure_46 rfl (fun r_13 σ_12 h => ?_)
        refine f_istore_n C (lv2 := [(2, .int r_13), (0, .ref (B + 101)), (1, .int x1)]) dX12_sure_49 rfl (by decide) rfl rfl ?_
        refine f_iload_n C (j := 0) dX12_sure_50 rfl rfl rfl ?_
        refine f_if_ge C (t := 63) dX12_sure_51 (by decide) rfl (fun hq_14 => ?_) (fun hq_14 => ?_)
        · replace h := Eq.mp (if_pos hq_14) h
          refine f_iload_n C (j := 0) dX12_sure_63 rfl rfl rfl ?_
          exact f_iret C dX12_sure_64 h
        · replace h := Eq.mp (if_neg hq_14) h
          refine f_aload_n C (j := 1) dX12_sure_54 rfl rfl rfl ?_
          refine f_bipush C (v := 8) dX12_sure_55 kb8 rfl ?_
          refine f_callVi C (a := 101) (ci := 12) (As := fun B => [.int 8]) o101 rfl (c_X12_refuse  _ _ _ h) tM_X12_327 tI_X12_refuse tS_X12_refuse tN_X12 tC_X12_refuse 1 dd_X12_refuse rfl (by decide) (by decide) rfl (Nat.le_of_ble_eq_true rfl) dX12_sure_57 rfl (fun r_16 σ_15 h => ?_)
          refine f_goto C (t := 64) dX12_sure_60 (by decide) ?_
          exact f_iret C dX12_sure_64 h
      · replace h := Eq.mp (if_neg hq_9) h
        refine f_lv C (lv2 := [(0, .ref (B + 101))]) [0] rfl ?_
        exact s_X12_sure_33 C  _ h
theorem c_X12_sure (x1 : Int32) (σ : Sto) (P : Int32 → Sto → Prop) (h : w_X12_sure x1 σ P) : Ct yX12_sure cX12_sure 3 (some .int) 6 134 (fun B => [.ref (B + 101), .int x1]) σ (QFi P) := Ct.of (by decide) (fun _ => Nat.le_of_ble_eq_true rfl) (fun B E C => s_X12_sure C x1 σ h)
def w_X12_countsHistories_42 (K35 : Int32 × Sto → Prop) (K42 : Int32 × Sto → Prop) (x1 : Int32) (x2 : Int32) (x3 : Int32) (σ : Sto) (P : Int64 → Sto → Prop) : Prop :=
  (if (gi σ 106 0) ≤ x3 then ∀ x2_7 : Int32, x2_7 = x2 + 1 → K35 (x2_7, σ) else w_X12_has x2 x3 σ (fun r_10 σ_9 => (if r_10 = 0 then vp_in (130 + x3) 2105 ∧ (if ((gi σ_9 106 (tn (130 + x3))) &&& (~~~x2)) = 0 then vp_in (x2 ||| (1 <<< (x3 &&& 31))) 4096 ∧ vp_in x2 4096 ∧ ∀ x3_20 : Int32, x3_20 = x3 + 1 → K42 (x3_20, sl σ_9 116 (tn (x2 ||| (1 <<< (x3 &&& 31)))) ((gl σ_9 116 (tn (x2 ||| (1 <<< (x3 &&& 31))))) + (gl σ_9 116 (tn x2)))) else ∀ x3_16 : Int32, x3_16 = x3 + 1 → K42 (x3_16, σ_9)) else ∀ x3_12 : Int32, x3_12 = x3 + 1 → K42 (x3_12, σ_9))))
theorem s_X12_countsHistories_42 {B : Nat} {E : Nat → List (Nat × Value) → List Value → Sto → Prop} {P : Int64 → Sto → Prop} (C : Cy B E RX12 cX12_countsHistories 4 (some .long) 1 21 (Zm (QFl P))) (x1 : Int32) (x2 : Int32) (x3 : Int32) (K35 : Int32 × Sto → Prop) (K42 : Int32 × Sto → Prop) (hK35 : ∀ (x2 : Int32) (σ : Sto), K35 (x2, σ) → E 35 [(0, .ref (B + 101)), (1, .int x1), (2, .int x2)] [] σ) (hK42 : ∀ (x3 : Int32) (σ : Sto), K42 (x3, σ) → E 42 [(0, .ref (B + 101)), (1, .int x1), (2, .int x2), (3, .int x3)] [] σ) (σ : Sto) (h : w_X12_countsHistories_42 K35 K42 x1 x2 x3 σ P) : E 42 [(0, .ref (B + 101)), (1, .int x1), (2, .int x2), (3, .int x3)] [] σ := by
  unfold w_X12_countsHistories_42 at h
  refine f_iload_n C (j := 3) dX12_countsHistories_42 rfl rfl rfl ?_
  refine f_aload_n C (j := 0) dX12_countsHistories_43 rfl rfl rfl ?_
  refine f_getc C tF_X12_35 rfl o101 cs101_20 (by decide) dX12_countsHistories_44 rfl ?_
  refine f_iconst C (v := 0) dX12_countsHistories_47 kc0 rfl ?_
  refine f_iald C (j := 0) a106 (vp_lit (by decide)) rfl dX12_countsHistories_48 rfl ?_
  refine f_icmp_ge C (t := 102) dX12_countsHistories_49 (by decide) rfl (fun hq_6 => ?_) (fun hq_6 => ?_)
  · replace h := Eq.mp (if_pos hq_6) h
    obtain ⟨x2_7, hx_8⟩ : ∃ y : Int32, y = x2 + 1 := ⟨_, rfl⟩
    replace h := h x2_7 hx_8
    refine f_iinc C (j := 2) (v := x2_7) (lv2 := [(2, .int x2_7), (0, .ref (B + 101)), (1, .int x1), (3, .int x3)]) dX12_countsHistories_102 rfl hx_8.symm (by decide) rfl rfl ?_
    refine f_goto C (t := 35) dX12_countsHistories_105 (by decide) ?_
    refine f_lv C (lv2 := [(0, .ref (B + 101)), (1, .int x1), (2, .int x2_7)]) [1, 2, 0] rfl ?_
    exact hK35 _ _ h
  · replace h := Eq.mp (if_neg hq_6) h
    refine f_iload_n C (j := 2) dX12_countsHistories_52 rfl rfl rfl ?_
    refine f_iload_n C (j := 3) dX12_countsHistories_53 rfl rfl rfl ?_
    refine f_callSi C (As := fun B => [.int x2, .int x3]) (c_X12_has  _ _ _ _ h) tM_X12_113 tT_X12_has tN_X12 tC_X12_has 2 dd_X12_has rfl (by decide) (by decide) rfl (Nat.le_of_ble_eq_true rfl) dX12_countsHistories_54 rfl (fun r_10 σ_9 h => ?_)
    refine f_if_ne C (t := 96) dX12_countsHistories_57 (by decide) rfl (fun hq_11 => ?_) (fun hq_11 => ?_)
    · replace h := Eq.mp (if_neg hq_11) h
      obtain ⟨x3_12, hx_13⟩ : ∃ y : Int32, y = x3 + 1 := ⟨_, rfl⟩
      replace h := h x3_12 hx_13
      refine f_iinc C (j := 3) (v := x3_12) (lv2 := [(3, .int x3_12), (0, .ref (B + 101)), (1, .int x1), (2, .int x2)]) dX12_countsHistories_96 rfl hx_13.symm (by decide) rfl rfl ?_
      refine f_goto C (t := 42) dX12_countsHistories_99 (by decide) ?_
      refine f_lv C (lv2 := [(0, .ref (B + 101)), (1, .int x1), (2, .int x2), (3, .int x3_12)]) [1, 2, 3, 0] rfl ?_
      exact hK42 _ _ h
    · replace h := Eq.mp (if_pos hq_11) h
      refine f_aload_n C (j := 0) dX12_countsHistories_60 rfl rfl rfl ?_
      refine f_getc C tF_X12_35 rfl o101 cs101_20 (by decide) dX12_countsHistories_61 rfl ?_
      refine f_sipush C (v := 130) dX12_countsHistories_64 ks130 rfl ?_
      refine f_iload_n C (j := 3) dX12_countsHistories_67 rfl rfl rfl ?_
      refine f_iadd C dX12_countsHistories_68 rfl ?_
      obtain ⟨hi_14, h⟩ := h
      refine f_iald C (j := tn (130 + x3)) a106 hi_14 rfl dX12_countsHistories_69 rfl ?_
      refine f_iload_n C (j := 2) dX12_countsHistories_70 rfl rfl rfl ?_
      refine f_iconst C (v := (-1)) dX12_countsHistories_71 kcm1 rfl ?_
      refine f_inot C dX12_countsHistories_72 rfl ?_
      refine f_iand C dX12_countsHistories_73 rfl ?_
      refine f_if_ne C (t := 96) dX12_countsHistories_74 (by decide) rfl (fun hq_15 => ?_) (fun hq_15 => ?_)
      · replace h := Eq.mp (if_neg hq_15) h
        obtain ⟨x3_16, hx_17⟩ : ∃ y : Int32, y = x3 + 1 := ⟨_, rfl⟩
        replace h := h x3_16 hx_17
        refine f_iinc C (j := 3) (v := x3_16) (lv2 := [(3, .int x3_16), (0, .ref (B + 101)), (1, .int x1), (2, .int x2)]) dX12_countsHistories_96 rfl hx_17.symm (by decide) rfl rfl ?_
        refine f_goto C (t := 42) dX12_countsHistories_99 (by decide) ?_
        refine f_lv C (lv2 := [(0, .ref (B + 101)), (1, .int x1), (2, .int x2), (3, .int x3_16)]) [1, 2, 3, 0] rfl ?_
        exact hK42 _ _ h
      · replace h := Eq.mp (if_pos hq_15) h
        refine f_aload_n C (j := 0) dX12_countsHistories_77 rfl rfl rfl ?_
        refine f_getc C tF_X12_65 rfl o101 cs101_36 (by decide) dX12_countsHistories_78 rfl ?_
        refine f_iload_n C (j := 2) dX12_countsHistories_81 rfl rfl rfl ?_
        refine f_iconst C (v := 1) dX12_countsHistories_82 kc1 rfl ?_
        refine f_iload_n C (j := 3) dX12_countsHistories_83 rfl rfl rfl ?_
        refine f_ishl C dX12_countsHistories_84 rfl ?_
        refine f_ior C dX12_countsHistories_85 rfl ?_
        refine f_dup2 C dX12_countsHistories_86 rfl rfl rfl ?_
        obtain ⟨hi_18, h⟩ := h
        refine f_lald C (j := tn (x2 ||| (1 <<< (x3 &&& 31)))) a116 hi_18 rfl dX12_countsHistories_87 rfl ?_
        refine f_aload_n C (j := 0) dX12_countsHistories_88 rfl rfl rfl ?_
        refine f_getc C tF_X12_65 rfl o101 cs101_36 (by decide) dX12_countsHistories_89 rfl ?_
        refine f_iload_n C (j := 2) dX12_countsHistories_92 rfl rfl rfl ?_
        obtain ⟨hi_19, h⟩ := h
        refine f_lald C (j := tn x2) a116 hi_19 rfl dX12_countsHistories_93 rfl ?_
        refine f_ladd C dX12_countsHistories_94 rfl ?_
        refine f_last C (j := tn (x2 ||| (1 <<< (x3 &&& 31)))) a116 hi_18 rfl dX12_countsHistories_95 rfl ?_
        obtain ⟨x3_20, hx_21⟩ : ∃ y : Int32, y = x3 + 1 := ⟨_, rfl⟩
        replace h := h x3_20 hx_21
        refine f_iinc C (j := 3) (v := x3_20) (lv2 := [(3, .int x3_20), (0, .ref (B + 101)), (1, .int x1), (2, .int x2)]) dX12_countsHistories_96 rfl hx_21.symm (by decide) rfl rfl ?_
        refine f_goto C (t := 42) dX12_countsHistories_99 (by decide) ?_
        refine f_lv C (lv2 := [(0, .ref (B + 101)), (1, .int x1), (2, .int x2), (3, .int x3_20)]) [1, 2, 3, 0] rfl ?_
        exact hK42 _ _ h
def w_X12_countsHistories_35 (K35 : Int32 × Sto → Prop) (x1 : Int32) (x2 : Int32) (σ : Sto) (P : Int64 → Sto → Prop) : Prop :=
  (if x1 ≤ x2 then vp_in x1 4096 ∧ P (gl σ 116 (tn x1)) σ else Lp (fun (K : Int32 × Sto → Prop) s => w_X12_countsHistories_42 K35 K x1 x2 s.1 s.2 P) (0, σ))
theorem s_X12_countsHistories_35 {B : Nat} {E : Nat → List (Nat × Value) → List Value → Sto → Prop} {P : Int64 → Sto → Prop} (C : Cy B E RX12 cX12_countsHistories 4 (some .long) 1 21 (Zm (QFl P))) (x1 : Int32) (x2 : Int32) (K35 : Int32 × Sto → Prop) (hK35 : ∀ (x2 : Int32) (σ : Sto), K35 (x2, σ) → E 35 [(0, .ref (B + 101)), (1, .int x1), (2, .int x2)] [] σ) (σ : Sto) (h : w_X12_countsHistories_35 K35 x1 x2 σ P) : E 35 [(0, .ref (B + 101)), (1, .int x1), (2, .int x2)] [] σ := by
  unfold w_X12_countsHistories_35 at h
  refine f_iload_n C (j := 2) dX12_countsHistories_35 rfl rfl rfl ?_
  refine f_iload_n C (j := 1) dX12_countsHistories_36 rfl rfl rfl ?_
  refine f_icmp_ge C (t := 108) dX12_countsHistories_37 (by decide) rfl (fun hq_4 => ?_) (fun hq_4 => ?_)
  · replace h := Eq.mp (if_pos hq_4) h
    refine f_aload_n C (j := 0) dX12_countsHistories_108 rfl rfl rfl ?_
    refine f_getc C tF_X12_65 rfl o101 cs101_36 (by decide) dX12_countsHistories_109 rfl ?_
    refine f_iload_n C (j := 1) dX12_countsHistories_112 rfl rfl rfl ?_
    obtain ⟨hi_5, h⟩ := h
    refine f_lald C (j := tn x1) a116 hi_5 rfl dX12_countsHistories_113 rfl ?_
    exact f_lret C dX12_countsHistories_114 h
  · replace h := Eq.mp (if_neg hq_4) h
    refine f_iconst C (v := 0) dX12_countsHistories_40 kc0 rfl ?_
    refine f_istore_n C (lv2 := [(3, .int 0), (0, .ref (B + 101)), (1, .int x1), (2, .int x2)]) dX12_countsHistories_41 rfl (by decide) rfl rfl ?_
    refine f_lv C (lv2 := [(0, .ref (B + 101)), (1, .int x1), (2, .int x2), (3, .int 0)]) [1, 2, 3, 0] rfl ?_
    exact Lp_sound (fun s : Int32 × Sto => E 42 [(0, .ref (B + 101)), (1, .int x1), (2, .int x2), (3, .int s.1)] [] s.2) h (fun K s hK h => s_X12_countsHistories_42 C x1 x2 s.1 K35 K hK35 (fun x3 σ hk => hK (x3, σ) hk) s.2 h)
def w_X12_countsHistories_7 (K7 : Int32 × Sto → Prop) (x1 : Int32) (x2 : Int32) (σ : Sto) (P : Int64 → Sto → Prop) : Prop :=
  (if x1 < x2 then Lp (fun (K : Int32 × Sto → Prop) s => w_X12_countsHistories_35 K x1 s.1 s.2 P) (0, σ) else (if x2 = 0 then vp_in x2 4096 ∧ ∀ x2_27 : Int32, x2_27 = x2 + 1 → K7 (x2_27, sl σ 116 (tn x2) 1) else vp_in x2 4096 ∧ ∀ x2_24 : Int32, x2_24 = x2 + 1 → K7 (x2_24, sl σ 116 (tn x2) 0)))
theorem s_X12_countsHistories_7 {B : Nat} {E : Nat → List (Nat × Value) → List Value → Sto → Prop} {P : Int64 → Sto → Prop} (C : Cy B E RX12 cX12_countsHistories 4 (some .long) 1 21 (Zm (QFl P))) (x1 : Int32) (x2 : Int32) (K7 : Int32 × Sto → Prop) (hK7 : ∀ (x2 : Int32) (σ : Sto), K7 (x2, σ) → E 7 [(0, .ref (B + 101)), (1, .int x1), (2, .int x2)] [] σ) (σ : Sto) (h : w_X12_countsHistories_7 K7 x1 x2 σ P) : E 7 [(0, .ref (B + 101)), (1, .int x1), (2, .int x2)] [] σ := by
  unfold w_X12_countsHistories_7 at h
  refine f_iload_n C (j := 2) dX12_countsHistories_7 rfl rfl rfl ?_
  refine f_iload_n C (j := 1) dX12_countsHistories_8 rfl rfl rfl ?_
  refine f_icmp_gt C (t := 33) dX12_countsHistories_9 (by decide) rfl (fun hq_3 => ?_) (fun hq_3 => ?_)
  · replace h := Eq.mp (if_pos hq_3) h
    refine f_iconst C (v := 0) dX12_countsHistories_33 kc0 rfl ?_
    refine f_istore_n C (lv2 := [(2, .int 0), (0, .ref (B + 101)), (1, .int x1)]) dX12_countsHistories_34 rfl (by decide) rfl rfl ?_
    refine f_lv C (lv2 := [(0, .ref (B + 101)), (1, .int x1), (2, .int 0)]) [1, 2, 0] rfl ?_
    exact Lp_sound (fun s : Int32 × Sto => E 35 [(0, .ref (B + 101)), (1, .int x1), (2, .int s.1)] [] s.2) h (fun K s hK h => s_X12_countsHistories_35 C x1 s.1 K (fun x2 σ hk => hK (x2, σ) hk) s.2 h)
  · replace h := Eq.mp (if_neg hq_3) h
    refine f_aload_n C (j := 0) dX12_countsHistories_12 rfl rfl rfl ?_
    refine f_getc C tF_X12_65 rfl o101 cs101_36 (by decide) dX12_countsHistories_13 rfl ?_
    refine f_iload_n C (j := 2) dX12_countsHistories_16 rfl rfl rfl ?_
    refine f_iload_n C (j := 2) dX12_countsHistories_17 rfl rfl rfl ?_
    refine f_if_ne C (t := 25) dX12_countsHistories_18 (by decide) rfl (fun hq_22 => ?_) (fun hq_22 => ?_)
    · replace h := Eq.mp (if_neg hq_22) h
      refine f_lconst C (v := 0) dX12_countsHistories_25 (by decide) rfl ?_
      obtain ⟨hi_23, h⟩ := h
      refine f_last C (j := tn x2) a116 hi_23 rfl dX12_countsHistories_26 rfl ?_
      obtain ⟨x2_24, hx_25⟩ : ∃ y : Int32, y = x2 + 1 := ⟨_, rfl⟩
      replace h := h x2_24 hx_25
      refine f_iinc C (j := 2) (v := x2_24) (lv2 := [(2, .int x2_24), (0, .ref (B + 101)), (1, .int x1)]) dX12_countsHistories_27 rfl hx_25.symm (by decide) rfl rfl ?_
      refine f_goto C (t := 7) dX12_countsHistories_30 (by decide) ?_
      refine f_lv C (lv2 := [(0, .ref (B + 101)), (1, .int x1), (2, .int x2_24)]) [1, 2, 0] rfl ?_
      exact hK7 _ _ h
    · replace h := Eq.mp (if_pos hq_22) h
      refine f_lconst C (v := 1) dX12_countsHistories_21 (by decide) rfl ?_
      refine f_goto C (t := 26) dX12_countsHistories_22 (by decide) ?_
      obtain ⟨hi_26, h⟩ := h
      refine f_last C (j := tn x2) a116 hi_26 rfl dX12_countsHistories_26 rfl ?_
      obtain ⟨x2_27, hx_28⟩ : ∃ y : Int32, y = x2 + 1 := ⟨_, rfl⟩
      replace h := h x2_27 hx_28
      refine f_iinc C (j := 2) (v := x2_27) (lv2 := [(2, .int x2_27), (0, .ref (B + 101)), (1, .int x1)]) dX12_countsHistories_27 rfl hx_28.symm (by decide) rfl rfl ?_
      refine f_goto C (t := 7) dX12_countsHistories_30 (by decide) ?_
      refine f_lv C (lv2 := [(0, .ref (B + 101)), (1, .int x1), (2, .int x2_27)]) [1, 2, 0] rfl ?_
      exact hK7 _ _ h
def w_X12_countsHistories (σ : Sto) (P : Int64 → Sto → Prop) : Prop :=
  w_X12_allThings σ (fun r_2 σ_1 => Lp (fun (K : Int32 × Sto → Prop) s => w_X12_countsHistories_7 K r_2 s.1 s.2 P) (0, σ_1))
theorem s_X12_countsHistories {B : Nat} {E : Nat → List (Nat × Value) → List Value → Sto → Prop} {P : Int64 → Sto → Prop} (C : Cy B E RX12 cX12_countsHistories 4 (some .long) 1 21 (Zm (QFl P))) (σ : Sto) (h : w_X12_countsHistories σ P) : E 0 [(0, .ref (B + 101))] [] σ := by
  unfold w_X12_countsHistories at h
  refine f_aload_n C (j := 0) dX12_countsHistories_0 rfl rfl rfl ?_
  refine f_callVi C (a := 101) (ci := 12) (As := fun B => []) o101 rfl (c_X12_allThings   _ _ h) tM_X12_313 tI_X12_allThings tS_X12_allThings tN_X12 tC_X12_allThings 0 dd_X12_allThings rfl (by decide) (by decide) rfl (Nat.le_of_ble_eq_true rfl) dX12_countsHistories_1 rfl (fun r_2 σ_1 h => ?_)
  refine f_istore_n C (lv2 := [(1, .int r_2), (0, .ref (B + 101))]) dX12_countsHistories_4 rfl (by decide) rfl rfl ?_
  refine f_iconst C (v := 0) dX12_countsHistories_5 kc0 rfl ?_
  refine f_istore_n C (lv2 := [(2, .int 0), (1, .int r_2), (0, .ref (B + 101))]) dX12_countsHistories_6 rfl (by decide) rfl rfl ?_
  refine f_lv C (lv2 := [(0, .ref (B + 101)), (1, .int r_2), (2, .int 0)]) [2, 1, 0] rfl ?_
  exact Lp_sound (fun s : Int32 × Sto => E 7 [(0, .ref (B + 101)), (1, .int r_2), (2, .int s.1)] [] s.2) h (fun K s hK h => s_X12_countsHistories_7 C r_2 s.1 K (fun x2 σ hk => hK (x2, σ) hk) s.2 h)
theorem c_X12_countsHistories (σ : Sto) (P : Int64 → Sto → Prop) (h : w_X12_countsHistories σ P) : Ct yX12_countsHistories cX12_countsHistories 4 (some .long) 1 21 (fun B => [.ref (B + 101)]) σ (QFl P) := Ct.of (by decide) (fun _ => Nat.le_of_ble_eq_true rfl) (fun B E C => s_X12_countsHistories C σ h)
def w_X12_histories (σ : Sto) (P : Int64 → Sto → Prop) : Prop :=
  w_X12_countsHistories (si (si σ 101 1 0) 101 0 0) (fun r_2 σ_1 => P r_2 σ_1)
theorem s_X12_histories {B : Nat} {E : Nat → List (Nat × Value) → List Value → Sto → Prop} {P : Int64 → Sto → Prop} (C : Cy B E RX12 cX12_histories 1 (some .long) 2 44 (Zm (QFl P))) (σ : Sto) (h : w_X12_histories σ P) : E 0 [(0, .ref (B + 101))] [] σ := by
  unfold w_X12_histories at h
  refine f_aload_n C (j := 0) dX12_histories_0 rfl rfl rfl ?_
  refine f_iconst C (v := 0) dX12_histories_1 kc0 rfl ?_
  refine f_puti C tF_X12_74 fm_12_1 rfl o101 dX12_histories_2 rfl ?_
  refine f_aload_n C (j := 0) dX12_histories_5 rfl rfl rfl ?_
  refine f_iconst C (v := 0) dX12_histories_6 kc0 rfl ?_
  refine f_puti C tF_X12_77 fm_12_0 rfl o101 dX12_histories_7 rfl ?_
  refine f_aload_n C (j := 0) dX12_histories_10 rfl rfl rfl ?_
  refine f_callVl C (a := 101) (ci := 12) (As := fun B => []) o101 rfl (c_X12_countsHistories   _ _ h) tM_X12_454 tI_X12_countsHistories tS_X12_countsHistories tN_X12 tC_X12_countsHistories 0 dd_X12_countsHistories rfl (by decide) (by decide) rfl (Nat.le_of_ble_eq_true rfl) dX12_histories_11 rfl (fun r_2 σ_1 h => ?_)
  exact f_lret C dX12_histories_14 h
theorem c_X12_histories (σ : Sto) (P : Int64 → Sto → Prop) (h : w_X12_histories σ P) : Ct yX12_histories cX12_histories 1 (some .long) 2 44 (fun B => [.ref (B + 101)]) σ (QFl P) := Ct.of (by decide) (fun _ => Nat.le_of_ble_eq_true rfl) (fun B E C => s_X12_histories C σ h)
def w_X12_firsts_25 (K25 : Int32 × Int32 × Sto → Prop) (x1 : Int32) (x2 : Int32) (σ : Sto) (P : Int32 → Sto → Prop) : Prop :=
  (if (gi σ 106 0) ≤ x2 then P x1 σ else vp_in (130 + x2) 2105 ∧ (if (gi σ 106 (tn (130 + x2))) = 0 then ∀ x1_11 : Int32, x1_11 = x1 ||| (1 <<< (x2 &&& 31)) → ∀ x2_13 : Int32, x2_13 = x2 + 1 → K25 (x1_11, x2_13, σ) else ∀ x1_7 : Int32, x1_7 = x1 ||| 0 → ∀ x2_9 : Int32, x2_9 = x2 + 1 → K25 (x1_7, x2_9, σ)))
theorem s_X12_firsts_25 {B : Nat} {E : Nat → List (Nat × Value) → List Value → Sto → Prop} {P : Int32 → Sto → Prop} (C : Cy B E RX12 cX12_firsts 3 (some .int) 2 44 (Zm (QFi P))) (x1 : Int32) (x2 : Int32) (K25 : Int32 × Int32 × Sto → Prop) (hK25 : ∀ (x1 : Int32) (x2 : Int32) (σ : Sto), K25 (x1, x2, σ) → E 25 [(0, .ref (B + 101)), (1, .int x1), (2, .int x2)] [] σ) (σ : Sto) (h : w_X12_firsts_25 K25 x1 x2 σ P) : E 25 [(0, .ref (B + 101)), (1, .int x1), (2, .int x2)] [] σ := by
  unfold w_X12_firsts_25 at h
  refine f_iload_n C (j := 2) dX12_firsts_25 rfl rfl rfl ?_
  refine f_aload_n C (j := 0) dX12_firsts_26 rfl rfl rfl ?_
  refine f_getc C tF_X12_35 rfl o101 cs101_20 (by decide) dX12_firsts_27 rfl ?_
  refine f_iconst C (v := 0) dX12_firsts_30 kc0 rfl ?_
  refine f_iald C (j := 0) a106 (vp_lit (by decide)) rfl dX12_firsts_31 rfl ?_
  refine f_icmp_ge C (t := 64) dX12_firsts_32 (by decide) rfl (fun hq_4 => ?_) (fun hq_4 => ?_)
  · replace h := Eq.mp (if_pos hq_4) h
    refine f_iload_n C (j := 1) dX12_firsts_64 rfl rfl rfl ?_
    exact f_iret C dX12_firsts_65 h
  · replace h := Eq.mp (if_neg hq_4) h
    refine f_iload_n C (j := 1) dX12_firsts_35 rfl rfl rfl ?_
    refine f_aload_n C (j := 0) dX12_firsts_36 rfl rfl rfl ?_
    refine f_getc C tF_X12_35 rfl o101 cs101_20 (by decide) dX12_firsts_37 rfl ?_
    refine f_sipush C (v := 130) dX12_firsts_40 ks130 rfl ?_
    refine f_iload_n C (j := 2) dX12_firsts_43 rfl rfl rfl ?_
    refine f_iadd C dX12_firsts_44 rfl ?_
    obtain ⟨hi_5, h⟩ := h
    refine f_iald C (j := tn (130 + x2)) a106 hi_5 rfl dX12_firsts_45 rfl ?_
    refine f_if_ne C (t := 55) dX12_firsts_46 (by decide) rfl (fun hq_6 => ?_) (fun hq_6 => ?_)
    · replace h := Eq.mp (if_neg hq_6) h
      refine f_iconst C (v := 0) dX12_firsts_55 kc0 rfl ?_
      refine f_ior C dX12_firsts_56 rfl ?_
      refine f_name (fun x1_7 hx_8 => ?_)
      replace h := h x1_7 hx_8
      refine f_istore_n C (lv2 := [(1, .int x1_7), (0, .ref (B + 101)), (2, .int x2)]) dX12_firsts_57 rfl (by decide) rfl rfl ?_
      obtain ⟨x2_9, hx_10⟩ : ∃ y : Int32, y = x2 + 1 := ⟨_, rfl⟩
      replace h := h x2_9 hx_10
      refine f_iinc C (j := 2) (v := x2_9) (lv2 := [(2, .int x2_9), (1, .int x1_7), (0, .ref (B + 101))]) dX12_firsts_58 rfl hx_10.symm (by decide) rfl rfl ?_
      refine f_goto C (t := 25) dX12_firsts_61 (by decide) ?_
      refine f_lv C (lv2 := [(0, .ref (B + 101)), (1, .int x1_7), (2, .int x2_9)]) [2, 1, 0] rfl ?_
      exact hK25 _ _ _ h
    · replace h := Eq.mp (if_pos hq_6) h
      refine f_iconst C (v := 1) dX12_firsts_49 kc1 rfl ?_
      refine f_iload_n C (j := 2) dX12_firsts_50 rfl rfl rfl ?_
      refine f_ishl C dX12_firsts_51 rfl ?_
      refine f_goto C (t := 56) dX12_firsts_52 (by decide) ?_
      refine f_ior C dX12_firsts_56 rfl ?_
      refine f_name (fun x1_11 hx_12 => ?_)
      replace h := h x1_11 hx_12
      refine f_istore_n C (lv2 := [(1, .int x1_11), (0, .ref (B + 101)), (2, .int x2)]) dX12_firsts_57 rfl (by decide) rfl rfl ?_
      obtain ⟨x2_13, hx_14⟩ : ∃ y : Int32, y = x2 + 1 := ⟨_, rfl⟩
      replace h := h x2_13 hx_14
      refine f_iinc C (j := 2) (v := x2_13) (lv2 := [(2, .int x2_13), (1, .int x1_11), (0, .ref (B + 101))]) dX12_firsts_58 rfl hx_14.symm (by decide) rfl rfl ?_
      refine f_goto C (t := 25) dX12_firsts_61 (by decide) ?_
      refine f_lv C (lv2 := [(0, .ref (B + 101)), (1, .int x1_11), (2, .int x2_13)]) [2, 1, 0] rfl ?_
      exact hK25 _ _ _ h
def w_X12_firsts (σ : Sto) (P : Int32 → Sto → Prop) : Prop :=
  w_X12_countsHistories (si (si σ 101 1 0) 101 0 0) (fun r_2 σ_1 => (if (lg_cmp r_2 0) = 0 then P 0 σ_1 else Lp (fun (K : Int32 × Int32 × Sto → Prop) s => w_X12_firsts_25 K s.1 s.2.1 s.2.2 P) (0, 0, σ_1)))
theorem s_X12_firsts {B : Nat} {E : Nat → List (Nat × Value) → List Value → Sto → Prop} {P : Int32 → Sto → Prop} (C : Cy B E RX12 cX12_firsts 3 (some .int) 2 44 (Zm (QFi P))) (σ : Sto) (h : w_X12_firsts σ P) : E 0 [(0, .ref (B + 101))] [] σ := by
  unfold w_X12_firsts at h
  refine f_aload_n C (j := 0) dX12_firsts_0 rfl rfl rfl ?_
  refine f_iconst C (v := 0) dX12_firsts_1 kc0 rfl ?_
  refine f_puti C tF_X12_74 fm_12_1 rfl o101 dX12_firsts_2 rfl ?_
  refine f_aload_n C (j := 0) dX12_firsts_5 rfl rfl rfl ?_
  refine f_iconst C (v := 0) dX12_firsts_6 kc0 rfl ?_
  refine f_puti C tF_X12_77 fm_12_0 rfl o101 dX12_firsts_7 rfl ?_
  refine f_aload_n C (j := 0) dX12_firsts_10 rfl rfl rfl ?_
  refine f_callVl C (a := 101) (ci := 12) (As := fun B => []) o101 rfl (c_X12_countsHistories   _ _ h) tM_X12_454 tI_X12_countsHistories tS_X12_countsHistories tN_X12 tC_X12_countsHistories 0 dd_X12_countsHistories rfl (by decide) (by decide) rfl (Nat.le_of_ble_eq_true rfl) dX12_firsts_11 rfl (fun r_2 σ_1 h => ?_)
  refine f_lconst C (v := 0) dX12_firsts_14 (by decide) rfl ?_
  refine f_lcmp C dX12_firsts_15 rfl ?_
  refine f_if_ne C (t := 21) dX12_firsts_16 (by decide) rfl (fun hq_3 => ?_) (fun hq_3 => ?_)
  · replace h := Eq.mp (if_neg hq_3) h
    refine f_iconst C (v := 0) dX12_firsts_21 kc0 rfl ?_
    refine f_istore_n C (lv2 := [(1, .int 0), (0, .ref (B + 101))]) dX12_firsts_22 rfl (by decide) rfl rfl ?_
    refine f_iconst C (v := 0) dX12_firsts_23 kc0 rfl ?_
    refine f_istore_n C (lv2 := [(2, .int 0), (1, .int 0), (0, .ref (B + 101))]) dX12_firsts_24 rfl (by decide) rfl rfl ?_
    refine f_lv C (lv2 := [(0, .ref (B + 101)), (1, .int 0), (2, .int 0)]) [2, 1, 0] rfl ?_
    exact Lp_sound (fun s : Int32 × Int32 × Sto => E 25 [(0, .ref (B + 101)), (1, .int s.1), (2, .int s.2.1)] [] s.2.2) h (fun K s hK h => s_X12_firsts_25 C s.1 s.2.1 K (fun x1 x2 σ hk => hK (x1, x2, σ) hk) s.2.2 h)
  · replace h := Eq.mp (if_pos hq_3) h
    refine f_iconst C (v := 0) dX12_firsts_19 kc0 rfl ?_
    exact f_iret C dX12_firsts_20 h
theorem c_X12_firsts (σ : Sto) (P : Int32 → Sto → Prop) (h : w_X12_firsts σ P) : Ct yX12_firsts cX12_firsts 3 (some .int) 2 44 (fun B => [.ref (B + 101)]) σ (QFi P) := Ct.of (by decide) (fun _ => Nat.le_of_ble_eq_true rfl) (fun B E C => s_X12_firsts C σ h)
def w_X12_clash_31 (K17 : Int32 × Sto → Prop) (K31 : Int32 × Sto → Prop) (x1 : Int32) (x2 : Int32) (x3 : Int32) (σ : Sto) (P : Int32 → Sto → Prop) : Prop :=
  (if (gi σ 106 0) ≤ x3 then ∀ x2_7 : Int32, x2_7 = x2 + 1 → K17 (x2_7, σ) else w_X12_has x2 x3 σ (fun r_10 σ_9 => (if r_10 = 0 then ∀ x3_26 : Int32, x3_26 = x3 + 1 → K31 (x3_26, σ_9) else ∀ x4_12 : Int32, x4_12 = x2 &&& (~~~(1 <<< (x3 &&& 31))) → vp_in x4_12 4096 ∧ vp_in (130 + x3) 2105 ∧ w_X12_sizeOf ((gi σ_9 106 (tn (130 + x3))) &&& (~~~x4_12)) σ_9 (fun r_17 σ_16 => ∀ x5_18 : Int32, x5_18 = (gi σ_9 117 (tn x4_12)) + r_17 → vp_in x2 4096 ∧ (if 0 ≤ (gi σ_16 117 (tn x2)) then ∀ x3_22 : Int32, x3_22 = x3 + 1 → K31 (x3_22, si σ_16 117 (tn x2) (if x5_18 < (gi σ_16 117 (tn x2)) then x5_18 else (gi σ_16 117 (tn x2)))) else ∀ x3_24 : Int32, x3_24 = x3 + 1 → K31 (x3_24, si σ_16 117 (tn x2) x5_18))))))
theorem s_X12_clash_31 {B : Nat} {E : Nat → List (Nat × Value) → List Value → Sto → Prop} {P : Int32 → Sto → Prop} (C : Cy B E RX12 cX12_clash 6 (some .int) 2 43 (Zm (QFi P))) (x1 : Int32) (x2 : Int32) (x3 : Int32) (K17 : Int32 × Sto → Prop) (K31 : Int32 × Sto → Prop) (hK17 : ∀ (x2 : Int32) (σ : Sto), K17 (x2, σ) → E 17 [(0, .ref (B + 101)), (1, .int x1), (2, .int x2)] [] σ) (hK31 : ∀ (x3 : Int32) (σ : Sto), K31 (x3, σ) → E 31 [(0, .ref (B + 101)), (1, .int x1), (2, .int x2), (3, .int x3)] [] σ) (σ : Sto) (h : w_X12_clash_31 K17 K31 x1 x2 x3 σ P) : E 31 [(0, .ref (B + 101)), (1, .int x1), (2, .int x2), (3, .int x3)] [] σ := by
  unfold w_X12_clash_31 at h
  refine f_iload_n C (j := 3) dX12_clash_31 rfl rfl rfl ?_
  refine f_aload_n C (j := 0) dX12_clash_32 rfl rfl rfl ?_
  refine f_getc C tF_X12_35 rfl o101 cs101_20 (by decide) dX12_clash_33 rfl ?_
  refine f_iconst C (v := 0) dX12_clash_36 kc0 rfl ?_
  refine f_iald C (j := 0) a106 (vp_lit (by decide)) rfl dX12_clash_37 rfl ?_
  refine f_icmp_ge C (t := 126) dX12_clash_38 (by decide) rfl (fun hq_6 => ?_) (fun hq_6 => ?_)
  · replace h := Eq.mp (if_pos hq_6) h
    obtain ⟨x2_7, hx_8⟩ : ∃ y : Int32, y = x2 + 1 := ⟨_, rfl⟩
    replace h := h x2_7 hx_8
    refine f_iinc C (j := 2) (v := x2_7) (lv2 := [(2, .int x2_7), (0, .ref (B + 101)), (1, .int x1), (3, .int x3)]) dX12_clash_126 rfl hx_8.symm (by decide) rfl rfl ?_
    refine f_goto C (t := 17) dX12_clash_129 (by decide) ?_
    refine f_lv C (lv2 := [(0, .ref (B + 101)), (1, .int x1), (2, .int x2_7)]) [1, 2, 0] rfl ?_
    exact hK17 _ _ h
  · replace h := Eq.mp (if_neg hq_6) h
    refine f_iload_n C (j := 2) dX12_clash_41 rfl rfl rfl ?_
    refine f_iload_n C (j := 3) dX12_clash_42 rfl rfl rfl ?_
    refine f_callSi C (As := fun B => [.int x2, .int x3]) (c_X12_has  _ _ _ _ h) tM_X12_113 tT_X12_has tN_X12 tC_X12_has 2 dd_X12_has rfl (by decide) (by decide) rfl (Nat.le_of_ble_eq_true rfl) dX12_clash_43 rfl (fun r_10 σ_9 h => ?_)
    refine f_if_ne C (t := 52) dX12_clash_46 (by decide) rfl (fun hq_11 => ?_) (fun hq_11 => ?_)
    · replace h := Eq.mp (if_neg hq_11) h
      refine f_iload_n C (j := 2) dX12_clash_52 rfl rfl rfl ?_
      refine f_iconst C (v := 1) dX12_clash_53 kc1 rfl ?_
      refine f_iload_n C (j := 3) dX12_clash_54 rfl rfl rfl ?_
      refine f_ishl C dX12_clash_55 rfl ?_
      refine f_iconst C (v := (-1)) dX12_clash_56 kcm1 rfl ?_
      refine f_inot C dX12_clash_57 rfl ?_
      refine f_iand C dX12_clash_58 rfl ?_
      refine f_name (fun x4_12 hx_13 => ?_)
      replace h := h x4_12 hx_13
      refine f_istore C (lv2 := [(4, .int x4_12), (0, .ref (B + 101)), (1, .int x1), (2, .int x2), (3, .int x3)]) dX12_clash_59 (by decide) rfl rfl ?_
      refine f_aload_n C (j := 1) dX12_clash_61 rfl rfl rfl ?_
      refine f_getc C tF_X12_68 rfl o101 cs101_37 (by decide) dX12_clash_62 rfl ?_
      refine f_iload C (j := 0) dX12_clash_65 rfl rfl ?_
      obtain ⟨hi_14, h⟩ := h
      refine f_iald C (j := tn x4_12) a117 hi_14 rfl dX12_clash_67 rfl ?_
      refine f_aload_n C (j := 1) dX12_clash_68 rfl rfl rfl ?_
      refine f_getc C tF_X12_35 rfl o101 cs101_20 (by decide) dX12_clash_69 rfl ?_
      refine f_sipush C (v := 130) dX12_clash_72 ks130 rfl ?_
      refine f_iload_n C (j := 4) dX12_clash_75 rfl rfl rfl ?_
      refine f_iadd C dX12_clash_76 rfl ?_
      obtain ⟨hi_15, h⟩ := h
      refine f_iald C (j := tn (130 + x3)) a106 hi_15 rfl dX12_clash_77 rfl ?_
      refine f_iload C (j := 0) dX12_clash_78 rfl rfl ?_
      refine f_iconst C (v := (-1)) dX12_clash_80 kcm1 rfl ?_
      refine f_inot C dX12_clash_81 rfl ?_
      refine f_iand C dX12_clash_82 rfl ?_
      refine f_callSi C (As := fun B => [.int ((gi σ_9 106 (tn (130 + x3))) &&& (~~~x4_12))]) (c_X12_sizeOf  _ _ _ h) tM_X12_397 tT_X12_sizeOf tN_X12 tC_X12_sizeOf 1 dd_X12_sizeOf rfl (by decide) (by decide) rfl (Nat.le_of_ble_eq_true rfl) dX12_clash_83 rfl (fun r_17 σ_16 h => ?_)
      refine f_iadd C dX12_clash_86 rfl ?_
      refine f_name (fun x5_18 hx_19 => ?_)
      replace h := h x5_18 hx_19
      refine f_istore C (lv2 := [(5, .int x5_18), (4, .int x4_12), (0, .ref (B + 101)), (1, .int x1), (2, .int x2), (3, .int x3)]) dX12_clash_87 (by decide) rfl rfl ?_
      refine f_aload_n C (j := 2) dX12_clash_89 rfl rfl rfl ?_
      refine f_getc C tF_X12_68 rfl o101 cs101_37 (by decide) dX12_clash_90 rfl ?_
      refine f_iload_n C (j := 4) dX12_clash_93 rfl rfl rfl ?_
      refine f_aload_n C (j := 2) dX12_clash_94 rfl rfl rfl ?_
      refine f_getc C tF_X12_68 rfl o101 cs101_37 (by decide) dX12_clash_95 rfl ?_
      refine f_iload_n C (j := 4) dX12_clash_98 rfl rfl rfl ?_
      obtain ⟨hi_20, h⟩ := h
      refine f_iald C (j := tn x2) a117 hi_20 rfl dX12_clash_99 rfl ?_
      refine f_if_ge C (t := 108) dX12_clash_100 (by decide) rfl (fun hq_21 => ?_) (fun hq_21 => ?_)
      · replace h := Eq.mp (if_pos hq_21) h
        refine f_aload_n C (j := 2) dX12_clash_108 rfl rfl rfl ?_
        refine f_getc C tF_X12_68 rfl o101 cs101_37 (by decide) dX12_clash_109 rfl ?_
        refine f_iload_n C (j := 4) dX12_clash_112 rfl rfl rfl ?_
        refine f_iald C (j := tn x2) a117 hi_20 rfl dX12_clash_113 rfl ?_
        refine f_iload C (j := 0) dX12_clash_114 rfl rfl ?_
        refine f_mmin C tM_X12_448 tT_J9_min_7cf53 tN_J9 tC_J9_min_7cf53 (by decide) (by decide) (Nat.le_of_ble_eq_true rfl) dX12_clash_116 rfl ?_
        refine f_iast C (j := tn x2) a117 hi_20 rfl dX12_clash_119 rfl ?_
        obtain ⟨x3_22, hx_23⟩ : ∃ y : Int32, y = x3 + 1 := ⟨_, rfl⟩
        replace h := h x3_22 hx_23
        refine f_iinc C (j := 5) (v := x3_22) (lv2 := [(3, .int x3_22), (5, .int x5_18), (4, .int x4_12), (0, .ref (B + 101)), (1, .int x1), (2, .int x2)]) dX12_clash_120 rfl hx_23.symm (by decide) rfl rfl ?_
        refine f_goto C (t := 31) dX12_clash_123 (by decide) ?_
        refine f_lv C (lv2 := [(0, .ref (B + 101)), (1, .int x1), (2, .int x2), (3, .int x3_22)]) [3, 4, 5, 0] rfl ?_
        exact hK31 _ _ h
      · replace h := Eq.mp (if_neg hq_21) h
        refine f_iload C (j := 0) dX12_clash_103 rfl rfl ?_
        refine f_goto C (t := 119) dX12_clash_105 (by decide) ?_
        refine f_iast C (j := tn x2) a117 hi_20 rfl dX12_clash_119 rfl ?_
        obtain ⟨x3_24, hx_25⟩ : ∃ y : Int32, y = x3 + 1 := ⟨_, rfl⟩
        replace h := h x3_24 hx_25
        refine f_iinc C (j := 5) (v := x3_24) (lv2 := [(3, .int x3_24), (5, .int x5_18), (4, .int x4_12), (0, .ref (B + 101)), (1, .int x1), (2, .int x2)]) dX12_clash_120 rfl hx_25.symm (by decide) rfl rfl ?_
        refine f_goto C (t := 31) dX12_clash_123 (by decide) ?_
        refine f_lv C (lv2 := [(0, .ref (B + 101)), (1, .int x1), (2, .int x2), (3, .int x3_24)]) [3, 4, 5, 0] rfl ?_
        exact hK31 _ _ h
    · replace h := Eq.mp (if_pos hq_11) h
      refine f_goto C (t := 120) dX12_clash_49 (by decide) ?_
      obtain ⟨x3_26, hx_27⟩ : ∃ y : Int32, y = x3 + 1 := ⟨_, rfl⟩
      replace h := h x3_26 hx_27
      refine f_iinc C (j := 3) (v := x3_26) (lv2 := [(3, .int x3_26), (0, .ref (B + 101)), (1, .int x1), (2, .int x2)]) dX12_clash_120 rfl hx_27.symm (by decide) rfl rfl ?_
      refine f_goto C (t := 31) dX12_clash_123 (by decide) ?_
      refine f_lv C (lv2 := [(0, .ref (B + 101)), (1, .int x1), (2, .int x2), (3, .int x3_26)]) [1, 2, 3, 0] rfl ?_
      exact hK31 _ _ h
def w_X12_clash_17 (K17 : Int32 × Sto → Prop) (x1 : Int32) (x2 : Int32) (σ : Sto) (P : Int32 → Sto → Prop) : Prop :=
  (if x1 < x2 then vp_in x1 4096 ∧ P (gi σ 117 (tn x1)) σ else vp_in x2 4096 ∧ Lp (fun (K : Int32 × Sto → Prop) s => w_X12_clash_31 K17 K x1 x2 s.1 s.2 P) (0, si σ 117 (tn x2) (-1)))
theorem s_X12_clash_17 {B : Nat} {E : Nat → List (Nat × Value) → List Value → Sto → Prop} {P : Int32 → Sto → Prop} (C : Cy B E RX12 cX12_clash 6 (some .int) 2 43 (Zm (QFi P))) (x1 : Int32) (x2 : Int32) (K17 : Int32 × Sto → Prop) (hK17 : ∀ (x2 : Int32) (σ : Sto), K17 (x2, σ) → E 17 [(0, .ref (B + 101)), (1, .int x1), (2, .int x2)] [] σ) (σ : Sto) (h : w_X12_clash_17 K17 x1 x2 σ P) : E 17 [(0, .ref (B + 101)), (1, .int x1), (2, .int x2)] [] σ := by
  unfold w_X12_clash_17 at h
  refine f_iload_n C (j := 2) dX12_clash_17 rfl rfl rfl ?_
  refine f_iload_n C (j := 1) dX12_clash_18 rfl rfl rfl ?_
  refine f_icmp_gt C (t := 132) dX12_clash_19 (by decide) rfl (fun hq_3 => ?_) (fun hq_3 => ?_)
  · replace h := Eq.mp (if_pos hq_3) h
    refine f_aload_n C (j := 0) dX12_clash_132 rfl rfl rfl ?_
    refine f_getc C tF_X12_68 rfl o101 cs101_37 (by decide) dX12_clash_133 rfl ?_
    refine f_iload_n C (j := 1) dX12_clash_136 rfl rfl rfl ?_
    obtain ⟨hi_4, h⟩ := h
    refine f_iald C (j := tn x1) a117 hi_4 rfl dX12_clash_137 rfl ?_
    exact f_iret C dX12_clash_138 h
  · replace h := Eq.mp (if_neg hq_3) h
    refine f_aload_n C (j := 0) dX12_clash_22 rfl rfl rfl ?_
    refine f_getc C tF_X12_68 rfl o101 cs101_37 (by decide) dX12_clash_23 rfl ?_
    refine f_iload_n C (j := 2) dX12_clash_26 rfl rfl rfl ?_
    refine f_iconst C (v := (-1)) dX12_clash_27 kcm1 rfl ?_
    obtain ⟨hi_5, h⟩ := h
    refine f_iast C (j := tn x2) a117 hi_5 rfl dX12_clash_28 rfl ?_
    refine f_iconst C (v := 0) dX12_clash_29 kc0 rfl ?_
    refine f_istore_n C (lv2 := [(3, .int 0), (0, .ref (B + 101)), (1, .int x1), (2, .int x2)]) dX12_clash_30 rfl (by decide) rfl rfl ?_
    refine f_lv C (lv2 := [(0, .ref (B + 101)), (1, .int x1), (2, .int x2), (3, .int 0)]) [1, 2, 3, 0] rfl ?_
    exact Lp_sound (fun s : Int32 × Sto => E 31 [(0, .ref (B + 101)), (1, .int x1), (2, .int x2), (3, .int s.1)] [] s.2) h (fun K s hK h => s_X12_clash_31 C x1 x2 s.1 K17 K hK17 (fun x3 σ hk => hK (x3, σ) hk) s.2 h)
def w_X12_clash (σ : Sto) (P : Int32 → Sto → Prop) : Prop :=
  w_X12_allThings (si (si σ 101 1 0) 101 0 0) (fun r_2 σ_1 => Lp (fun (K : Int32 × Sto → Prop) s => w_X12_clash_17 K r_2 s.1 s.2 P) (1, σ_1))
theorem s_X12_clash {B : Nat} {E : Nat → List (Nat × Value) → List Value → Sto → Prop} {P : Int32 → Sto → Prop} (C : Cy B E RX12 cX12_clash 6 (some .int) 2 43 (Zm (QFi P))) (σ : Sto) (h : w_X12_clash σ P) : E 0 [(0, .ref (B + 101))] [] σ := by
  unfold w_X12_clash at h
  refine f_aload_n C (j := 0) dX12_clash_0 rfl rfl rfl ?_
  refine f_iconst C (v := 0) dX12_clash_1 kc0 rfl ?_
  refine f_puti C tF_X12_74 fm_12_1 rfl o101 dX12_clash_2 rfl ?_
  refine f_aload_n C (j := 0) dX12_clash_5 rfl rfl rfl ?_
  refine f_iconst C (v := 0) dX12_clash_6 kc0 rfl ?_
  refine f_puti C tF_X12_77 fm_12_0 rfl o101 dX12_clash_7 rfl ?_
  refine f_aload_n C (j := 0) dX12_clash_10 rfl rfl rfl ?_
  refine f_callVi C (a := 101) (ci := 12) (As := fun B => []) o101 rfl (c_X12_allThings   _ _ h) tM_X12_313 tI_X12_allThings tS_X12_allThings tN_X12 tC_X12_allThings 0 dd_X12_allThings rfl (by decide) (by decide) rfl (Nat.le_of_ble_eq_true rfl) dX12_clash_11 rfl (fun r_2 σ_1 h => ?_)
  refine f_istore_n C (lv2 := [(1, .int r_2), (0, .ref (B + 101))]) dX12_clash_14 rfl (by decide) rfl rfl ?_
  refine f_iconst C (v := 1) dX12_clash_15 kc1 rfl ?_
  refine f_istore_n C (lv2 := [(2, .int 1), (1, .int r_2), (0, .ref (B + 101))]) dX12_clash_16 rfl (by decide) rfl rfl ?_
  refine f_lv C (lv2 := [(0, .ref (B + 101)), (1, .int r_2), (2, .int 1)]) [2, 1, 0] rfl ?_
  exact Lp_sound (fun s : Int32 × Sto => E 17 [(0, .ref (B + 101)), (1, .int r_2), (2, .int s.1)] [] s.2) h (fun K s hK h => s_X12_clash_17 C r_2 s.1 K (fun x2 σ hk => hK (x2, σ) hk) s.2 h)
theorem c_X12_clash (σ : Sto) (P : Int32 → Sto → Prop) (h : w_X12_clash σ P) : Ct yX12_clash cX12_clash 6 (some .int) 2 43 (fun B => [.ref (B + 101)]) σ (QFi P) := Ct.of (by decide) (fun _ => Nat.le_of_ble_eq_true rfl) (fun B E C => s_X12_clash C σ h)
def w_X12_aheadOdds_26 (σ : Sto) (P : Int32 → Sto → Prop) : Prop :=
  w_X12_no 2 σ (fun r_5 σ_4 => (r_5 = 0 ∨ r_5 = 1) ∧ P r_5 σ_4)
theorem s_X12_aheadOdds_26 {B : Nat} {E : Nat → List (Nat × Value) → List Value → Sto → Prop} {P : Int32 → Sto → Prop} (C : Cy B E RX12 cX12_aheadOdds 8 (some .boolean) 2 51 (Zm (QFi P))) (σ : Sto) (h : w_X12_aheadOdds_26 σ P) : E 26 [(0, .ref (B + 101))] [] σ := by
  unfold w_X12_aheadOdds_26 at h
  refine f_aload_n C (j := 0) dX12_aheadOdds_26 rfl rfl rfl ?_
  refine f_iconst C (v := 2) dX12_aheadOdds_27 kc2 rfl ?_
  refine f_callVi C (a := 101) (ci := 12) (As := fun B => [.int 2]) o101 rfl (c_X12_no  _ _ _ h) tM_X12_89 tI_X12_no tS_X12_no tN_X12 tC_X12_no 1 dd_X12_no rfl (by decide) (by decide) rfl (Nat.le_of_ble_eq_true rfl) dX12_aheadOdds_28 rfl (fun r_5 σ_4 h => ?_)
  obtain ⟨hb_6, h⟩ := h
  exact f_zret C hb_6 dX12_aheadOdds_31 h
def w_X12_aheadOdds (x1 : Int32) (x2 : Int32) (σ : Sto) (P : Int32 → Sto → Prop) : Prop :=
  w_X12_isThingAt x1 (si (si σ 101 1 0) 101 0 0) (fun r_2 σ_1 => (if r_2 = 0 then w_X12_aheadOdds_26 σ_1 P else w_X12_isThingAt x2 σ_1 (fun r_8 σ_7 => (if r_8 = 0 then w_X12_aheadOdds_26 σ_7 P else (if x1 = x2 then w_X12_no 9 σ_7 (fun r_26 σ_25 => (r_26 = 0 ∨ r_26 = 1) ∧ P r_26 σ_25) else w_X12_countsHistories σ_7 (fun r_12 σ_11 => (if (lg_cmp r_12 0) = 0 then w_X12_no 8 σ_11 (fun r_23 σ_22 => (r_23 = 0 ∨ r_23 = 1) ∧ P r_23 σ_22) else vp_in (130 + x2) 2105 ∧ ∀ x5_15 : Int32, x5_15 = gi σ_11 106 (tn (130 + x2)) → w_X12_countsHistories (si σ_11 106 (tn (130 + x2)) ((gi σ_11 106 (tn (130 + x2))) ||| (1 <<< (x1 &&& 31)))) (fun r_18 σ_17 => w_X12_fraction r_18 r_12 (si σ_17 106 (tn (130 + x2)) x5_15) (fun r_20 σ_19 => (r_20 = 0 ∨ r_20 = 1) ∧ P r_20 σ_19)))))))))
theorem s_X12_aheadOdds {B : Nat} {E : Nat → List (Nat × Value) → List Value → Sto → Prop} {P : Int32 → Sto → Prop} (C : Cy B E RX12 cX12_aheadOdds 8 (some .boolean) 2 51 (Zm (QFi P))) (x1 : Int32) (x2 : Int32) (σ : Sto) (h : w_X12_aheadOdds x1 x2 σ P) : E 0 [(0, .ref (B + 101)), (1, .int x1), (2, .int x2)] [] σ := by
  unfold w_X12_aheadOdds at h
  refine f_aload_n C (j := 0) dX12_aheadOdds_0 rfl rfl rfl ?_
  refine f_iconst C (v := 0) dX12_aheadOdds_1 kc0 rfl ?_
  refine f_puti C tF_X12_74 fm_12_1 rfl o101 dX12_aheadOdds_2 rfl ?_
  refine f_aload_n C (j := 0) dX12_aheadOdds_5 rfl rfl rfl ?_
  refine f_iconst C (v := 0) dX12_aheadOdds_6 kc0 rfl ?_
  refine f_puti C tF_X12_77 fm_12_0 rfl o101 dX12_aheadOdds_7 rfl ?_
  refine f_aload_n C (j := 0) dX12_aheadOdds_10 rfl rfl rfl ?_
  refine f_iload_n C (j := 1) dX12_aheadOdds_11 rfl rfl rfl ?_
  refine f_callVi C (a := 101) (ci := 12) (As := fun B => [.int x1]) o101 rfl (c_X12_isThingAt  _ _ _ h) tM_X12_339 tI_X12_isThingAt tS_X12_isThingAt tN_X12 tC_X12_isThingAt 1 dd_X12_isThingAt rfl (by decide) (by decide) rfl (Nat.le_of_ble_eq_true rfl) dX12_aheadOdds_12 rfl (fun r_2 σ_1 h => ?_)
  refine f_if_eq C (t := 26) dX12_aheadOdds_15 (by decide) rfl (fun hq_3 => ?_) (fun hq_3 => ?_)
  · replace h := Eq.mp (if_pos hq_3) h
    refine f_lv C (lv2 := [(0, .ref (B + 101))]) [0] rfl ?_
    exact s_X12_aheadOdds_26 C  _ h
  · replace h := Eq.mp (if_neg hq_3) h
    refine f_aload_n C (j := 0) dX12_aheadOdds_18 rfl rfl rfl ?_
    refine f_iload_n C (j := 2) dX12_aheadOdds_19 rfl rfl rfl ?_
    refine f_callVi C (a := 101) (ci := 12) (As := fun B => [.int x2]) o101 rfl (c_X12_isThingAt  _ _ _ h) tM_X12_339 tI_X12_isThingAt tS_X12_isThingAt tN_X12 tC_X12_isThingAt 1 dd_X12_isThingAt rfl (by decide) (by decide) rfl (Nat.le_of_ble_eq_true rfl) dX12_aheadOdds_20 rfl (fun r_8 σ_7 h => ?_)
    refine f_if_ne C (t := 32) dX12_aheadOdds_23 (by decide) rfl (fun hq_9 => ?_) (fun hq_9 => ?_)
    · replace h := Eq.mp (if_neg hq_9) h
      refine f_iload_n C (j := 1) dX12_aheadOdds_32 rfl rfl rfl ?_
      refine f_iload_n C (j := 2) dX12_aheadOdds_33 rfl rfl rfl ?_
      refine f_icmp_ne C (t := 44) dX12_aheadOdds_34 (by decide) rfl (fun hq_10 => ?_) (fun hq_10 => ?_)
      · replace h := Eq.mp (if_neg hq_10) h
        refine f_aload_n C (j := 0) dX12_aheadOdds_44 rfl rfl rfl ?_
        refine f_callVl C (a := 101) (ci := 12) (As := fun B => []) o101 rfl (c_X12_countsHistories   _ _ h) tM_X12_454 tI_X12_countsHistories tS_X12_countsHistories tN_X12 tC_X12_countsHistories 0 dd_X12_countsHistories rfl (by decide) (by decide) rfl (Nat.le_of_ble_eq_true rfl) dX12_aheadOdds_45 rfl (fun r_12 σ_11 h => ?_)
        refine f_lstore_n C (lv2 := [(3, .long r_12), (0, .ref (B + 101)), (1, .int x1), (2, .int x2)]) dX12_aheadOdds_48 rfl (by decide) rfl rfl ?_
        refine f_lload_n C (j := 0) dX12_aheadOdds_49 rfl rfl rfl ?_
        refine f_lconst C (v := 0) dX12_aheadOdds_50 (by decide) rfl ?_
        refine f_lcmp C dX12_aheadOdds_51 rfl ?_
        refine f_if_ne C (t := 62) dX12_aheadOdds_52 (by decide) rfl (fun hq_13 => ?_) (fun hq_13 => ?_)
        · replace h := Eq.mp (if_neg hq_13) h
          refine f_aload_n C (j := 1) dX12_aheadOdds_62 rfl rfl rfl ?_
          refine f_getc C tF_X12_35 rfl o101 cs101_20 (by decide) dX12_aheadOdds_63 rfl ?_
          refine f_sipush C (v := 130) dX12_aheadOdds_66 ks130 rfl ?_
          refine f_iload_n C (j := 3) dX12_aheadOdds_69 rfl rfl rfl ?_
          refine f_iadd C dX12_aheadOdds_70 rfl ?_
          obtain ⟨hi_14, h⟩ := h
          refine f_iald C (j := tn (130 + x2)) a106 hi_14 rfl dX12_aheadOdds_71 rfl ?_
          refine f_name (fun x5_15 hx_16 => ?_)
          replace h := h x5_15 hx_16
          refine f_istore C (lv2 := [(5, .int x5_15), (3, .long r_12), (0, .ref (B + 101)), (1, .int x1), (2, .int x2)]) dX12_aheadOdds_72 (by decide) rfl rfl ?_
          refine f_aload_n C (j := 2) dX12_aheadOdds_74 rfl rfl rfl ?_
          refine f_getc C tF_X12_35 rfl o101 cs101_20 (by decide) dX12_aheadOdds_75 rfl ?_
          refine f_sipush C (v := 130) dX12_aheadOdds_78 ks130 rfl ?_
          refine f_iload_n C (j := 4) dX12_aheadOdds_81 rfl rfl rfl ?_
          refine f_iadd C dX12_aheadOdds_82 rfl ?_
          refine f_dup2 C dX12_aheadOdds_83 rfl rfl rfl ?_
          refine f_iald C (j := tn (130 + x2)) a106 hi_14 rfl dX12_aheadOdds_84 rfl ?_
          refine f_iconst C (v := 1) dX12_aheadOdds_85 kc1 rfl ?_
          refine f_iload_n C (j := 3) dX12_aheadOdds_86 rfl rfl rfl ?_
          refine f_ishl C dX12_aheadOdds_87 rfl ?_
          refine f_ior C dX12_aheadOdds_88 rfl ?_
          refine f_iast C (j := tn (130 + x2)) a106 hi_14 rfl dX12_aheadOdds_89 rfl ?_
          refine f_aload_n C (j := 2) dX12_aheadOdds_90 rfl rfl rfl ?_
          refine f_callVl C (a := 101) (ci := 12) (As := fun B => []) o101 rfl (c_X12_countsHistories   _ _ h) tM_X12_454 tI_X12_countsHistories tS_X12_countsHistories tN_X12 tC_X12_countsHistories 0 dd_X12_countsHistories rfl (by decide) (by decide) rfl (Nat.le_of_ble_eq_true rfl) dX12_aheadOdds_91 rfl (fun r_18 σ_17 h => ?_)
          refine f_lstore C (lv2 := [(6, .long r_18), (5, .int x5_15), (3, .long r_12), (0, .ref (B + 101)), (1, .int x1), (2, .int x2)]) dX12_aheadOdds_94 (by decide) rfl rfl ?_
          refine f_aload_n C (j := 3) dX12_aheadOdds_96 rfl rfl rfl ?_
          refine f_getc C tF_X12_35 rfl o101 cs101_20 (by decide) dX12_aheadOdds_97 rfl ?_
          refine f_sipush C (v := 130) dX12_aheadOdds_100 ks130 rfl ?_
          refine f_iload_n C (j := 5) dX12_aheadOdds_103 rfl rfl rfl ?_
          refine f_iadd C dX12_aheadOdds_104 rfl ?_
          refine f_iload C (j := 1) dX12_aheadOdds_105 rfl rfl ?_
          refine f_iast C (j := tn (130 + x2)) a106 hi_14 rfl dX12_aheadOdds_107 rfl ?_
          refine f_aload_n C (j := 3) dX12_aheadOdds_108 rfl rfl rfl ?_
          refine f_lload C (j := 0) dX12_aheadOdds_109 rfl rfl ?_
          refine f_lload_n C (j := 2) dX12_aheadOdds_111 rfl rfl rfl ?_
          refine f_callVi C (a := 101) (ci := 12) (As := fun B => [.long r_18, .long r_12]) o101 rfl (c_X12_fraction  _ _ _ _ h) tM_X12_458 tI_X12_fraction tS_X12_fraction tN_X12 tC_X12_fraction 2 dd_X12_fraction rfl (by decide) (by decide) rfl (Nat.le_of_ble_eq_true rfl) dX12_aheadOdds_112 rfl (fun r_20 σ_19 h => ?_)
          obtain ⟨hb_21, h⟩ := h
          exact f_zret C hb_21 dX12_aheadOdds_115 h
        · replace h := Eq.mp (if_pos hq_13) h
          refine f_aload_n C (j := 1) dX12_aheadOdds_55 rfl rfl rfl ?_
          refine f_bipush C (v := 8) dX12_aheadOdds_56 kb8 rfl ?_
          refine f_callVi C (a := 101) (ci := 12) (As := fun B => [.int 8]) o101 rfl (c_X12_no  _ _ _ h) tM_X12_89 tI_X12_no tS_X12_no tN_X12 tC_X12_no 1 dd_X12_no rfl (by decide) (by decide) rfl (Nat.le_of_ble_eq_true rfl) dX12_aheadOdds_58 rfl (fun r_23 σ_22 h => ?_)
          obtain ⟨hb_24, h⟩ := h
          exact f_zret C hb_24 dX12_aheadOdds_61 h
      · replace h := Eq.mp (if_pos hq_10) h
        refine f_aload_n C (j := 0) dX12_aheadOdds_37 rfl rfl rfl ?_
        refine f_bipush C (v := 9) dX12_aheadOdds_38 kb9 rfl ?_
        refine f_callVi C (a := 101) (ci := 12) (As := fun B => [.int 9]) o101 rfl (c_X12_no  _ _ _ h) tM_X12_89 tI_X12_no tS_X12_no tN_X12 tC_X12_no 1 dd_X12_no rfl (by decide) (by decide) rfl (Nat.le_of_ble_eq_true rfl) dX12_aheadOdds_40 rfl (fun r_26 σ_25 h => ?_)
        obtain ⟨hb_27, h⟩ := h
        exact f_zret C hb_27 dX12_aheadOdds_43 h
    · replace h := Eq.mp (if_pos hq_9) h
      refine f_lv C (lv2 := [(0, .ref (B + 101))]) [0] rfl ?_
      exact s_X12_aheadOdds_26 C  _ h
theorem c_X12_aheadOdds (x1 : Int32) (x2 : Int32) (σ : Sto) (P : Int32 → Sto → Prop) (h : w_X12_aheadOdds x1 x2 σ P) : Ct yX12_aheadOdds cX12_aheadOdds 8 (some .boolean) 2 51 (fun B => [.ref (B + 101), .int x1, .int x2]) σ (QFi P) := Ct.of (by decide) (fun _ => Nat.le_of_ble_eq_true rfl) (fun B E C => s_X12_aheadOdds C x1 x2 σ h)
def w_X12_draw (x1 : Int32) (σ : Sto) (P : Int32 → Sto → Prop) : Prop :=
  ∀ σ_1 : Sto, σ_1 = si σ 101 41 ((((gi σ 101 41) * 2971) + 10663) - (((gi σ 101 41) * 2971) + 10663) / 65536 * 65536) → ¬ x1 = 0 ∧ P (((gi σ_1 101 41) / 8) - ((gi σ_1 101 41) / 8) / x1 * x1) σ_1
theorem s_X12_draw {B : Nat} {E : Nat → List (Nat × Value) → List Value → Sto → Prop} {P : Int32 → Sto → Prop} (C : Cy B E RX12 cX12_draw 2 (some .int) 0 0 (Zm (QFi P))) (x1 : Int32) (σ : Sto) (h : w_X12_draw x1 σ P) : E 0 [(0, .ref (B + 101)), (1, .int x1)] [] σ := by
  unfold w_X12_draw at h
  refine f_aload_n C (j := 0) dX12_draw_0 rfl rfl rfl ?_
  refine f_aload_n C (j := 0) dX12_draw_1 rfl rfl rfl ?_
  refine f_geti C tF_X12_462 rfl o101 dX12_draw_2 rfl ?_
  refine f_sipush C (v := 2971) dX12_draw_5 ks2971 rfl ?_
  refine f_imul C dX12_draw_8 rfl ?_
  refine f_sipush C (v := 10663) dX12_draw_9 ks10663 rfl ?_
  refine f_iadd C dX12_draw_12 rfl ?_
  refine f_ldc_w C tK_X12_465 dX12_draw_13 rfl ?_
  refine f_irem C dX12_draw_16 (by decide) rfl ?_
  refine f_puti C tF_X12_462 fm_12_41 rfl o101 dX12_draw_17 rfl ?_
  refine f_aload_n C (j := 0) dX12_draw_20 rfl rfl rfl ?_
  refine f_names (fun σ_1 hσ_2 => ?_)
  replace h := h σ_1 hσ_2
  refine f_geti C tF_X12_462 rfl o101 dX12_draw_21 rfl ?_
  refine f_bipush C (v := 8) dX12_draw_24 kb8 rfl ?_
  refine f_idiv C dX12_draw_26 (by decide) rfl ?_
  refine f_iload_n C (j := 1) dX12_draw_27 rfl rfl rfl ?_
  obtain ⟨hz_3, h⟩ := h
  refine f_irem C dX12_draw_28 hz_3 rfl ?_
  exact f_iret C dX12_draw_29 h
theorem c_X12_draw (x1 : Int32) (σ : Sto) (P : Int32 → Sto → Prop) (h : w_X12_draw x1 σ P) : Ct yX12_draw cX12_draw 2 (some .int) 0 0 (fun B => [.ref (B + 101), .int x1]) σ (QFi P) := Ct.of (by decide) (fun _ => Nat.le_of_ble_eq_true rfl) (fun B E C => s_X12_draw C x1 σ h)
def w_X12_missedYears_42 (K20 : Int32 × Int32 × Sto → Prop) (x1 : Int32) (x3 : Int32) (x4 : Int32) (z0 : Int32) (z1 : Int32) (σ : Sto) (P : Int32 → Sto → Prop) : Prop :=
  ∀ x2_6 : Int32, x2_6 = z1 + z0 → (if x4 = 0 then ∀ x3_9 : Int32, x3_9 = x3 + 1 → K20 (x2_6, x3_9, si σ 101 45 ((gi σ 101 45) + 0)) else ∀ x3_11 : Int32, x3_11 = x3 + 1 → K20 (x2_6, x3_11, si σ 101 45 ((gi σ 101 45) + 1)))
theorem s_X12_missedYears_42 {B : Nat} {E : Nat → List (Nat × Value) → List Value → Sto → Prop} {P : Int32 → Sto → Prop} (C : Cy B E RX12 cX12_missedYears 5 (some .int) 6 139 (Zm (QFi P))) (x1 : Int32) (x3 : Int32) (x4 : Int32) (z0 : Int32) (z1 : Int32) (K20 : Int32 × Int32 × Sto → Prop) (hK20 : ∀ (x2 : Int32) (x3 : Int32) (σ : Sto), K20 (x2, x3, σ) → E 20 [(0, .ref (B + 101)), (1, .int x1), (2, .int x2), (3, .int x3)] [] σ) (σ : Sto) (h : w_X12_missedYears_42 K20 x1 x3 x4 z0 z1 σ P) : E 42 [(0, .ref (B + 101)), (1, .int x1), (3, .int x3), (4, .int x4)] [.int z0, .int z1] σ := by
  unfold w_X12_missedYears_42 at h
  refine f_iadd C dX12_missedYears_42 rfl ?_
  refine f_name (fun x2_6 hx_7 => ?_)
  replace h := h x2_6 hx_7
  refine f_istore_n C (lv2 := [(2, .int x2_6), (0, .ref (B + 101)), (1, .int x1), (3, .int x3), (4, .int x4)]) dX12_missedYears_43 rfl (by decide) rfl rfl ?_
  refine f_aload_n C (j := 1) dX12_missedYears_44 rfl rfl rfl ?_
  refine f_dup C dX12_missedYears_45 rfl rfl ?_
  refine f_geti C tF_X12_466 rfl o101 dX12_missedYears_46 rfl ?_
  refine f_iload C (j := 4) dX12_missedYears_49 rfl rfl ?_
  refine f_if_eq C (t := 58) dX12_missedYears_51 (by decide) rfl (fun hq_8 => ?_) (fun hq_8 => ?_)
  · replace h := Eq.mp (if_pos hq_8) h
    refine f_iconst C (v := 0) dX12_missedYears_58 kc0 rfl ?_
    refine f_iadd C dX12_missedYears_59 rfl ?_
    refine f_puti C tF_X12_466 fm_12_45 rfl o101 dX12_missedYears_60 rfl ?_
    obtain ⟨x3_9, hx_10⟩ : ∃ y : Int32, y = x3 + 1 := ⟨_, rfl⟩
    replace h := h x3_9 hx_10
    refine f_iinc C (j := 3) (v := x3_9) (lv2 := [(3, .int x3_9), (2, .int x2_6), (0, .ref (B + 101)), (1, .int x1), (4, .int x4)]) dX12_missedYears_63 rfl hx_10.symm (by decide) rfl rfl ?_
    refine f_goto C (t := 20) dX12_missedYears_66 (by decide) ?_
    refine f_lv C (lv2 := [(0, .ref (B + 101)), (1, .int x1), (2, .int x2_6), (3, .int x3_9)]) [2, 3, 1, 0] rfl ?_
    exact hK20 _ _ _ h
  · replace h := Eq.mp (if_neg hq_8) h
    refine f_iconst C (v := 1) dX12_missedYears_54 kc1 rfl ?_
    refine f_goto C (t := 59) dX12_missedYears_55 (by decide) ?_
    refine f_iadd C dX12_missedYears_59 rfl ?_
    refine f_puti C tF_X12_466 fm_12_45 rfl o101 dX12_missedYears_60 rfl ?_
    obtain ⟨x3_11, hx_12⟩ : ∃ y : Int32, y = x3 + 1 := ⟨_, rfl⟩
    replace h := h x3_11 hx_12
    refine f_iinc C (j := 3) (v := x3_11) (lv2 := [(3, .int x3_11), (2, .int x2_6), (0, .ref (B + 101)), (1, .int x1), (4, .int x4)]) dX12_missedYears_63 rfl hx_12.symm (by decide) rfl rfl ?_
    refine f_goto C (t := 20) dX12_missedYears_66 (by decide) ?_
    refine f_lv C (lv2 := [(0, .ref (B + 101)), (1, .int x1), (2, .int x2_6), (3, .int x3_11)]) [2, 3, 1, 0] rfl ?_
    exact hK20 _ _ _ h
def w_X12_missedYears_20 (K20 : Int32 × Int32 × Sto → Prop) (x1 : Int32) (x2 : Int32) (x3 : Int32) (σ : Sto) (P : Int32 → Sto → Prop) : Prop :=
  (if x1 ≤ x3 then P x2 (si σ 101 44 ((gi σ 101 44) + x1)) else w_X12_goesYear σ (fun r_4 σ_3 => (if r_4 = 0 then w_X12_missedYears_42 K20 x1 x3 r_4 1 x2 σ_3 P else w_X12_missedYears_42 K20 x1 x3 r_4 0 x2 σ_3 P)))
theorem s_X12_missedYears_20 {B : Nat} {E : Nat → List (Nat × Value) → List Value → Sto → Prop} {P : Int32 → Sto → Prop} (C : Cy B E RX12 cX12_missedYears 5 (some .int) 6 139 (Zm (QFi P))) (x1 : Int32) (x2 : Int32) (x3 : Int32) (K20 : Int32 × Int32 × Sto → Prop) (hK20 : ∀ (x2 : Int32) (x3 : Int32) (σ : Sto), K20 (x2, x3, σ) → E 20 [(0, .ref (B + 101)), (1, .int x1), (2, .int x2), (3, .int x3)] [] σ) (σ : Sto) (h : w_X12_missedYears_20 K20 x1 x2 x3 σ P) : E 20 [(0, .ref (B + 101)), (1, .int x1), (2, .int x2), (3, .int x3)] [] σ := by
  unfold w_X12_missedYears_20 at h
  refine f_iload_n C (j := 3) dX12_missedYears_20 rfl rfl rfl ?_
  refine f_iload_n C (j := 1) dX12_missedYears_21 rfl rfl rfl ?_
  refine f_icmp_ge C (t := 69) dX12_missedYears_22 (by decide) rfl (fun hq_2 => ?_) (fun hq_2 => ?_)
  · replace h := Eq.mp (if_pos hq_2) h
    refine f_aload_n C (j := 0) dX12_missedYears_69 rfl rfl rfl ?_
    refine f_dup C dX12_missedYears_70 rfl rfl ?_
    refine f_geti C tF_X12_469 rfl o101 dX12_missedYears_71 rfl ?_
    refine f_iload_n C (j := 1) dX12_missedYears_74 rfl rfl rfl ?_
    refine f_iadd C dX12_missedYears_75 rfl ?_
    refine f_puti C tF_X12_469 fm_12_44 rfl o101 dX12_missedYears_76 rfl ?_
    refine f_iload_n C (j := 2) dX12_missedYears_79 rfl rfl rfl ?_
    exact f_iret C dX12_missedYears_80 h
  · replace h := Eq.mp (if_neg hq_2) h
    refine f_aload_n C (j := 0) dX12_missedYears_25 rfl rfl rfl ?_
    refine f_callVi C (a := 101) (ci := 12) (As := fun B => []) o101 rfl (c_X12_goesYear   _ _ h) tM_X12_377 tI_X12_goesYear tS_X12_goesYear tN_X12 tC_X12_goesYear 0 dd_X12_goesYear rfl (by decide) (by decide) rfl (Nat.le_of_ble_eq_true rfl) dX12_missedYears_26 rfl (fun r_4 σ_3 h => ?_)
    refine f_istore C (lv2 := [(4, .int r_4), (0, .ref (B + 101)), (1, .int x1), (2, .int x2), (3, .int x3)]) dX12_missedYears_29 (by decide) rfl rfl ?_
    refine f_iload_n C (j := 3) dX12_missedYears_31 rfl rfl rfl ?_
    refine f_iload C (j := 0) dX12_missedYears_32 rfl rfl ?_
    refine f_if_eq C (t := 41) dX12_missedYears_34 (by decide) rfl (fun hq_5 => ?_) (fun hq_5 => ?_)
    · replace h := Eq.mp (if_pos hq_5) h
      refine f_iconst C (v := 1) dX12_missedYears_41 kc1 rfl ?_
      refine f_lv C (lv2 := [(0, .ref (B + 101)), (1, .int x1), (3, .int x3), (4, .int r_4)]) [1, 2, 4, 0] rfl ?_
      exact s_X12_missedYears_42 C _ _ _ _ _  K20 hK20 _ h
    · replace h := Eq.mp (if_neg hq_5) h
      refine f_iconst C (v := 0) dX12_missedYears_37 kc0 rfl ?_
      refine f_goto C (t := 42) dX12_missedYears_38 (by decide) ?_
      refine f_lv C (lv2 := [(0, .ref (B + 101)), (1, .int x1), (3, .int x3), (4, .int r_4)]) [1, 2, 4, 0] rfl ?_
      exact s_X12_missedYears_42 C _ _ _ _ _  K20 hK20 _ h
def w_X12_missedYears (x1 : Int32) (σ : Sto) (P : Int32 → Sto → Prop) : Prop :=
  (if ((gi σ 106 5) + x1) ≤ 9999 then Lp (fun (K : Int32 × Int32 × Sto → Prop) s => w_X12_missedYears_20 K x1 s.1 s.2.1 s.2.2 P) (0, 0, σ) else P 1 σ)
theorem s_X12_missedYears {B : Nat} {E : Nat → List (Nat × Value) → List Value → Sto → Prop} {P : Int32 → Sto → Prop} (C : Cy B E RX12 cX12_missedYears 5 (some .int) 6 139 (Zm (QFi P))) (x1 : Int32) (σ : Sto) (h : w_X12_missedYears x1 σ P) : E 0 [(0, .ref (B + 101)), (1, .int x1)] [] σ := by
  unfold w_X12_missedYears at h
  refine f_aload_n C (j := 0) dX12_missedYears_0 rfl rfl rfl ?_
  refine f_getc C tF_X12_35 rfl o101 cs101_20 (by decide) dX12_missedYears_1 rfl ?_
  refine f_iconst C (v := 5) dX12_missedYears_4 kc5 rfl ?_
  refine f_iald C (j := 5) a106 (vp_lit (by decide)) rfl dX12_missedYears_5 rfl ?_
  refine f_iload_n C (j := 1) dX12_missedYears_6 rfl rfl rfl ?_
  refine f_iadd C dX12_missedYears_7 rfl ?_
  refine f_sipush C (v := 9999) dX12_missedYears_8 ks9999 rfl ?_
  refine f_icmp_le C (t := 16) dX12_missedYears_11 (by decide) rfl (fun hq_1 => ?_) (fun hq_1 => ?_)
  · replace h := Eq.mp (if_pos hq_1) h
    refine f_iconst C (v := 0) dX12_missedYears_16 kc0 rfl ?_
    refine f_istore_n C (lv2 := [(2, .int 0), (0, .ref (B + 101)), (1, .int x1)]) dX12_missedYears_17 rfl (by decide) rfl rfl ?_
    refine f_iconst C (v := 0) dX12_missedYears_18 kc0 rfl ?_
    refine f_istore_n C (lv2 := [(3, .int 0), (2, .int 0), (0, .ref (B + 101)), (1, .int x1)]) dX12_missedYears_19 rfl (by decide) rfl rfl ?_
    refine f_lv C (lv2 := [(0, .ref (B + 101)), (1, .int x1), (2, .int 0), (3, .int 0)]) [2, 3, 1, 0] rfl ?_
    exact Lp_sound (fun s : Int32 × Int32 × Sto => E 20 [(0, .ref (B + 101)), (1, .int x1), (2, .int s.1), (3, .int s.2.1)] [] s.2.2) h (fun K s hK h => s_X12_missedYears_20 C x1 s.1 s.2.1 K (fun x2 x3 σ hk => hK (x2, x3, σ) hk) s.2.2 h)
  · replace h := Eq.mp (if_neg hq_1) h
    refine f_iconst C (v := 1) dX12_missedYears_14 kc1 rfl ?_
    exact f_iret C dX12_missedYears_15 h
theorem c_X12_missedYears (x1 : Int32) (σ : Sto) (P : Int32 → Sto → Prop) (h : w_X12_missedYears x1 σ P) : Ct yX12_missedYears cX12_missedYears 5 (some .int) 6 139 (fun B => [.ref (B + 101), .int x1]) σ (QFi P) := Ct.of (by decide) (fun _ => Nat.le_of_ble_eq_true rfl) (fun B E C => s_X12_missedYears C x1 σ h)
def w_X12_isJoked_34 (K22 : Int32 × Int32 × Sto → Prop) (x1 : Int32) (x2 : Int32) (x3 : Int32) (σ : Sto) (P : Int32 → Sto → Prop) : Prop :=
  w_X12_has x1 x3 σ (fun r_12 σ_11 => (if r_12 = 0 then ∀ x2_14 : Int32, x2_14 = x2 - 0 → ∀ x3_16 : Int32, x3_16 = x3 + 1 → K22 (x2_14, x3_16, σ_11) else ∀ x2_18 : Int32, x2_18 = x2 - 1 → ∀ x3_20 : Int32, x3_20 = x3 + 1 → K22 (x2_18, x3_20, σ_11)))
theorem s_X12_isJoked_34 {B : Nat} {E : Nat → List (Nat × Value) → List Value → Sto → Prop} {P : Int32 → Sto → Prop} (C : Cy B E RX12 cX12_isJoked 4 (some .boolean) 5 109 (Zm (QFi P))) (x1 : Int32) (x2 : Int32) (x3 : Int32) (K22 : Int32 × Int32 × Sto → Prop) (hK22 : ∀ (x2 : Int32) (x3 : Int32) (σ : Sto), K22 (x2, x3, σ) → E 22 [(0, .ref (B + 101)), (1, .int x1), (2, .int x2), (3, .int x3)] [] σ) (σ : Sto) (h : w_X12_isJoked_34 K22 x1 x2 x3 σ P) : E 34 [(0, .ref (B + 101)), (1, .int x1), (2, .int x2), (3, .int x3)] [] σ := by
  unfold w_X12_isJoked_34 at h
  refine f_iload_n C (j := 2) dX12_isJoked_34 rfl rfl rfl ?_
  refine f_iload_n C (j := 1) dX12_isJoked_35 rfl rfl rfl ?_
  refine f_iload_n C (j := 3) dX12_isJoked_36 rfl rfl rfl ?_
  refine f_callSi C (As := fun B => [.int x1, .int x3]) (c_X12_has  _ _ _ _ h) tM_X12_113 tT_X12_has tN_X12 tC_X12_has 2 dd_X12_has rfl (by decide) (by decide) rfl (Nat.le_of_ble_eq_true rfl) dX12_isJoked_37 rfl (fun r_12 σ_11 h => ?_)
  refine f_if_eq C (t := 47) dX12_isJoked_40 (by decide) rfl (fun hq_13 => ?_) (fun hq_13 => ?_)
  · replace h := Eq.mp (if_pos hq_13) h
    refine f_iconst C (v := 0) dX12_isJoked_47 kc0 rfl ?_
    refine f_isub C dX12_isJoked_48 rfl ?_
    refine f_name (fun x2_14 hx_15 => ?_)
    replace h := h x2_14 hx_15
    refine f_istore_n C (lv2 := [(2, .int x2_14), (0, .ref (B + 101)), (1, .int x1), (3, .int x3)]) dX12_isJoked_49 rfl (by decide) rfl rfl ?_
    obtain ⟨x3_16, hx_17⟩ : ∃ y : Int32, y = x3 + 1 := ⟨_, rfl⟩
    replace h := h x3_16 hx_17
    refine f_iinc C (j := 3) (v := x3_16) (lv2 := [(3, .int x3_16), (2, .int x2_14), (0, .ref (B + 101)), (1, .int x1)]) dX12_isJoked_50 rfl hx_17.symm (by decide) rfl rfl ?_
    refine f_goto C (t := 22) dX12_isJoked_53 (by decide) ?_
    refine f_lv C (lv2 := [(0, .ref (B + 101)), (1, .int x1), (2, .int x2_14), (3, .int x3_16)]) [2, 3, 1, 0] rfl ?_
    exact hK22 _ _ _ h
  · replace h := Eq.mp (if_neg hq_13) h
    refine f_iconst C (v := 1) dX12_isJoked_43 kc1 rfl ?_
    refine f_goto C (t := 48) dX12_isJoked_44 (by decide) ?_
    refine f_isub C dX12_isJoked_48 rfl ?_
    refine f_name (fun x2_18 hx_19 => ?_)
    replace h := h x2_18 hx_19
    refine f_istore_n C (lv2 := [(2, .int x2_18), (0, .ref (B + 101)), (1, .int x1), (3, .int x3)]) dX12_isJoked_49 rfl (by decide) rfl rfl ?_
    obtain ⟨x3_20, hx_21⟩ : ∃ y : Int32, y = x3 + 1 := ⟨_, rfl⟩
    replace h := h x3_20 hx_21
    refine f_iinc C (j := 3) (v := x3_20) (lv2 := [(3, .int x3_20), (2, .int x2_18), (0, .ref (B + 101)), (1, .int x1)]) dX12_isJoked_50 rfl hx_21.symm (by decide) rfl rfl ?_
    refine f_goto C (t := 22) dX12_isJoked_53 (by decide) ?_
    refine f_lv C (lv2 := [(0, .ref (B + 101)), (1, .int x1), (2, .int x2_18), (3, .int x3_20)]) [2, 3, 1, 0] rfl ?_
    exact hK22 _ _ _ h
def w_X12_isJoked_22 (K22 : Int32 × Int32 × Sto → Prop) (x1 : Int32) (x2 : Int32) (x3 : Int32) (σ : Sto) (P : Int32 → Sto → Prop) : Prop :=
  w_X12_has x1 x3 σ (fun r_9 σ_8 => (if r_9 = 0 then w_X12_isJoked_34 K22 x1 x2 x3 σ_8 P else (if x2 ≤ 0 then ∀ σ_23 : Sto, σ_23 = si σ_8 106 6 ((gi σ_8 106 6) ||| (1 <<< (x3 &&& 31))) → ∀ σ_25 : Sto, σ_25 = si σ_23 101 45 ((gi σ_23 101 45) + 1) → P 1 (si σ_25 101 46 ((gi σ_25 101 46) + 1)) else w_X12_isJoked_34 K22 x1 x2 x3 σ_8 P)))
theorem s_X12_isJoked_22 {B : Nat} {E : Nat → List (Nat × Value) → List Value → Sto → Prop} {P : Int32 → Sto → Prop} (C : Cy B E RX12 cX12_isJoked 4 (some .boolean) 5 109 (Zm (QFi P))) (x1 : Int32) (x2 : Int32) (x3 : Int32) (K22 : Int32 × Int32 × Sto → Prop) (hK22 : ∀ (x2 : Int32) (x3 : Int32) (σ : Sto), K22 (x2, x3, σ) → E 22 [(0, .ref (B + 101)), (1, .int x1), (2, .int x2), (3, .int x3)] [] σ) (σ : Sto) (h : w_X12_isJoked_22 K22 x1 x2 x3 σ P) : E 22 [(0, .ref (B + 101)), (1, .int x1), (2, .int x2), (3, .int x3)] [] σ := by
  unfold w_X12_isJoked_22 at h
  refine f_iload_n C (j := 1) dX12_isJoked_22 rfl rfl rfl ?_
  refine f_iload_n C (j := 3) dX12_isJoked_23 rfl rfl rfl ?_
  refine f_callSi C (As := fun B => [.int x1, .int x3]) (c_X12_has  _ _ _ _ h) tM_X12_113 tT_X12_has tN_X12 tC_X12_has 2 dd_X12_has rfl (by decide) (by decide) rfl (Nat.le_of_ble_eq_true rfl) dX12_isJoked_24 rfl (fun r_9 σ_8 h => ?_)
  refine f_if_eq C (t := 34) dX12_isJoked_27 (by decide) rfl (fun hq_10 => ?_) (fun hq_10 => ?_)
  · replace h := Eq.mp (if_pos hq_10) h
    exact s_X12_isJoked_34 C _ _ _  K22 hK22 _ h
  · replace h := Eq.mp (if_neg hq_10) h
    refine f_iload_n C (j := 2) dX12_isJoked_30 rfl rfl rfl ?_
    refine f_if_le C (t := 56) dX12_isJoked_31 (by decide) rfl (fun hq_22 => ?_) (fun hq_22 => ?_)
    · replace h := Eq.mp (if_pos hq_22) h
      refine f_aload_n C (j := 0) dX12_isJoked_56 rfl rfl rfl ?_
      refine f_getc C tF_X12_35 rfl o101 cs101_20 (by decide) dX12_isJoked_57 rfl ?_
      refine f_bipush C (v := 6) dX12_isJoked_60 kb6 rfl ?_
      refine f_dup2 C dX12_isJoked_62 rfl rfl rfl ?_
      refine f_iald C (j := 6) a106 (vp_lit (by decide)) rfl dX12_isJoked_63 rfl ?_
      refine f_iconst C (v := 1) dX12_isJoked_64 kc1 rfl ?_
      refine f_iload_n C (j := 3) dX12_isJoked_65 rfl rfl rfl ?_
      refine f_ishl C dX12_isJoked_66 rfl ?_
      refine f_ior C dX12_isJoked_67 rfl ?_
      refine f_iast C (j := 6) a106 (vp_lit (by decide)) rfl dX12_isJoked_68 rfl ?_
      refine f_aload_n C (j := 0) dX12_isJoked_69 rfl rfl rfl ?_
      refine f_dup C dX12_isJoked_70 rfl rfl ?_
      refine f_names (fun σ_23 hσ_24 => ?_)
      replace h := h σ_23 hσ_24
      refine f_geti C tF_X12_466 rfl o101 dX12_isJoked_71 rfl ?_
      refine f_iconst C (v := 1) dX12_isJoked_74 kc1 rfl ?_
      refine f_iadd C dX12_isJoked_75 rfl ?_
      refine f_puti C tF_X12_466 fm_12_45 rfl o101 dX12_isJoked_76 rfl ?_
      refine f_aload_n C (j := 0) dX12_isJoked_79 rfl rfl rfl ?_
      refine f_dup C dX12_isJoked_80 rfl rfl ?_
      refine f_names (fun σ_25 hσ_26 => ?_)
      replace h := h σ_25 hσ_26
      refine f_geti C tF_X12_475 rfl o101 dX12_isJoked_81 rfl ?_
      refine f_iconst C (v := 1) dX12_isJoked_84 kc1 rfl ?_
      refine f_iadd C dX12_isJoked_85 rfl ?_
      refine f_puti C tF_X12_475 fm_12_46 rfl o101 dX12_isJoked_86 rfl ?_
      refine f_iconst C (v := 1) dX12_isJoked_89 kc1 rfl ?_
      exact f_zret C (Or.inr rfl) dX12_isJoked_90 h
    · replace h := Eq.mp (if_neg hq_22) h
      exact s_X12_isJoked_34 C _ _ _  K22 hK22 _ h
def w_X12_isJoked (σ : Sto) (P : Int32 → Sto → Prop) : Prop :=
  w_X12_inVote σ (fun r_2 σ_1 => (if r_2 = 0 then P 0 σ_1 else w_X12_sizeOf r_2 σ_1 (fun r_5 σ_4 => w_X12_draw r_5 σ_4 (fun r_7 σ_6 => Lp (fun (K : Int32 × Int32 × Sto → Prop) s => w_X12_isJoked_22 K r_2 s.1 s.2.1 s.2.2 P) (r_7, 0, σ_6)))))
theorem s_X12_isJoked {B : Nat} {E : Nat → List (Nat × Value) → List Value → Sto → Prop} {P : Int32 → Sto → Prop} (C : Cy B E RX12 cX12_isJoked 4 (some .boolean) 5 109 (Zm (QFi P))) (σ : Sto) (h : w_X12_isJoked σ P) : E 0 [(0, .ref (B + 101))] [] σ := by
  unfold w_X12_isJoked at h
  refine f_aload_n C (j := 0) dX12_isJoked_0 rfl rfl rfl ?_
  refine f_callVi C (a := 101) (ci := 12) (As := fun B => []) o101 rfl (c_X12_inVote   _ _ h) tM_X12_370 tI_X12_inVote tS_X12_inVote tN_X12 tC_X12_inVote 0 dd_X12_inVote rfl (by decide) (by decide) rfl (Nat.le_of_ble_eq_true rfl) dX12_isJoked_1 rfl (fun r_2 σ_1 h => ?_)
  refine f_istore_n C (lv2 := [(1, .int r_2), (0, .ref (B + 101))]) dX12_isJoked_4 rfl (by decide) rfl rfl ?_
  refine f_iload_n C (j := 0) dX12_isJoked_5 rfl rfl rfl ?_
  refine f_if_ne C (t := 11) dX12_isJoked_6 (by decide) rfl (fun hq_3 => ?_) (fun hq_3 => ?_)
  · replace h := Eq.mp (if_neg hq_3) h
    refine f_aload_n C (j := 1) dX12_isJoked_11 rfl rfl rfl ?_
    refine f_iload_n C (j := 0) dX12_isJoked_12 rfl rfl rfl ?_
    refine f_callSi C (As := fun B => [.int r_2]) (c_X12_sizeOf  _ _ _ h) tM_X12_397 tT_X12_sizeOf tN_X12 tC_X12_sizeOf 1 dd_X12_sizeOf rfl (by decide) (by decide) rfl (Nat.le_of_ble_eq_true rfl) dX12_isJoked_13 rfl (fun r_5 σ_4 h => ?_)
    refine f_callVi C (a := 101) (ci := 12) (As := fun B => [.int r_5]) o101 rfl (c_X12_draw  _ _ _ h) tM_X12_472 tI_X12_draw tS_X12_draw tN_X12 tC_X12_draw 1 dd_X12_draw rfl (by decide) (by decide) rfl (Nat.le_of_ble_eq_true rfl) dX12_isJoked_16 rfl (fun r_7 σ_6 h => ?_)
    refine f_istore_n C (lv2 := [(2, .int r_7), (1, .int r_2), (0, .ref (B + 101))]) dX12_isJoked_19 rfl (by decide) rfl rfl ?_
    refine f_iconst C (v := 0) dX12_isJoked_20 kc0 rfl ?_
    refine f_istore_n C (lv2 := [(3, .int 0), (2, .int r_7), (1, .int r_2), (0, .ref (B + 101))]) dX12_isJoked_21 rfl (by decide) rfl rfl ?_
    refine f_lv C (lv2 := [(0, .ref (B + 101)), (1, .int r_2), (2, .int r_7), (3, .int 0)]) [3, 2, 1, 0] rfl ?_
    exact Lp_sound (fun s : Int32 × Int32 × Sto => E 22 [(0, .ref (B + 101)), (1, .int r_2), (2, .int s.1), (3, .int s.2.1)] [] s.2.2) h (fun K s hK h => s_X12_isJoked_22 C r_2 s.1 s.2.1 K (fun x2 x3 σ hk => hK (x2, x3, σ) hk) s.2.2 h)
  · replace h := Eq.mp (if_pos hq_3) h
    refine f_iconst C (v := 0) dX12_isJoked_9 kc0 rfl ?_
    exact f_zret C (Or.inl rfl) dX12_isJoked_10 h
theorem c_X12_isJoked (σ : Sto) (P : Int32 → Sto → Prop) (h : w_X12_isJoked σ P) : Ct yX12_isJoked cX12_isJoked 4 (some .boolean) 5 109 (fun B => [.ref (B + 101)]) σ (QFi P) := Ct.of (by decide) (fun _ => Nat.le_of_ble_eq_true rfl) (fun B E C => s_X12_isJoked C σ h)
def w_X12_does_88 (x2 : Int32) (x3 : Int32) (z0 : Int32) (σ : Sto) (P : Int32 → Sto → Prop) : Prop :=
  (if z0 = 0 then P 1 σ else ∀ σ_14 : Sto, σ_14 = si σ 106 6 ((gi σ 106 6) ^^^ (1 <<< (x3 &&& 31))) → (if x2 = 1 then P 0 (si σ_14 101 45 ((gi σ_14 101 45) + 1)) else P 0 (si σ_14 101 45 ((gi σ_14 101 45) + 0))))
theorem s_X12_does_88 {B : Nat} {E : Nat → List (Nat × Value) → List Value → Sto → Prop} {P : Int32 → Sto → Prop} (C : Cy B E RX12 cX12_does 5 (some .int) 7 163 (Zm (QFi P))) (x2 : Int32) (x3 : Int32) (z0 : Int32) (σ : Sto) (h : w_X12_does_88 x2 x3 z0 σ P) : E 88 [(0, .ref (B + 101)), (2, .int x2), (3, .int x3)] [.int z0] σ := by
  unfold w_X12_does_88 at h
  refine f_istore C (lv2 := [(4, .int z0), (0, .ref (B + 101)), (2, .int x2), (3, .int x3)]) dX12_does_88 (by decide) rfl rfl ?_
  refine f_iload C (j := 0) dX12_does_90 rfl rfl ?_
  refine f_if_ne C (t := 97) dX12_does_92 (by decide) rfl (fun hq_13 => ?_) (fun hq_13 => ?_)
  · replace h := Eq.mp (if_neg hq_13) h
    refine f_aload_n C (j := 1) dX12_does_97 rfl rfl rfl ?_
    refine f_getc C tF_X12_35 rfl o101 cs101_20 (by decide) dX12_does_98 rfl ?_
    refine f_bipush C (v := 6) dX12_does_101 kb6 rfl ?_
    refine f_dup2 C dX12_does_103 rfl rfl rfl ?_
    refine f_iald C (j := 6) a106 (vp_lit (by decide)) rfl dX12_does_104 rfl ?_
    refine f_iconst C (v := 1) dX12_does_105 kc1 rfl ?_
    refine f_iload_n C (j := 3) dX12_does_106 rfl rfl rfl ?_
    refine f_ishl C dX12_does_107 rfl ?_
    refine f_ixor C dX12_does_108 rfl ?_
    refine f_iast C (j := 6) a106 (vp_lit (by decide)) rfl dX12_does_109 rfl ?_
    refine f_aload_n C (j := 1) dX12_does_110 rfl rfl rfl ?_
    refine f_dup C dX12_does_111 rfl rfl ?_
    refine f_names (fun σ_14 hσ_15 => ?_)
    replace h := h σ_14 hσ_15
    refine f_geti C tF_X12_466 rfl o101 dX12_does_112 rfl ?_
    refine f_iload_n C (j := 2) dX12_does_115 rfl rfl rfl ?_
    refine f_iconst C (v := 1) dX12_does_116 kc1 rfl ?_
    refine f_icmp_ne C (t := 124) dX12_does_117 (by decide) rfl (fun hq_16 => ?_) (fun hq_16 => ?_)
    · replace h := Eq.mp (if_neg hq_16) h
      refine f_iconst C (v := 0) dX12_does_124 kc0 rfl ?_
      refine f_iadd C dX12_does_125 rfl ?_
      refine f_puti C tF_X12_466 fm_12_45 rfl o101 dX12_does_126 rfl ?_
      refine f_iconst C (v := 0) dX12_does_129 kc0 rfl ?_
      exact f_iret C dX12_does_130 h
    · replace h := Eq.mp (if_pos hq_16) h
      refine f_iconst C (v := 1) dX12_does_120 kc1 rfl ?_
      refine f_goto C (t := 125) dX12_does_121 (by decide) ?_
      refine f_iadd C dX12_does_125 rfl ?_
      refine f_puti C tF_X12_466 fm_12_45 rfl o101 dX12_does_126 rfl ?_
      refine f_iconst C (v := 0) dX12_does_129 kc0 rfl ?_
      exact f_iret C dX12_does_130 h
  · replace h := Eq.mp (if_pos hq_13) h
    refine f_iconst C (v := 1) dX12_does_95 kc1 rfl ?_
    exact f_iret C dX12_does_96 h
def w_X12_does (x1 : Int32) (σ : Sto) (P : Int32 → Sto → Prop) : Prop :=
  vp_in x1 2105 ∧ ∀ x2_2 : Int32, x2_2 = gi σ 106 (tn x1) → vp_in (x1 + 1) 2105 ∧ ∀ x3_5 : Int32, x3_5 = gi σ 106 (tn (x1 + 1)) → (if x2_2 = 0 then w_X12_missedYears x3_5 σ (fun r_23 σ_22 => P r_23 σ_22) else (if x2_2 = 4 then w_X12_isJoked σ (fun r_20 σ_19 => (if r_20 = 0 then P 1 σ_19 else P 0 σ_19)) else (if x2_2 = 3 then P 0 (si σ 106 7 ((gi σ 106 7) ^^^ (1 <<< (x3_5 &&& 31)))) else (if x2_2 = 1 then w_X12_canUnmake x3_5 σ (fun r_18 σ_17 => w_X12_does_88 x2_2 x3_5 r_18 σ_17 P) else w_X12_has (gi σ 106 6) x3_5 σ (fun r_12 σ_11 => w_X12_does_88 x2_2 x3_5 r_12 σ_11 P)))))
theorem s_X12_does {B : Nat} {E : Nat → List (Nat × Value) → List Value → Sto → Prop} {P : Int32 → Sto → Prop} (C : Cy B E RX12 cX12_does 5 (some .int) 7 163 (Zm (QFi P))) (x1 : Int32) (σ : Sto) (h : w_X12_does x1 σ P) : E 0 [(0, .ref (B + 101)), (1, .int x1)] [] σ := by
  unfold w_X12_does at h
  refine f_aload_n C (j := 0) dX12_does_0 rfl rfl rfl ?_
  refine f_getc C tF_X12_35 rfl o101 cs101_20 (by decide) dX12_does_1 rfl ?_
  refine f_iload_n C (j := 1) dX12_does_4 rfl rfl rfl ?_
  obtain ⟨hi_1, h⟩ := h
  refine f_iald C (j := tn x1) a106 hi_1 rfl dX12_does_5 rfl ?_
  refine f_name (fun x2_2 hx_3 => ?_)
  replace h := h x2_2 hx_3
  refine f_istore_n C (lv2 := [(2, .int x2_2), (0, .ref (B + 101)), (1, .int x1)]) dX12_does_6 rfl (by decide) rfl rfl ?_
  refine f_aload_n C (j := 1) dX12_does_7 rfl rfl rfl ?_
  refine f_getc C tF_X12_35 rfl o101 cs101_20 (by decide) dX12_does_8 rfl ?_
  refine f_iload_n C (j := 2) dX12_does_11 rfl rfl rfl ?_
  refine f_iconst C (v := 1) dX12_does_12 kc1 rfl ?_
  refine f_iadd C dX12_does_13 rfl ?_
  obtain ⟨hi_4, h⟩ := h
  refine f_iald C (j := tn (x1 + 1)) a106 hi_4 rfl dX12_does_14 rfl ?_
  refine f_name (fun x3_5 hx_6 => ?_)
  replace h := h x3_5 hx_6
  refine f_istore_n C (lv2 := [(3, .int x3_5), (2, .int x2_2), (0, .ref (B + 101)), (1, .int x1)]) dX12_does_15 rfl (by decide) rfl rfl ?_
  refine f_iload_n C (j := 1) dX12_does_16 rfl rfl rfl ?_
  refine f_if_ne C (t := 26) dX12_does_17 (by decide) rfl (fun hq_7 => ?_) (fun hq_7 => ?_)
  · replace h := Eq.mp (if_neg hq_7) h
    refine f_iload_n C (j := 1) dX12_does_26 rfl rfl rfl ?_
    refine f_iconst C (v := 4) dX12_does_27 kc4 rfl ?_
    refine f_icmp_ne C (t := 44) dX12_does_28 (by decide) rfl (fun hq_8 => ?_) (fun hq_8 => ?_)
    · replace h := Eq.mp (if_neg hq_8) h
      refine f_iload_n C (j := 1) dX12_does_44 rfl rfl rfl ?_
      refine f_iconst C (v := 3) dX12_does_45 kc3 rfl ?_
      refine f_icmp_ne C (t := 64) dX12_does_46 (by decide) rfl (fun hq_9 => ?_) (fun hq_9 => ?_)
      · replace h := Eq.mp (if_neg hq_9) h
        refine f_iload_n C (j := 1) dX12_does_64 rfl rfl rfl ?_
        refine f_iconst C (v := 1) dX12_does_65 kc1 rfl ?_
        refine f_icmp_ne C (t := 77) dX12_does_66 (by decide) rfl (fun hq_10 => ?_) (fun hq_10 => ?_)
        · replace h := Eq.mp (if_neg hq_10) h
          refine f_aload_n C (j := 2) dX12_does_77 rfl rfl rfl ?_
          refine f_getc C tF_X12_35 rfl o101 cs101_20 (by decide) dX12_does_78 rfl ?_
          refine f_bipush C (v := 6) dX12_does_81 kb6 rfl ?_
          refine f_iald C (j := 6) a106 (vp_lit (by decide)) rfl dX12_does_83 rfl ?_
          refine f_iload_n C (j := 0) dX12_does_84 rfl rfl rfl ?_
          refine f_callSi C (As := fun B => [.int (gi σ 106 6), .int x3_5]) (c_X12_has  _ _ _ _ h) tM_X12_113 tT_X12_has tN_X12 tC_X12_has 2 dd_X12_has rfl (by decide) (by decide) rfl (Nat.le_of_ble_eq_true rfl) dX12_does_85 rfl (fun r_12 σ_11 h => ?_)
          refine f_lv C (lv2 := [(0, .ref (B + 101)), (2, .int x2_2), (3, .int x3_5)]) [2, 1, 0] rfl ?_
          exact s_X12_does_88 C _ _ _  _ h
        · replace h := Eq.mp (if_pos hq_10) h
          refine f_aload_n C (j := 2) dX12_does_69 rfl rfl rfl ?_
          refine f_iload_n C (j := 0) dX12_does_70 rfl rfl rfl ?_
          refine f_callVi C (a := 101) (ci := 12) (As := fun B => [.int x3_5]) o101 rfl (c_X12_canUnmake  _ _ _ h) tM_X12_380 tI_X12_canUnmake tS_X12_canUnmake tN_X12 tC_X12_canUnmake 1 dd_X12_canUnmake rfl (by decide) (by decide) rfl (Nat.le_of_ble_eq_true rfl) dX12_does_71 rfl (fun r_18 σ_17 h => ?_)
          refine f_goto C (t := 88) dX12_does_74 (by decide) ?_
          refine f_lv C (lv2 := [(0, .ref (B + 101)), (2, .int x2_2), (3, .int x3_5)]) [2, 1, 0] rfl ?_
          exact s_X12_does_88 C _ _ _  _ h
      · replace h := Eq.mp (if_pos hq_9) h
        refine f_aload_n C (j := 2) dX12_does_49 rfl rfl rfl ?_
        refine f_getc C tF_X12_35 rfl o101 cs101_20 (by decide) dX12_does_50 rfl ?_
        refine f_bipush C (v := 7) dX12_does_53 kb7 rfl ?_
        refine f_dup2 C dX12_does_55 rfl rfl rfl ?_
        refine f_iald C (j := 7) a106 (vp_lit (by decide)) rfl dX12_does_56 rfl ?_
        refine f_iconst C (v := 1) dX12_does_57 kc1 rfl ?_
        refine f_iload_n C (j := 0) dX12_does_58 rfl rfl rfl ?_
        refine f_ishl C dX12_does_59 rfl ?_
        refine f_ixor C dX12_does_60 rfl ?_
        refine f_iast C (j := 7) a106 (vp_lit (by decide)) rfl dX12_does_61 rfl ?_
        refine f_iconst C (v := 0) dX12_does_62 kc0 rfl ?_
        exact f_iret C dX12_does_63 h
    · replace h := Eq.mp (if_pos hq_8) h
      refine f_aload_n C (j := 2) dX12_does_31 rfl rfl rfl ?_
      refine f_callVi C (a := 101) (ci := 12) (As := fun B => []) o101 rfl (c_X12_isJoked   _ _ h) tM_X12_481 tI_X12_isJoked tS_X12_isJoked tN_X12 tC_X12_isJoked 0 dd_X12_isJoked rfl (by decide) (by decide) rfl (Nat.le_of_ble_eq_true rfl) dX12_does_32 rfl (fun r_20 σ_19 h => ?_)
      refine f_if_eq C (t := 42) dX12_does_35 (by decide) rfl (fun hq_21 => ?_) (fun hq_21 => ?_)
      · replace h := Eq.mp (if_pos hq_21) h
        refine f_iconst C (v := 1) dX12_does_42 kc1 rfl ?_
        exact f_iret C dX12_does_43 h
      · replace h := Eq.mp (if_neg hq_21) h
        refine f_iconst C (v := 0) dX12_does_38 kc0 rfl ?_
        refine f_goto C (t := 43) dX12_does_39 (by decide) ?_
        exact f_iret C dX12_does_43 h
  · replace h := Eq.mp (if_pos hq_7) h
    refine f_aload_n C (j := 2) dX12_does_20 rfl rfl rfl ?_
    refine f_iload_n C (j := 0) dX12_does_21 rfl rfl rfl ?_
    refine f_callVi C (a := 101) (ci := 12) (As := fun B => [.int x3_5]) o101 rfl (c_X12_missedYears  _ _ _ h) tM_X12_478 tI_X12_missedYears tS_X12_missedYears tN_X12 tC_X12_missedYears 1 dd_X12_missedYears rfl (by decide) (by decide) rfl (Nat.le_of_ble_eq_true rfl) dX12_does_22 rfl (fun r_23 σ_22 h => ?_)
    exact f_iret C dX12_does_25 h
theorem c_X12_does (x1 : Int32) (σ : Sto) (P : Int32 → Sto → Prop) (h : w_X12_does x1 σ P) : Ct yX12_does cX12_does 5 (some .int) 7 163 (fun B => [.ref (B + 101), .int x1]) σ (QFi P) := Ct.of (by decide) (fun _ => Nat.le_of_ble_eq_true rfl) (fun B E C => s_X12_does C x1 σ h)
def w_X12_isSo (x1 : Int32) (σ : Sto) (P : Int32 → Sto → Prop) : Prop :=
  vp_in (x1 + 6) 2105 ∧ ∀ x2_2 : Int32, x2_2 = gi σ 106 (tn (x1 + 6)) → (if x2_2 = 0 then w_X12_now σ (fun r_32 σ_31 => vp_in (x1 + 1) 2105 ∧ w_X12_has r_32 (gi σ_31 106 (tn (x1 + 1))) σ_31 (fun r_35 σ_34 => (r_35 = 0 ∨ r_35 = 1) ∧ P r_35 σ_34)) else (if x2_2 = 1 then w_X12_now σ (fun r_24 σ_23 => w_X12_doneBy r_24 σ_23 (fun r_26 σ_25 => vp_in (x1 + 1) 2105 ∧ w_X12_has r_26 (gi σ_25 106 (tn (x1 + 1))) σ_25 (fun r_29 σ_28 => (r_29 = 0 ∨ r_29 = 1) ∧ P r_29 σ_28))) else w_X12_inVote σ (fun r_7 σ_6 => w_X12_sums r_7 σ_6 (fun σ_8 => vp_in (x1 + 1) 2105 ∧ vp_in (gi σ_8 106 (tn (x1 + 1))) 12 ∧ ∀ x3_12 : Int32, x3_12 = gi σ_8 109 (tn (gi σ_8 106 (tn (x1 + 1)))) → vp_in (x1 + 7) 2105 ∧ (if (gi σ_8 106 (tn (x1 + 7))) = 60 then vp_in (x1 + 2) 2105 ∧ (if (gi σ_8 106 (tn (x1 + 2))) ≤ x3_12 then P 0 σ_8 else P 1 σ_8) else (if (gi σ_8 106 (tn (x1 + 7))) = 62 then vp_in (x1 + 2) 2105 ∧ (if x3_12 ≤ (gi σ_8 106 (tn (x1 + 2))) then P 0 σ_8 else P 1 σ_8) else vp_in (x1 + 2) 2105 ∧ (if x3_12 = (gi σ_8 106 (tn (x1 + 2))) then P 1 σ_8 else P 0 σ_8)))))))
theorem s_X12_isSo {B : Nat} {E : Nat → List (Nat × Value) → List Value → Sto → Prop} {P : Int32 → Sto → Prop} (C : Cy B E RX12 cX12_isSo 4 (some .boolean) 5 109 (Zm (QFi P))) (x1 : Int32) (σ : Sto) (h : w_X12_isSo x1 σ P) : E 0 [(0, .ref (B + 101)), (1, .int x1)] [] σ := by
  unfold w_X12_isSo at h
  refine f_aload_n C (j := 0) dX12_isSo_0 rfl rfl rfl ?_
  refine f_getc C tF_X12_35 rfl o101 cs101_20 (by decide) dX12_isSo_1 rfl ?_
  refine f_iload_n C (j := 1) dX12_isSo_4 rfl rfl rfl ?_
  refine f_bipush C (v := 6) dX12_isSo_5 kb6 rfl ?_
  refine f_iadd C dX12_isSo_7 rfl ?_
  obtain ⟨hi_1, h⟩ := h
  refine f_iald C (j := tn (x1 + 6)) a106 hi_1 rfl dX12_isSo_8 rfl ?_
  refine f_name (fun x2_2 hx_3 => ?_)
  replace h := h x2_2 hx_3
  refine f_istore_n C (lv2 := [(2, .int x2_2), (0, .ref (B + 101)), (1, .int x1)]) dX12_isSo_9 rfl (by decide) rfl rfl ?_
  refine f_iload_n C (j := 0) dX12_isSo_10 rfl rfl rfl ?_
  refine f_if_ne C (t := 30) dX12_isSo_11 (by decide) rfl (fun hq_4 => ?_) (fun hq_4 => ?_)
  · replace h := Eq.mp (if_neg hq_4) h
    refine f_iload_n C (j := 0) dX12_isSo_30 rfl rfl rfl ?_
    refine f_iconst C (v := 1) dX12_isSo_31 kc1 rfl ?_
    refine f_icmp_ne C (t := 55) dX12_isSo_32 (by decide) rfl (fun hq_5 => ?_) (fun hq_5 => ?_)
    · replace h := Eq.mp (if_neg hq_5) h
      refine f_aload_n C (j := 1) dX12_isSo_55 rfl rfl rfl ?_
      refine f_aload_n C (j := 1) dX12_isSo_56 rfl rfl rfl ?_
      refine f_callVi C (a := 101) (ci := 12) (As := fun B => []) o101 rfl (c_X12_inVote   _ _ h) tM_X12_370 tI_X12_inVote tS_X12_inVote tN_X12 tC_X12_inVote 0 dd_X12_inVote rfl (by decide) (by decide) rfl (Nat.le_of_ble_eq_true rfl) dX12_isSo_57 rfl (fun r_7 σ_6 h => ?_)
      refine f_callVv C (a := 101) (ci := 12) (As := fun B => [.int r_7]) o101 rfl (c_X12_sums  _ _ _ h) tM_X12_358 tI_X12_sums tS_X12_sums tN_X12 tC_X12_sums 1 dd_X12_sums rfl (by decide) (by decide) rfl (Nat.le_of_ble_eq_true rfl) dX12_isSo_60 rfl (fun σ_8 h => ?_)
      refine f_aload_n C (j := 1) dX12_isSo_63 rfl rfl rfl ?_
      refine f_getc C tF_X12_44 rfl o101 cs101_26 (by decide) dX12_isSo_64 rfl ?_
      refine f_aload_n C (j := 1) dX12_isSo_67 rfl rfl rfl ?_
      refine f_getc C tF_X12_35 rfl o101 cs101_20 (by decide) dX12_isSo_68 rfl ?_
      refine f_iload_n C (j := 2) dX12_isSo_71 rfl rfl rfl ?_
      refine f_iconst C (v := 1) dX12_isSo_72 kc1 rfl ?_
      refine f_iadd C dX12_isSo_73 rfl ?_
      obtain ⟨hi_10, h⟩ := h
      refine f_iald C (j := tn (x1 + 1)) a106 hi_10 rfl dX12_isSo_74 rfl ?_
      obtain ⟨hi_11, h⟩ := h
      refine f_iald C (j := tn (gi σ_8 106 (tn (x1 + 1)))) a109 hi_11 rfl dX12_isSo_75 rfl ?_
      refine f_name (fun x3_12 hx_13 => ?_)
      replace h := h x3_12 hx_13
      refine f_istore_n C (lv2 := [(3, .int x3_12), (2, .int x2_2), (0, .ref (B + 101)), (1, .int x1)]) dX12_isSo_76 rfl (by decide) rfl rfl ?_
      refine f_aload_n C (j := 2) dX12_isSo_77 rfl rfl rfl ?_
      refine f_getc C tF_X12_35 rfl o101 cs101_20 (by decide) dX12_isSo_78 rfl ?_
      refine f_iload_n C (j := 3) dX12_isSo_81 rfl rfl rfl ?_
      refine f_bipush C (v := 7) dX12_isSo_82 kb7 rfl ?_
      refine f_iadd C dX12_isSo_84 rfl ?_
      obtain ⟨hi_14, h⟩ := h
      refine f_iald C (j := tn (x1 + 7)) a106 hi_14 rfl dX12_isSo_85 rfl ?_
      refine f_bipush C (v := 60) dX12_isSo_86 kb60 rfl ?_
      refine f_icmp_ne C (t := 111) dX12_isSo_88 (by decide) rfl (fun hq_15 => ?_) (fun hq_15 => ?_)
      · replace h := Eq.mp (if_neg hq_15) h
        refine f_aload_n C (j := 2) dX12_isSo_111 rfl rfl rfl ?_
        refine f_getc C tF_X12_35 rfl o101 cs101_20 (by decide) dX12_isSo_112 rfl ?_
        refine f_iload_n C (j := 3) dX12_isSo_115 rfl rfl rfl ?_
        refine f_bipush C (v := 7) dX12_isSo_116 kb7 rfl ?_
        refine f_iadd C dX12_isSo_118 rfl ?_
        refine f_iald C (j := tn (x1 + 7)) a106 hi_14 rfl dX12_isSo_119 rfl ?_
        refine f_bipush C (v := 62) dX12_isSo_120 kb62 rfl ?_
        refine f_icmp_ne C (t := 145) dX12_isSo_122 (by decide) rfl (fun hq_16 => ?_) (fun hq_16 => ?_)
        · replace h := Eq.mp (if_neg hq_16) h
          refine f_iload_n C (j := 0) dX12_isSo_145 rfl rfl rfl ?_
          refine f_aload_n C (j := 2) dX12_isSo_146 rfl rfl rfl ?_
          refine f_getc C tF_X12_35 rfl o101 cs101_20 (by decide) dX12_isSo_147 rfl ?_
          refine f_iload_n C (j := 3) dX12_isSo_150 rfl rfl rfl ?_
          refine f_iconst C (v := 2) dX12_isSo_151 kc2 rfl ?_
          refine f_iadd C dX12_isSo_152 rfl ?_
          obtain ⟨hi_17, h⟩ := h
          refine f_iald C (j := tn (x1 + 2)) a106 hi_17 rfl dX12_isSo_153 rfl ?_
          refine f_icmp_ne C (t := 161) dX12_isSo_154 (by decide) rfl (fun hq_18 => ?_) (fun hq_18 => ?_)
          · replace h := Eq.mp (if_neg hq_18) h
            refine f_iconst C (v := 0) dX12_isSo_161 kc0 rfl ?_
            exact f_zret C (Or.inl rfl) dX12_isSo_162 h
          · replace h := Eq.mp (if_pos hq_18) h
            refine f_iconst C (v := 1) dX12_isSo_157 kc1 rfl ?_
            refine f_goto C (t := 162) dX12_isSo_158 (by decide) ?_
            exact f_zret C (Or.inr rfl) dX12_isSo_162 h
        · replace h := Eq.mp (if_pos hq_16) h
          refine f_iload_n C (j := 0) dX12_isSo_125 rfl rfl rfl ?_
          refine f_aload_n C (j := 2) dX12_isSo_126 rfl rfl rfl ?_
          refine f_getc C tF_X12_35 rfl o101 cs101_20 (by decide) dX12_isSo_127 rfl ?_
          refine f_iload_n C (j := 3) dX12_isSo_130 rfl rfl rfl ?_
          refine f_iconst C (v := 2) dX12_isSo_131 kc2 rfl ?_
          refine f_iadd C dX12_isSo_132 rfl ?_
          obtain ⟨hi_19, h⟩ := h
          refine f_iald C (j := tn (x1 + 2)) a106 hi_19 rfl dX12_isSo_133 rfl ?_
          refine f_icmp_le C (t := 141) dX12_isSo_134 (by decide) rfl (fun hq_20 => ?_) (fun hq_20 => ?_)
          · replace h := Eq.mp (if_pos hq_20) h
            refine f_iconst C (v := 0) dX12_isSo_141 kc0 rfl ?_
            refine f_goto C (t := 162) dX12_isSo_142 (by decide) ?_
            exact f_zret C (Or.inl rfl) dX12_isSo_162 h
          · replace h := Eq.mp (if_neg hq_20) h
            refine f_iconst C (v := 1) dX12_isSo_137 kc1 rfl ?_
            refine f_goto C (t := 162) dX12_isSo_138 (by decide) ?_
            exact f_zret C (Or.inr rfl) dX12_isSo_162 h
      · replace h := Eq.mp (if_pos hq_15) h
        refine f_iload_n C (j := 0) dX12_isSo_91 rfl rfl rfl ?_
        refine f_aload_n C (j := 2) dX12_isSo_92 rfl rfl rfl ?_
        refine f_getc C tF_X12_35 rfl o101 cs101_20 (by decide) dX12_isSo_93 rfl ?_
        refine f_iload_n C (j := 3) dX12_isSo_96 rfl rfl rfl ?_
        refine f_iconst C (v := 2) dX12_isSo_97 kc2 rfl ?_
        refine f_iadd C dX12_isSo_98 rfl ?_
        obtain ⟨hi_21, h⟩ := h
        refine f_iald C (j := tn (x1 + 2)) a106 hi_21 rfl dX12_isSo_99 rfl ?_
        refine f_icmp_ge C (t := 107) dX12_isSo_100 (by decide) rfl (fun hq_22 => ?_) (fun hq_22 => ?_)
        · replace h := Eq.mp (if_pos hq_22) h
          refine f_iconst C (v := 0) dX12_isSo_107 kc0 rfl ?_
          refine f_goto C (t := 162) dX12_isSo_108 (by decide) ?_
          exact f_zret C (Or.inl rfl) dX12_isSo_162 h
        · replace h := Eq.mp (if_neg hq_22) h
          refine f_iconst C (v := 1) dX12_isSo_103 kc1 rfl ?_
          refine f_goto C (t := 162) dX12_isSo_104 (by decide) ?_
          exact f_zret C (Or.inr rfl) dX12_isSo_162 h
    · replace h := Eq.mp (if_pos hq_5) h
      refine f_aload_n C (j := 1) dX12_isSo_35 rfl rfl rfl ?_
      refine f_aload_n C (j := 1) dX12_isSo_36 rfl rfl rfl ?_
      refine f_callVi C (a := 101) (ci := 12) (As := fun B => []) o101 rfl (c_X12_now   _ _ h) tM_X12_330 tI_X12_now tS_X12_now tN_X12 tC_X12_now 0 dd_X12_now rfl (by decide) (by decide) rfl (Nat.le_of_ble_eq_true rfl) dX12_isSo_37 rfl (fun r_24 σ_23 h => ?_)
      refine f_callVi C (a := 101) (ci := 12) (As := fun B => [.int r_24]) o101 rfl (c_X12_doneBy  _ _ _ h) tM_X12_333 tI_X12_doneBy tS_X12_doneBy tN_X12 tC_X12_doneBy 1 dd_X12_doneBy rfl (by decide) (by decide) rfl (Nat.le_of_ble_eq_true rfl) dX12_isSo_40 rfl (fun r_26 σ_25 h => ?_)
      refine f_aload_n C (j := 1) dX12_isSo_43 rfl rfl rfl ?_
      refine f_getc C tF_X12_35 rfl o101 cs101_20 (by decide) dX12_isSo_44 rfl ?_
      refine f_iload_n C (j := 2) dX12_isSo_47 rfl rfl rfl ?_
      refine f_iconst C (v := 1) dX12_isSo_48 kc1 rfl ?_
      refine f_iadd C dX12_isSo_49 rfl ?_
      obtain ⟨hi_27, h⟩ := h
      refine f_iald C (j := tn (x1 + 1)) a106 hi_27 rfl dX12_isSo_50 rfl ?_
      refine f_callSi C (As := fun B => [.int r_26, .int (gi σ_25 106 (tn (x1 + 1)))]) (c_X12_has  _ _ _ _ h) tM_X12_113 tT_X12_has tN_X12 tC_X12_has 2 dd_X12_has rfl (by decide) (by decide) rfl (Nat.le_of_ble_eq_true rfl) dX12_isSo_51 rfl (fun r_29 σ_28 h => ?_)
      obtain ⟨hb_30, h⟩ := h
      exact f_zret C hb_30 dX12_isSo_54 h
  · replace h := Eq.mp (if_pos hq_4) h
    refine f_aload_n C (j := 1) dX12_isSo_14 rfl rfl rfl ?_
    refine f_callVi C (a := 101) (ci := 12) (As := fun B => []) o101 rfl (c_X12_now   _ _ h) tM_X12_330 tI_X12_now tS_X12_now tN_X12 tC_X12_now 0 dd_X12_now rfl (by decide) (by decide) rfl (Nat.le_of_ble_eq_true rfl) dX12_isSo_15 rfl (fun r_32 σ_31 h => ?_)
    refine f_aload_n C (j := 1) dX12_isSo_18 rfl rfl rfl ?_
    refine f_getc C tF_X12_35 rfl o101 cs101_20 (by decide) dX12_isSo_19 rfl ?_
    refine f_iload_n C (j := 2) dX12_isSo_22 rfl rfl rfl ?_
    refine f_iconst C (v := 1) dX12_isSo_23 kc1 rfl ?_
    refine f_iadd C dX12_isSo_24 rfl ?_
    obtain ⟨hi_33, h⟩ := h
    refine f_iald C (j := tn (x1 + 1)) a106 hi_33 rfl dX12_isSo_25 rfl ?_
    refine f_callSi C (As := fun B => [.int r_32, .int (gi σ_31 106 (tn (x1 + 1)))]) (c_X12_has  _ _ _ _ h) tM_X12_113 tT_X12_has tN_X12 tC_X12_has 2 dd_X12_has rfl (by decide) (by decide) rfl (Nat.le_of_ble_eq_true rfl) dX12_isSo_26 rfl (fun r_35 σ_34 h => ?_)
    obtain ⟨hb_36, h⟩ := h
    exact f_zret C hb_36 dX12_isSo_29 h
theorem c_X12_isSo (x1 : Int32) (σ : Sto) (P : Int32 → Sto → Prop) (h : w_X12_isSo x1 σ P) : Ct yX12_isSo cX12_isSo 4 (some .boolean) 5 109 (fun B => [.ref (B + 101), .int x1]) σ (QFi P) := Ct.of (by decide) (fun _ => Nat.le_of_ble_eq_true rfl) (fun B E C => s_X12_isSo C x1 σ h)
def w_X12_doAll_2 (rec : Int32 → Sto → (Sto → Prop) → Prop) (K2 : Int32 × Sto → Prop) (x2 : Int32) (x3 : Int32) (σ : Sto) (P : Sto → Prop) : Prop :=
  (if x2 ≤ x3 then P σ else (if (gi σ 101 40) = 0 then rec x3 σ (fun σ_3 => vp_in ((144 + (9 * x3)) + 8) 2105 ∧ ∀ x3_6 : Int32, x3_6 = gi σ_3 106 (tn ((144 + (9 * x3)) + 8)) → K2 (x3_6, σ_3)) else P σ))
theorem s_X12_doAll_2 {B : Nat} {E : Nat → List (Nat × Value) → List Value → Sto → Prop} (rec : Int32 → Sto → (Sto → Prop) → Prop) (n : Nat) (hrec : ∀ (x1 : Int32) (σ : Sto) (P : Sto → Prop), rec x1 σ P → Ct yX12_doOne cX12_doOne 5 none (8 + 2 * n) (187 + n * 47) (fun B => [.ref (B + 101), .int x1]) σ (QFv P)) {P : Sto → Prop} (C : Cy B E RX12 cX12_doAll 4 none (8 + 2 * n + 1) (187 + n * 47 + 24) (Zm (QFv P))) (x2 : Int32) (x3 : Int32) (K2 : Int32 × Sto → Prop) (hK2 : ∀ (x3 : Int32) (σ : Sto), K2 (x3, σ) → E 2 [(0, .ref (B + 101)), (2, .int x2), (3, .int x3)] [] σ) (σ : Sto) (h : w_X12_doAll_2 rec K2 x2 x3 σ P) : E 2 [(0, .ref (B + 101)), (2, .int x2), (3, .int x3)] [] σ := by
  unfold w_X12_doAll_2 at h
  refine f_iload_n C (j := 2) dX12_doAll_2 rfl rfl rfl ?_
  refine f_iload_n C (j := 1) dX12_doAll_3 rfl rfl rfl ?_
  refine f_icmp_ge C (t := 39) dX12_doAll_4 (by decide) rfl (fun hq_1 => ?_) (fun hq_1 => ?_)
  · replace h := Eq.mp (if_pos hq_1) h
    exact f_vret C dX12_doAll_39 h
  · replace h := Eq.mp (if_neg hq_1) h
    refine f_aload_n C (j := 0) dX12_doAll_7 rfl rfl rfl ?_
    refine f_geti C tF_X12_487 rfl o101 dX12_doAll_8 rfl ?_
    refine f_if_ne C (t := 39) dX12_doAll_11 (by decide) rfl (fun hq_2 => ?_) (fun hq_2 => ?_)
    · replace h := Eq.mp (if_neg hq_2) h
      exact f_vret C dX12_doAll_39 h
    · replace h := Eq.mp (if_pos hq_2) h
      refine f_aload_n C (j := 0) dX12_doAll_14 rfl rfl rfl ?_
      refine f_iload_n C (j := 2) dX12_doAll_15 rfl rfl rfl ?_
      refine f_callVv C (a := 101) (ci := 12) (As := fun B => [.int x3]) o101 rfl (hrec _ _ _ h) tM_X12_505 tI_X12_doOne tS_X12_doOne tN_X12 tC_X12_doOne 1 dd_X12_doOne rfl (by omega) (by omega) rfl (Nat.le_of_ble_eq_true rfl) dX12_doAll_16 rfl (fun σ_3 h => ?_)
      refine f_aload_n C (j := 0) dX12_doAll_19 rfl rfl rfl ?_
      refine f_getc C tF_X12_35 rfl o101 cs101_20 (by decide) dX12_doAll_20 rfl ?_
      refine f_sipush C (v := 144) dX12_doAll_23 ks144 rfl ?_
      refine f_bipush C (v := 9) dX12_doAll_26 kb9 rfl ?_
      refine f_iload_n C (j := 2) dX12_doAll_28 rfl rfl rfl ?_
      refine f_imul C dX12_doAll_29 rfl ?_
      refine f_iadd C dX12_doAll_30 rfl ?_
      refine f_bipush C (v := 8) dX12_doAll_31 kb8 rfl ?_
      refine f_iadd C dX12_doAll_33 rfl ?_
      obtain ⟨hi_5, h⟩ := h
      refine f_iald C (j := tn ((144 + (9 * x3)) + 8)) a106 hi_5 rfl dX12_doAll_34 rfl ?_
      refine f_name (fun x3_6 hx_7 => ?_)
      replace h := h x3_6 hx_7
      refine f_istore_n C (lv2 := [(3, .int x3_6), (0, .ref (B + 101)), (2, .int x2)]) dX12_doAll_35 rfl (by decide) rfl rfl ?_
      refine f_goto C (t := 2) dX12_doAll_36 (by decide) ?_
      refine f_lv C (lv2 := [(0, .ref (B + 101)), (2, .int x2), (3, .int x3_6)]) [1, 2, 0] rfl ?_
      exact hK2 _ _ h
def w_X12_doAll_e (rec : Int32 → Sto → (Sto → Prop) → Prop) (x1 : Int32) (x2 : Int32) (σ : Sto) (P : Sto → Prop) : Prop :=
  Lp (fun (K : Int32 × Sto → Prop) s => w_X12_doAll_2 rec K x2 s.1 s.2 P) (x1, σ)
theorem s_X12_doAll_e {B : Nat} {E : Nat → List (Nat × Value) → List Value → Sto → Prop} (rec : Int32 → Sto → (Sto → Prop) → Prop) (n : Nat) (hrec : ∀ (x1 : Int32) (σ : Sto) (P : Sto → Prop), rec x1 σ P → Ct yX12_doOne cX12_doOne 5 none (8 + 2 * n) (187 + n * 47) (fun B => [.ref (B + 101), .int x1]) σ (QFv P)) {P : Sto → Prop} (C : Cy B E RX12 cX12_doAll 4 none (8 + 2 * n + 1) (187 + n * 47 + 24) (Zm (QFv P))) (x1 : Int32) (x2 : Int32) (σ : Sto) (h : w_X12_doAll_e rec x1 x2 σ P) : E 0 [(0, .ref (B + 101)), (1, .int x1), (2, .int x2)] [] σ := by
  unfold w_X12_doAll_e at h
  refine f_iload_n C (j := 1) dX12_doAll_0 rfl rfl rfl ?_
  refine f_istore_n C (lv2 := [(3, .int x1), (0, .ref (B + 101)), (1, .int x1), (2, .int x2)]) dX12_doAll_1 rfl (by decide) rfl rfl ?_
  refine f_lv C (lv2 := [(0, .ref (B + 101)), (2, .int x2), (3, .int x1)]) [1, 3, 0] rfl ?_
  exact Lp_sound (fun s : Int32 × Sto => E 2 [(0, .ref (B + 101)), (2, .int x2), (3, .int s.1)] [] s.2) h (fun K s hK h => s_X12_doAll_2 (rec := rec) n hrec C x2 s.1 K (fun x3 σ hk => hK (x3, σ) hk) s.2 h)
def w_X12_doOne_110 (rec : Int32 → Int32 → Sto → (Sto → Prop) → Prop) (K110 : Int32 × Sto → Prop) (x1 : Int32) (x2 : Int32) (x4 : Int32) (σ : Sto) (P : Sto → Prop) : Prop :=
  vp_in (x2 + 1) 2105 ∧ (if (gi σ 106 (tn (x2 + 1))) ≤ x4 then P σ else (if (gi σ 101 40) = 0 then vp_in (x2 + 8) 2105 ∧ rec (x1 + 1) (gi σ 106 (tn (x2 + 8))) σ (fun σ_17 => ∀ x4_19 : Int32, x4_19 = x4 + 1 → K110 (x4_19, σ_17)) else P σ))
theorem s_X12_doOne_110 {B : Nat} {E : Nat → List (Nat × Value) → List Value → Sto → Prop} (rec : Int32 → Int32 → Sto → (Sto → Prop) → Prop) (n : Nat) (hrec : ∀ (x1 : Int32) (x2 : Int32) (σ : Sto) (P : Sto → Prop), rec x1 x2 σ P → Ct yX12_doAll cX12_doAll 4 none (8 + 2 * n + 1) (187 + n * 47 + 24) (fun B => [.ref (B + 101), .int x1, .int x2]) σ (QFv P)) {P : Sto → Prop} (C : Cy B E RX12 cX12_doOne 5 none (8 + 2 * (n + 1)) (187 + (n + 1) * 47) (Zm (QFv P))) (x1 : Int32) (x2 : Int32) (x4 : Int32) (K110 : Int32 × Sto → Prop) (hK110 : ∀ (x4 : Int32) (σ : Sto), K110 (x4, σ) → E 110 [(0, .ref (B + 101)), (1, .int x1), (2, .int x2), (4, .int x4)] [] σ) (σ : Sto) (h : w_X12_doOne_110 rec K110 x1 x2 x4 σ P) : E 110 [(0, .ref (B + 101)), (1, .int x1), (2, .int x2), (4, .int x4)] [] σ := by
  unfold w_X12_doOne_110 at h
  refine f_iload C (j := 3) dX12_doOne_110 rfl rfl ?_
  refine f_aload_n C (j := 0) dX12_doOne_112 rfl rfl rfl ?_
  refine f_getc C tF_X12_35 rfl o101 cs101_20 (by decide) dX12_doOne_113 rfl ?_
  refine f_iload_n C (j := 2) dX12_doOne_116 rfl rfl rfl ?_
  refine f_iconst C (v := 1) dX12_doOne_117 kc1 rfl ?_
  refine f_iadd C dX12_doOne_118 rfl ?_
  obtain ⟨hi_13, h⟩ := h
  refine f_iald C (j := tn (x2 + 1)) a106 hi_13 rfl dX12_doOne_119 rfl ?_
  refine f_icmp_ge C (t := 152) dX12_doOne_120 (by decide) rfl (fun hq_14 => ?_) (fun hq_14 => ?_)
  · replace h := Eq.mp (if_pos hq_14) h
    refine f_goto C (t := 166) dX12_doOne_152 (by decide) ?_
    exact f_vret C dX12_doOne_166 h
  · replace h := Eq.mp (if_neg hq_14) h
    refine f_aload_n C (j := 0) dX12_doOne_123 rfl rfl rfl ?_
    refine f_geti C tF_X12_487 rfl o101 dX12_doOne_124 rfl ?_
    refine f_if_ne C (t := 152) dX12_doOne_127 (by decide) rfl (fun hq_15 => ?_) (fun hq_15 => ?_)
    · replace h := Eq.mp (if_neg hq_15) h
      refine f_goto C (t := 166) dX12_doOne_152 (by decide) ?_
      exact f_vret C dX12_doOne_166 h
    · replace h := Eq.mp (if_pos hq_15) h
      refine f_aload_n C (j := 0) dX12_doOne_130 rfl rfl rfl ?_
      refine f_iload_n C (j := 1) dX12_doOne_131 rfl rfl rfl ?_
      refine f_iconst C (v := 1) dX12_doOne_132 kc1 rfl ?_
      refine f_iadd C dX12_doOne_133 rfl ?_
      refine f_aload_n C (j := 0) dX12_doOne_134 rfl rfl rfl ?_
      refine f_getc C tF_X12_35 rfl o101 cs101_20 (by decide) dX12_doOne_135 rfl ?_
      refine f_iload_n C (j := 2) dX12_doOne_138 rfl rfl rfl ?_
      refine f_bipush C (v := 8) dX12_doOne_139 kb8 rfl ?_
      refine f_iadd C dX12_doOne_141 rfl ?_
      obtain ⟨hi_16, h⟩ := h
      refine f_iald C (j := tn (x2 + 8)) a106 hi_16 rfl dX12_doOne_142 rfl ?_
      refine f_callVv C (a := 101) (ci := 12) (As := fun B => [.int (x1 + 1), .int (gi σ 106 (tn (x2 + 8)))]) o101 rfl (hrec _ _ _ _ h) tM_X12_502 tI_X12_doAll tS_X12_doAll tN_X12 tC_X12_doAll 2 dd_X12_doAll rfl (by omega) (by omega) rfl (Nat.le_of_ble_eq_true rfl) dX12_doOne_143 rfl (fun σ_17 h => ?_)
      obtain ⟨x4_19, hx_20⟩ : ∃ y : Int32, y = x4 + 1 := ⟨_, rfl⟩
      replace h := h x4_19 hx_20
      refine f_iinc C (j := 3) (v := x4_19) (lv2 := [(4, .int x4_19), (0, .ref (B + 101)), (1, .int x1), (2, .int x2)]) dX12_doOne_146 rfl hx_20.symm (by decide) rfl rfl ?_
      refine f_goto C (t := 110) dX12_doOne_149 (by decide) ?_
      refine f_lv C (lv2 := [(0, .ref (B + 101)), (1, .int x1), (2, .int x2), (4, .int x4_19)]) [1, 2, 3, 0] rfl ?_
      exact hK110 _ _ h
def w_X12_doOne_101 (rec : Int32 → Int32 → Sto → (Sto → Prop) → Prop) (x1 : Int32) (x2 : Int32) (x3 : Int32) (σ : Sto) (P : Sto → Prop) : Prop :=
  (if x3 = 6 then Lp (fun (K : Int32 × Sto → Prop) s => w_X12_doOne_110 rec K x1 x2 s.1 s.2 P) (0, σ) else (if x3 ≤ 6 then P σ else P (si σ 101 40 1)))
theorem s_X12_doOne_101 {B : Nat} {E : Nat → List (Nat × Value) → List Value → Sto → Prop} (rec : Int32 → Int32 → Sto → (Sto → Prop) → Prop) (n : Nat) (hrec : ∀ (x1 : Int32) (x2 : Int32) (σ : Sto) (P : Sto → Prop), rec x1 x2 σ P → Ct yX12_doAll cX12_doAll 4 none (8 + 2 * n + 1) (187 + n * 47 + 24) (fun B => [.ref (B + 101), .int x1, .int x2]) σ (QFv P)) {P : Sto → Prop} (C : Cy B E RX12 cX12_doOne 5 none (8 + 2 * (n + 1)) (187 + (n + 1) * 47) (Zm (QFv P))) (x1 : Int32) (x2 : Int32) (x3 : Int32) (σ : Sto) (h : w_X12_doOne_101 rec x1 x2 x3 σ P) : E 101 [(0, .ref (B + 101)), (1, .int x1), (2, .int x2), (3, .int x3)] [] σ := by
  unfold w_X12_doOne_101 at h
  refine f_iload_n C (j := 3) dX12_doOne_101 rfl rfl rfl ?_
  refine f_bipush C (v := 6) dX12_doOne_102 kb6 rfl ?_
  refine f_icmp_ne C (t := 155) dX12_doOne_104 (by decide) rfl (fun hq_11 => ?_) (fun hq_11 => ?_)
  · replace h := Eq.mp (if_neg hq_11) h
    refine f_iload_n C (j := 3) dX12_doOne_155 rfl rfl rfl ?_
    refine f_bipush C (v := 6) dX12_doOne_156 kb6 rfl ?_
    refine f_icmp_le C (t := 166) dX12_doOne_158 (by decide) rfl (fun hq_12 => ?_) (fun hq_12 => ?_)
    · replace h := Eq.mp (if_pos hq_12) h
      exact f_vret C dX12_doOne_166 h
    · replace h := Eq.mp (if_neg hq_12) h
      refine f_aload_n C (j := 0) dX12_doOne_161 rfl rfl rfl ?_
      refine f_iconst C (v := 1) dX12_doOne_162 kc1 rfl ?_
      refine f_putz C tF_X12_487 fm_12_40 rfl (Or.inr rfl) o101 dX12_doOne_163 rfl ?_
      exact f_vret C dX12_doOne_166 h
  · replace h := Eq.mp (if_pos hq_11) h
    refine f_iconst C (v := 0) dX12_doOne_107 kc0 rfl ?_
    refine f_istore C (lv2 := [(4, .int 0), (0, .ref (B + 101)), (1, .int x1), (2, .int x2), (3, .int x3)]) dX12_doOne_108 (by decide) rfl rfl ?_
    refine f_lv C (lv2 := [(0, .ref (B + 101)), (1, .int x1), (2, .int x2), (4, .int 0)]) [1, 2, 3, 0] rfl ?_
    exact Lp_sound (fun s : Int32 × Sto => E 110 [(0, .ref (B + 101)), (1, .int x1), (2, .int x2), (4, .int s.1)] [] s.2) h (fun K s hK h => s_X12_doOne_110 (rec := rec) n hrec C x1 x2 s.1 K (fun x4 σ hk => hK (x4, σ) hk) s.2 h)
def w_X12_doOne_e (rec : Int32 → Int32 → Sto → (Sto → Prop) → Prop) (x1 : Int32) (σ : Sto) (P : Sto → Prop) : Prop :=
  (if (gi σ 101 42) = 300 then P (si (si σ 101 40 1) 101 47 1) else ∀ x2_2 : Int32, x2_2 = 144 + (9 * x1) → vp_in x2_2 2105 ∧ ∀ σ_5 : Sto, σ_5 = si σ 101 42 ((gi σ 101 42) + 1) → ∀ x3_7 : Int32, x3_7 = gi σ_5 106 (tn x2_2) → (if 5 ≤ x3_7 then (if x3_7 = 5 then w_X12_isSo x2_2 σ_5 (fun r_22 σ_21 => (if r_22 = 0 then w_X12_doOne_101 rec x1 x2_2 x3_7 σ_21 P else vp_in (x2_2 + 8) 2105 ∧ rec (x1 + 1) (gi σ_21 106 (tn (x2_2 + 8))) σ_21 (fun σ_25 => P σ_25))) else w_X12_doOne_101 rec x1 x2_2 x3_7 σ_5 P) else w_X12_does x2_2 σ_5 (fun r_28 σ_27 => P (si σ_27 101 43 ((gi σ_5 101 43) + r_28)))))
theorem s_X12_doOne_e {B : Nat} {E : Nat → List (Nat × Value) → List Value → Sto → Prop} (rec : Int32 → Int32 → Sto → (Sto → Prop) → Prop) (n : Nat) (hrec : ∀ (x1 : Int32) (x2 : Int32) (σ : Sto) (P : Sto → Prop), rec x1 x2 σ P → Ct yX12_doAll cX12_doAll 4 none (8 + 2 * n + 1) (187 + n * 47 + 24) (fun B => [.ref (B + 101), .int x1, .int x2]) σ (QFv P)) {P : Sto → Prop} (C : Cy B E RX12 cX12_doOne 5 none (8 + 2 * (n + 1)) (187 + (n + 1) * 47) (Zm (QFv P))) (x1 : Int32) (σ : Sto) (h : w_X12_doOne_e rec x1 σ P) : E 0 [(0, .ref (B + 101)), (1, .int x1)] [] σ := by
  unfold w_X12_doOne_e at h
  refine f_aload_n C (j := 0) dX12_doOne_0 rfl rfl rfl ?_
  refine f_geti C tF_X12_484 rfl o101 dX12_doOne_1 rfl ?_
  refine f_sipush C (v := 300) dX12_doOne_4 ks300 rfl ?_
  refine f_icmp_ne C (t := 21) dX12_doOne_7 (by decide) rfl (fun hq_1 => ?_) (fun hq_1 => ?_)
  · replace h := Eq.mp (if_neg hq_1) h
    refine f_aload_n C (j := 0) dX12_doOne_21 rfl rfl rfl ?_
    refine f_dup C dX12_doOne_22 rfl rfl ?_
    refine f_geti C tF_X12_484 rfl o101 dX12_doOne_23 rfl ?_
    refine f_iconst C (v := 1) dX12_doOne_26 kc1 rfl ?_
    refine f_iadd C dX12_doOne_27 rfl ?_
    refine f_puti C tF_X12_484 fm_12_42 rfl o101 dX12_doOne_28 rfl ?_
    refine f_sipush C (v := 144) dX12_doOne_31 ks144 rfl ?_
    refine f_bipush C (v := 9) dX12_doOne_34 kb9 rfl ?_
    refine f_iload_n C (j := 1) dX12_doOne_36 rfl rfl rfl ?_
    refine f_imul C dX12_doOne_37 rfl ?_
    refine f_iadd C dX12_doOne_38 rfl ?_
    refine f_name (fun x2_2 hx_3 => ?_)
    replace h := h x2_2 hx_3
    refine f_istore_n C (lv2 := [(2, .int x2_2), (0, .ref (B + 101)), (1, .int x1)]) dX12_doOne_39 rfl (by decide) rfl rfl ?_
    refine f_aload_n C (j := 1) dX12_doOne_40 rfl rfl rfl ?_
    refine f_getc C tF_X12_35 rfl o101 cs101_20 (by decide) dX12_doOne_41 rfl ?_
    refine f_iload_n C (j := 0) dX12_doOne_44 rfl rfl rfl ?_
    obtain ⟨hi_4, h⟩ := h
    refine f_names (fun σ_5 hσ_6 => ?_)
    replace h := h σ_5 hσ_6
    refine f_iald C (j := tn x2_2) a106 hi_4 rfl dX12_doOne_45 rfl ?_
    refine f_name (fun x3_7 hx_8 => ?_)
    replace h := h x3_7 hx_8
    refine f_istore_n C (lv2 := [(3, .int x3_7), (2, .int x2_2), (0, .ref (B + 101)), (1, .int x1)]) dX12_doOne_46 rfl (by decide) rfl rfl ?_
    refine f_iload_n C (j := 0) dX12_doOne_47 rfl rfl rfl ?_
    refine f_iconst C (v := 5) dX12_doOne_48 kc5 rfl ?_
    refine f_icmp_ge C (t := 69) dX12_doOne_49 (by decide) rfl (fun hq_9 => ?_) (fun hq_9 => ?_)
    · replace h := Eq.mp (if_pos hq_9) h
      refine f_iload_n C (j := 0) dX12_doOne_69 rfl rfl rfl ?_
      refine f_iconst C (v := 5) dX12_doOne_70 kc5 rfl ?_
      refine f_icmp_ne C (t := 101) dX12_doOne_71 (by decide) rfl (fun hq_10 => ?_) (fun hq_10 => ?_)
      · replace h := Eq.mp (if_neg hq_10) h
        refine f_lv C (lv2 := [(0, .ref (B + 101)), (1, .int x1), (2, .int x2_2), (3, .int x3_7)]) [2, 3, 1, 0] rfl ?_
        exact s_X12_doOne_101 (rec := rec) n hrec C _ _ _  _ h
      · replace h := Eq.mp (if_pos hq_10) h
        refine f_aload_n C (j := 2) dX12_doOne_74 rfl rfl rfl ?_
        refine f_iload_n C (j := 1) dX12_doOne_75 rfl rfl rfl ?_
        refine f_callVi C (a := 101) (ci := 12) (As := fun B => [.int x2_2]) o101 rfl (c_X12_isSo  _ _ _ h) tM_X12_499 tI_X12_isSo tS_X12_isSo tN_X12 tC_X12_isSo 1 dd_X12_isSo rfl (by omega) (by omega) rfl (Nat.le_of_ble_eq_true rfl) dX12_doOne_76 rfl (fun r_22 σ_21 h => ?_)
        refine f_if_eq C (t := 101) dX12_doOne_79 (by decide) rfl (fun hq_23 => ?_) (fun hq_23 => ?_)
        · replace h := Eq.mp (if_pos hq_23) h
          refine f_lv C (lv2 := [(0, .ref (B + 101)), (1, .int x1), (2, .int x2_2), (3, .int x3_7)]) [2, 3, 1, 0] rfl ?_
          exact s_X12_doOne_101 (rec := rec) n hrec C _ _ _  _ h
        · replace h := Eq.mp (if_neg hq_23) h
          refine f_aload_n C (j := 2) dX12_doOne_82 rfl rfl rfl ?_
          refine f_iload_n C (j := 3) dX12_doOne_83 rfl rfl rfl ?_
          refine f_iconst C (v := 1) dX12_doOne_84 kc1 rfl ?_
          refine f_iadd C dX12_doOne_85 rfl ?_
          refine f_aload_n C (j := 2) dX12_doOne_86 rfl rfl rfl ?_
          refine f_getc C tF_X12_35 rfl o101 cs101_20 (by decide) dX12_doOne_87 rfl ?_
          refine f_iload_n C (j := 1) dX12_doOne_90 rfl rfl rfl ?_
          refine f_bipush C (v := 8) dX12_doOne_91 kb8 rfl ?_
          refine f_iadd C dX12_doOne_93 rfl ?_
          obtain ⟨hi_24, h⟩ := h
          refine f_iald C (j := tn (x2_2 + 8)) a106 hi_24 rfl dX12_doOne_94 rfl ?_
          refine f_callVv C (a := 101) (ci := 12) (As := fun B => [.int (x1 + 1), .int (gi σ_21 106 (tn (x2_2 + 8)))]) o101 rfl (hrec _ _ _ _ h) tM_X12_502 tI_X12_doAll tS_X12_doAll tN_X12 tC_X12_doAll 2 dd_X12_doAll rfl (by omega) (by omega) rfl (Nat.le_of_ble_eq_true rfl) dX12_doOne_95 rfl (fun σ_25 h => ?_)
          refine f_goto C (t := 166) dX12_doOne_98 (by decide) ?_
          exact f_vret C dX12_doOne_166 h
    · replace h := Eq.mp (if_neg hq_9) h
      refine f_aload_n C (j := 2) dX12_doOne_52 rfl rfl rfl ?_
      refine f_dup C dX12_doOne_53 rfl rfl ?_
      refine f_geti C tF_X12_493 rfl o101 dX12_doOne_54 rfl ?_
      refine f_aload_n C (j := 2) dX12_doOne_57 rfl rfl rfl ?_
      refine f_iload_n C (j := 1) dX12_doOne_58 rfl rfl rfl ?_
      refine f_callVi C (a := 101) (ci := 12) (As := fun B => [.int x2_2]) o101 rfl (c_X12_does  _ _ _ h) tM_X12_496 tI_X12_does tS_X12_does tN_X12 tC_X12_does 1 dd_X12_does rfl (by omega) (by omega) rfl (Nat.le_of_ble_eq_true rfl) dX12_doOne_59 rfl (fun r_28 σ_27 h => ?_)
      refine f_iadd C dX12_doOne_62 rfl ?_
      refine f_puti C tF_X12_493 fm_12_43 rfl o101 dX12_doOne_63 rfl ?_
      refine f_goto C (t := 166) dX12_doOne_66 (by decide) ?_
      exact f_vret C dX12_doOne_166 h
  · replace h := Eq.mp (if_pos hq_1) h
    refine f_aload_n C (j := 0) dX12_doOne_10 rfl rfl rfl ?_
    refine f_iconst C (v := 1) dX12_doOne_11 kc1 rfl ?_
    refine f_putz C tF_X12_487 fm_12_40 rfl (Or.inr rfl) o101 dX12_doOne_12 rfl ?_
    refine f_aload_n C (j := 0) dX12_doOne_15 rfl rfl rfl ?_
    refine f_iconst C (v := 1) dX12_doOne_16 kc1 rfl ?_
    refine f_puti C tF_X12_490 fm_12_47 rfl o101 dX12_doOne_17 rfl ?_
    exact f_vret C dX12_doOne_20 h
def w_X12_doOne : Nat → Int32 → Sto → (Sto → Prop) → Prop
  | 0 => fun _ _ _ => False
  | n + 1 => fun x1 σ P => w_X12_doOne_e (w_X12_doAll_e (w_X12_doOne n)) x1 σ P
def w_X12_doAll (n : Nat) (x1 : Int32) (x2 : Int32) (σ : Sto) (P : Sto → Prop) : Prop := w_X12_doAll_e (w_X12_doOne n) x1 x2 σ P
theorem c_X12_doAll_o {rec : Int32 → Sto → (Sto → Prop) → Prop} (n : Nat) (hrec : ∀ (x1 : Int32) (σ : Sto) (P : Sto → Prop), rec x1 σ P → Ct yX12_doOne cX12_doOne 5 none (8 + 2 * n) (187 + n * 47) (fun B => [.ref (B + 101), .int x1]) σ (QFv P)) (x1 : Int32) (x2 : Int32) (σ : Sto) (P : Sto → Prop) (h : w_X12_doAll_e rec x1 x2 σ P) : Ct yX12_doAll cX12_doAll 4 none (8 + 2 * n + 1) (187 + n * 47 + 24) (fun B => [.ref (B + 101), .int x1, .int x2]) σ (QFv P) := Ct.of (by decide) (fun _ => Nat.le_of_ble_eq_true rfl) (fun B E C => s_X12_doAll_e (rec := rec) n hrec C x1 x2 σ h)
theorem c_X12_doOne (n : Nat) (x1 : Int32) (σ : Sto) (P : Sto → Prop) (h : w_X12_doOne n x1 σ P) : Ct yX12_doOne cX12_doOne 5 none (8 + 2 * n) (187 + n * 47) (fun B => [.ref (B + 101), .int x1]) σ (QFv P) := by
  induction n generalizing x1 σ P with
  | zero => exact h.elim
  | succ n ih => exact Ct.of (by decide) (fun _ => Nat.le_of_ble_eq_true rfl) (fun B E C => s_X12_doOne_e (rec := w_X12_doAll_e (w_X12_doOne n)) n (c_X12_doAll_o n ih) C x1 σ h)
theorem c_X12_doAll (n : Nat) (x1 : Int32) (x2 : Int32) (σ : Sto) (P : Sto → Prop) (h : w_X12_doAll n x1 x2 σ P) : Ct yX12_doAll cX12_doAll 4 none (8 + 2 * n + 1) (187 + n * 47 + 24) (fun B => [.ref (B + 101), .int x1, .int x2]) σ (QFv P) := c_X12_doAll_o n (c_X12_doOne n) x1 x2 σ P h
def w_X12_runsCenturies (x1 : Int32) (σ : Sto) (P : Sto → Prop) : Prop :=
  ∀ σ_1 : Sto, σ_1 = si (si (si (si (si (si (si (si σ 101 41 x1) 101 42 0) 101 43 0) 101 44 0) 101 45 0) 101 46 0) 101 47 0) 101 40 0 → w_X12_doAll 16 0 (gi σ_1 106 143) σ_1 (fun σ_3 => P σ_3)
theorem s_X12_runsCenturies {B : Nat} {E : Nat → List (Nat × Value) → List Value → Sto → Prop} {P : Sto → Prop} (C : Cy B E RX12 cX12_runsCenturies 2 none 42 986 (Zm (QFv P))) (x1 : Int32) (σ : Sto) (h : w_X12_runsCenturies x1 σ P) : E 0 [(0, .ref (B + 101)), (1, .int x1)] [] σ := by
  unfold w_X12_runsCenturies at h
  refine f_aload_n C (j := 0) dX12_runsCenturies_0 rfl rfl rfl ?_
  refine f_iload_n C (j := 1) dX12_runsCenturies_1 rfl rfl rfl ?_
  refine f_puti C tF_X12_462 fm_12_41 rfl o101 dX12_runsCenturies_2 rfl ?_
  refine f_aload_n C (j := 0) dX12_runsCenturies_5 rfl rfl rfl ?_
  refine f_iconst C (v := 0) dX12_runsCenturies_6 kc0 rfl ?_
  refine f_puti C tF_X12_484 fm_12_42 rfl o101 dX12_runsCenturies_7 rfl ?_
  refine f_aload_n C (j := 0) dX12_runsCenturies_10 rfl rfl rfl ?_
  refine f_iconst C (v := 0) dX12_runsCenturies_11 kc0 rfl ?_
  refine f_puti C tF_X12_493 fm_12_43 rfl o101 dX12_runsCenturies_12 rfl ?_
  refine f_aload_n C (j := 0) dX12_runsCenturies_15 rfl rfl rfl ?_
  refine f_iconst C (v := 0) dX12_runsCenturies_16 kc0 rfl ?_
  refine f_puti C tF_X12_469 fm_12_44 rfl o101 dX12_runsCenturies_17 rfl ?_
  refine f_aload_n C (j := 0) dX12_runsCenturies_20 rfl rfl rfl ?_
  refine f_iconst C (v := 0) dX12_runsCenturies_21 kc0 rfl ?_
  refine f_puti C tF_X12_466 fm_12_45 rfl o101 dX12_runsCenturies_22 rfl ?_
  refine f_aload_n C (j := 0) dX12_runsCenturies_25 rfl rfl rfl ?_
  refine f_iconst C (v := 0) dX12_runsCenturies_26 kc0 rfl ?_
  refine f_puti C tF_X12_475 fm_12_46 rfl o101 dX12_runsCenturies_27 rfl ?_
  refine f_aload_n C (j := 0) dX12_runsCenturies_30 rfl rfl rfl ?_
  refine f_iconst C (v := 0) dX12_runsCenturies_31 kc0 rfl ?_
  refine f_puti C tF_X12_490 fm_12_47 rfl o101 dX12_runsCenturies_32 rfl ?_
  refine f_aload_n C (j := 0) dX12_runsCenturies_35 rfl rfl rfl ?_
  refine f_iconst C (v := 0) dX12_runsCenturies_36 kc0 rfl ?_
  refine f_putz C tF_X12_487 fm_12_40 rfl (Or.inl rfl) o101 dX12_runsCenturies_37 rfl ?_
  refine f_aload_n C (j := 0) dX12_runsCenturies_40 rfl rfl rfl ?_
  refine f_iconst C (v := 0) dX12_runsCenturies_41 kc0 rfl ?_
  refine f_aload_n C (j := 0) dX12_runsCenturies_42 rfl rfl rfl ?_
  refine f_getc C tF_X12_35 rfl o101 cs101_20 (by decide) dX12_runsCenturies_43 rfl ?_
  refine f_sipush C (v := 143) dX12_runsCenturies_46 ks143 rfl ?_
  refine f_names (fun σ_1 hσ_2 => ?_)
  replace h := h σ_1 hσ_2
  refine f_iald C (j := 143) a106 (vp_lit (by decide)) rfl dX12_runsCenturies_49 rfl ?_
  refine f_callVv C (a := 101) (ci := 12) (As := fun B => [.int 0, .int (gi σ_1 106 143)]) o101 rfl (c_X12_doAll 16 _ _ _ _ h) tM_X12_502 tI_X12_doAll tS_X12_doAll tN_X12 tC_X12_doAll 2 dd_X12_doAll rfl (by decide) (by decide) rfl (Nat.le_of_ble_eq_true rfl) dX12_runsCenturies_50 rfl (fun σ_3 h => ?_)
  exact f_vret C dX12_runsCenturies_53 h
theorem c_X12_runsCenturies (x1 : Int32) (σ : Sto) (P : Sto → Prop) (h : w_X12_runsCenturies x1 σ P) : Ct yX12_runsCenturies cX12_runsCenturies 2 none 42 986 (fun B => [.ref (B + 101), .int x1]) σ (QFv P) := Ct.of (by decide) (fun _ => Nat.le_of_ble_eq_true rfl) (fun B E C => s_X12_runsCenturies C x1 σ h)
