def w_X11_firstMove (x1 : Int32) (x2 : Int32) (σ : Sto) (P : Int32 → Sto → Prop) : Prop :=
  w_X11_noGame x1 x2 σ (fun r_2 σ_1 => (if r_2 = 0 then w_X5_bestOpening x1 x2 σ_1 (fun r_5 σ_4 => w_X11_fineOrNone r_5 σ_4 (fun r_7 σ_6 => P r_7 σ_6)) else w_X11_refuse 5 σ_1 (fun r_9 σ_8 => P r_9 σ_8)))
theorem s_X11_firstMove {B : Nat} {E : Nat → List (Nat × Value) → List Value → Sto → Prop} {P : Int32 → Sto → Prop} (C : Cy B E RX11 cX11_firstMove 3 (some .int) 20 552 (Zm (QFi P))) (x1 : Int32) (x2 : Int32) (σ : Sto) (h : w_X11_firstMove x1 x2 σ P) : E 0 [(0, .ref (B + 1)), (1, .int x1), (2, .int x2)] [] σ := by
  unfold w_X11_firstMove at h
  refine f_aload_n C (j := 0) dX11_firstMove_0 rfl rfl rfl ?_
  refine f_iload_n C (j := 1) dX11_firstMove_1 rfl rfl rfl ?_
  refine f_iload_n C (j := 2) dX11_firstMove_2 rfl rfl rfl ?_
  refine f_callVi C (a := 1) (ci := 11) (As := fun B => [.int x1, .int x2]) o1 rfl (c_X11_noGame  _ _ _ _ h) tM_X11_365 tI_X11_noGame tS_X11_noGame tN_X11 tC_X11_noGame 2 dd_X11_noGame rfl (by decide) (by decide) rfl (Nat.le_of_ble_eq_true rfl) dX11_firstMove_3 rfl (fun r_2 σ_1 h => ?_)
  refine f_if_eq C (t := 17) dX11_firstMove_6 (by decide) rfl (fun hq_3 => ?_) (fun hq_3 => ?_)
  · replace h := Eq.mp (if_pos hq_3) h
    refine f_aload_n C (j := 0) dX11_firstMove_17 rfl rfl rfl ?_
    refine f_aload_n C (j := 0) dX11_firstMove_18 rfl rfl rfl ?_
    refine f_getc C tF_X11_76 rfl o1 cs1_6 (by decide) dX11_firstMove_19 rfl ?_
    refine f_iload_n C (j := 1) dX11_firstMove_22 rfl rfl rfl ?_
    refine f_iload_n C (j := 2) dX11_firstMove_23 rfl rfl rfl ?_
    refine f_callVi C (a := 93) (ci := 5) (As := fun B => [.int x1, .int x2]) o93 rfl (c_X5_bestOpening  _ _ _ _ h) tM_X11_371 tI_X5_bestOpening tS_X5_bestOpening tN_X5 tC_X5_bestOpening 2 dd_X5_bestOpening rfl (by decide) (by decide) rfl (Nat.le_of_ble_eq_true rfl) dX11_firstMove_24 rfl (fun r_5 σ_4 h => ?_)
    refine f_callVi C (a := 1) (ci := 11) (As := fun B => [.int r_5]) o1 rfl (c_X11_fineOrNone  _ _ _ h) tM_X11_312 tI_X11_fineOrNone tS_X11_fineOrNone tN_X11 tC_X11_fineOrNone 1 dd_X11_fineOrNone rfl (by decide) (by decide) rfl (Nat.le_of_ble_eq_true rfl) dX11_firstMove_27 rfl (fun r_7 σ_6 h => ?_)
    exact f_iret C dX11_firstMove_30 h
  · replace h := Eq.mp (if_neg hq_3) h
    refine f_aload_n C (j := 0) dX11_firstMove_9 rfl rfl rfl ?_
    refine f_iconst C (v := 5) dX11_firstMove_10 kc5 rfl ?_
    refine f_callVi C (a := 1) (ci := 11) (As := fun B => [.int 5]) o1 rfl (c_X11_refuse  _ _ _ h) tM_X11_126 tI_X11_refuse tS_X11_refuse tN_X11 tC_X11_refuse 1 dd_X11_refuse rfl (by decide) (by decide) rfl (Nat.le_of_ble_eq_true rfl) dX11_firstMove_11 rfl (fun r_9 σ_8 h => ?_)
    refine f_goto C (t := 30) dX11_firstMove_14 (by decide) ?_
    exact f_iret C dX11_firstMove_30 h
theorem c_X11_firstMove (x1 : Int32) (x2 : Int32) (σ : Sto) (P : Int32 → Sto → Prop) (h : w_X11_firstMove x1 x2 σ P) : Ct yX11_firstMove cX11_firstMove 3 (some .int) 20 552 (fun B => [.ref (B + 1), .int x1, .int x2]) σ (QFi P) := Ct.of (by decide) (fun _ => Nat.le_of_ble_eq_true rfl) (fun B E C => s_X11_firstMove C x1 x2 σ h)
def w_X11_againSet (x1 : Int32) (σ : Sto) (P : Int32 → Sto → Prop) : Prop :=
  w_X11_noThing x1 σ (fun r_2 σ_1 => (if r_2 = 0 then w_X5_leastMaking x1 σ_1 (fun r_5 σ_4 => w_X11_fineOrNone r_5 σ_4 (fun r_7 σ_6 => P r_7 σ_6)) else w_X11_refuse 2 σ_1 (fun r_9 σ_8 => P r_9 σ_8)))
theorem s_X11_againSet {B : Nat} {E : Nat → List (Nat × Value) → List Value → Sto → Prop} {P : Int32 → Sto → Prop} (C : Cy B E RX11 cX11_againSet 2 (some .int) 4 98 (Zm (QFi P))) (x1 : Int32) (σ : Sto) (h : w_X11_againSet x1 σ P) : E 0 [(0, .ref (B + 1)), (1, .int x1)] [] σ := by
  unfold w_X11_againSet at h
  refine f_aload_n C (j := 0) dX11_againSet_0 rfl rfl rfl ?_
  refine f_iload_n C (j := 1) dX11_againSet_1 rfl rfl rfl ?_
  refine f_callVi C (a := 1) (ci := 11) (As := fun B => [.int x1]) o1 rfl (c_X11_noThing  _ _ _ h) tM_X11_267 tI_X11_noThing tS_X11_noThing tN_X11 tC_X11_noThing 1 dd_X11_noThing rfl (by decide) (by decide) rfl (Nat.le_of_ble_eq_true rfl) dX11_againSet_2 rfl (fun r_2 σ_1 h => ?_)
  refine f_if_eq C (t := 16) dX11_againSet_5 (by decide) rfl (fun hq_3 => ?_) (fun hq_3 => ?_)
  · replace h := Eq.mp (if_pos hq_3) h
    refine f_aload_n C (j := 0) dX11_againSet_16 rfl rfl rfl ?_
    refine f_aload_n C (j := 0) dX11_againSet_17 rfl rfl rfl ?_
    refine f_getc C tF_X11_76 rfl o1 cs1_6 (by decide) dX11_againSet_18 rfl ?_
    refine f_iload_n C (j := 1) dX11_againSet_21 rfl rfl rfl ?_
    refine f_callVi C (a := 93) (ci := 5) (As := fun B => [.int x1]) o93 rfl (c_X5_leastMaking  _ _ _ h) tM_X11_377 tI_X5_leastMaking tS_X5_leastMaking tN_X5 tC_X5_leastMaking 1 dd_X5_leastMaking rfl (by decide) (by decide) rfl (Nat.le_of_ble_eq_true rfl) dX11_againSet_22 rfl (fun r_5 σ_4 h => ?_)
    refine f_callVi C (a := 1) (ci := 11) (As := fun B => [.int r_5]) o1 rfl (c_X11_fineOrNone  _ _ _ h) tM_X11_312 tI_X11_fineOrNone tS_X11_fineOrNone tN_X11 tC_X11_fineOrNone 1 dd_X11_fineOrNone rfl (by decide) (by decide) rfl (Nat.le_of_ble_eq_true rfl) dX11_againSet_25 rfl (fun r_7 σ_6 h => ?_)
    exact f_iret C dX11_againSet_28 h
  · replace h := Eq.mp (if_neg hq_3) h
    refine f_aload_n C (j := 0) dX11_againSet_8 rfl rfl rfl ?_
    refine f_iconst C (v := 2) dX11_againSet_9 kc2 rfl ?_
    refine f_callVi C (a := 1) (ci := 11) (As := fun B => [.int 2]) o1 rfl (c_X11_refuse  _ _ _ h) tM_X11_126 tI_X11_refuse tS_X11_refuse tN_X11 tC_X11_refuse 1 dd_X11_refuse rfl (by decide) (by decide) rfl (Nat.le_of_ble_eq_true rfl) dX11_againSet_10 rfl (fun r_9 σ_8 h => ?_)
    refine f_goto C (t := 28) dX11_againSet_13 (by decide) ?_
    exact f_iret C dX11_againSet_28 h
theorem c_X11_againSet (x1 : Int32) (σ : Sto) (P : Int32 → Sto → Prop) (h : w_X11_againSet x1 σ P) : Ct yX11_againSet cX11_againSet 2 (some .int) 4 98 (fun B => [.ref (B + 1), .int x1]) σ (QFi P) := Ct.of (by decide) (fun _ => Nat.le_of_ble_eq_true rfl) (fun B E C => s_X11_againSet C x1 σ h)
def w_X11_again (x1 : Int32) (σ : Sto) (P : Int32 → Sto → Prop) : Prop :=
  w_X11_againSet x1 σ (fun r_2 σ_1 => w_X11_sizeOf r_2 σ_1 (fun r_4 σ_3 => P r_4 σ_3))
theorem s_X11_again {B : Nat} {E : Nat → List (Nat × Value) → List Value → Sto → Prop} {P : Int32 → Sto → Prop} (C : Cy B E RX11 cX11_again 2 (some .int) 5 119 (Zm (QFi P))) (x1 : Int32) (σ : Sto) (h : w_X11_again x1 σ P) : E 0 [(0, .ref (B + 1)), (1, .int x1)] [] σ := by
  unfold w_X11_again at h
  refine f_aload_n C (j := 0) dX11_again_0 rfl rfl rfl ?_
  refine f_aload_n C (j := 0) dX11_again_1 rfl rfl rfl ?_
  refine f_iload_n C (j := 1) dX11_again_2 rfl rfl rfl ?_
  refine f_callVi C (a := 1) (ci := 11) (As := fun B => [.int x1]) o1 rfl (c_X11_againSet  _ _ _ h) tM_X11_374 tI_X11_againSet tS_X11_againSet tN_X11 tC_X11_againSet 1 dd_X11_againSet rfl (by decide) (by decide) rfl (Nat.le_of_ble_eq_true rfl) dX11_again_3 rfl (fun r_2 σ_1 h => ?_)
  refine f_callVi C (a := 1) (ci := 11) (As := fun B => [.int r_2]) o1 rfl (c_X11_sizeOf  _ _ _ h) tM_X11_336 tI_X11_sizeOf tS_X11_sizeOf tN_X11 tC_X11_sizeOf 1 dd_X11_sizeOf rfl (by decide) (by decide) rfl (Nat.le_of_ble_eq_true rfl) dX11_again_6 rfl (fun r_4 σ_3 h => ?_)
  exact f_iret C dX11_again_9 h
theorem c_X11_again (x1 : Int32) (σ : Sto) (P : Int32 → Sto → Prop) (h : w_X11_again x1 σ P) : Ct yX11_again cX11_again 2 (some .int) 5 119 (fun B => [.ref (B + 1), .int x1]) σ (QFi P) := Ct.of (by decide) (fun _ => Nat.le_of_ble_eq_true rfl) (fun B E C => s_X11_again C x1 σ h)
def w_X11_wasIt (x1 : Int32) (σ : Sto) (P : Int32 → Sto → Prop) : Prop :=
  w_X11_noSetOfThings x1 σ (fun r_2 σ_1 => (if r_2 = 0 then w_X4_causesOf x1 σ_1 (fun r_5 σ_4 => w_X11_fine r_5 σ_4 (fun r_7 σ_6 => P r_7 σ_6)) else w_X11_refuse 5 σ_1 (fun r_9 σ_8 => P r_9 σ_8)))
theorem s_X11_wasIt {B : Nat} {E : Nat → List (Nat × Value) → List Value → Sto → Prop} {P : Int32 → Sto → Prop} (C : Cy B E RX11 cX11_wasIt 2 (some .int) 5 114 (Zm (QFi P))) (x1 : Int32) (σ : Sto) (h : w_X11_wasIt x1 σ P) : E 0 [(0, .ref (B + 1)), (1, .int x1)] [] σ := by
  unfold w_X11_wasIt at h
  refine f_aload_n C (j := 0) dX11_wasIt_0 rfl rfl rfl ?_
  refine f_iload_n C (j := 1) dX11_wasIt_1 rfl rfl rfl ?_
  refine f_callVi C (a := 1) (ci := 11) (As := fun B => [.int x1]) o1 rfl (c_X11_noSetOfThings  _ _ _ h) tM_X11_353 tI_X11_noSetOfThings tS_X11_noSetOfThings tN_X11 tC_X11_noSetOfThings 1 dd_X11_noSetOfThings rfl (by decide) (by decide) rfl (Nat.le_of_ble_eq_true rfl) dX11_wasIt_2 rfl (fun r_2 σ_1 h => ?_)
  refine f_if_eq C (t := 16) dX11_wasIt_5 (by decide) rfl (fun hq_3 => ?_) (fun hq_3 => ?_)
  · replace h := Eq.mp (if_pos hq_3) h
    refine f_aload_n C (j := 0) dX11_wasIt_16 rfl rfl rfl ?_
    refine f_aload_n C (j := 0) dX11_wasIt_17 rfl rfl rfl ?_
    refine f_getc C tF_X11_85 rfl o1 cs1_7 (by decide) dX11_wasIt_18 rfl ?_
    refine f_iload_n C (j := 1) dX11_wasIt_21 rfl rfl rfl ?_
    refine f_callVi C (a := 95) (ci := 4) (As := fun B => [.int x1]) o95 rfl (c_X4_causesOf  _ _ _ h) tM_X11_380 tI_X4_causesOf tS_X4_causesOf tN_X4 tC_X4_causesOf 1 dd_X4_causesOf rfl (by decide) (by decide) rfl (Nat.le_of_ble_eq_true rfl) dX11_wasIt_22 rfl (fun r_5 σ_4 h => ?_)
    refine f_callVi C (a := 1) (ci := 11) (As := fun B => [.int r_5]) o1 rfl (c_X11_fine  _ _ _ h) tM_X11_130 tI_X11_fine tS_X11_fine tN_X11 tC_X11_fine 1 dd_X11_fine rfl (by decide) (by decide) rfl (Nat.le_of_ble_eq_true rfl) dX11_wasIt_25 rfl (fun r_7 σ_6 h => ?_)
    exact f_iret C dX11_wasIt_28 h
  · replace h := Eq.mp (if_neg hq_3) h
    refine f_aload_n C (j := 0) dX11_wasIt_8 rfl rfl rfl ?_
    refine f_iconst C (v := 5) dX11_wasIt_9 kc5 rfl ?_
    refine f_callVi C (a := 1) (ci := 11) (As := fun B => [.int 5]) o1 rfl (c_X11_refuse  _ _ _ h) tM_X11_126 tI_X11_refuse tS_X11_refuse tN_X11 tC_X11_refuse 1 dd_X11_refuse rfl (by decide) (by decide) rfl (Nat.le_of_ble_eq_true rfl) dX11_wasIt_10 rfl (fun r_9 σ_8 h => ?_)
    refine f_goto C (t := 28) dX11_wasIt_13 (by decide) ?_
    exact f_iret C dX11_wasIt_28 h
theorem c_X11_wasIt (x1 : Int32) (σ : Sto) (P : Int32 → Sto → Prop) (h : w_X11_wasIt x1 σ P) : Ct yX11_wasIt cX11_wasIt 2 (some .int) 5 114 (fun B => [.ref (B + 1), .int x1]) σ (QFi P) := Ct.of (by decide) (fun _ => Nat.le_of_ble_eq_true rfl) (fun B E C => s_X11_wasIt C x1 σ h)
def w_X11_noSuspects (x1 : Int32) (x2 : Int32) (σ : Sto) (P : Int32 → Sto → Prop) : Prop :=
  w_X11_noSetOfThings x1 σ (fun r_2 σ_1 => (if r_2 = 0 then w_J6_bitCount_0f7a4 x1 σ_1 (fun r_5 σ_4 => (if r_5 < x2 then P 1 σ_4 else w_X6_atPresent σ_4 (fun r_8 σ_7 => (if (x1 &&& (~~~r_8)) = 0 then P 0 σ_7 else P 1 σ_7)))) else P 1 σ_1))
theorem s_X11_noSuspects {B : Nat} {E : Nat → List (Nat × Value) → List Value → Sto → Prop} {P : Int32 → Sto → Prop} (C : Cy B E RX11 cX11_noSuspects 3 (some .boolean) 3 69 (Zm (QFi P))) (x1 : Int32) (x2 : Int32) (σ : Sto) (h : w_X11_noSuspects x1 x2 σ P) : E 0 [(0, .ref (B + 1)), (1, .int x1), (2, .int x2)] [] σ := by
  unfold w_X11_noSuspects at h
  refine f_aload_n C (j := 0) dX11_noSuspects_0 rfl rfl rfl ?_
  refine f_iload_n C (j := 1) dX11_noSuspects_1 rfl rfl rfl ?_
  refine f_callVi C (a := 1) (ci := 11) (As := fun B => [.int x1]) o1 rfl (c_X11_noSetOfThings  _ _ _ h) tM_X11_353 tI_X11_noSetOfThings tS_X11_noSetOfThings tN_X11 tC_X11_noSetOfThings 1 dd_X11_noSetOfThings rfl (by decide) (by decide) rfl (Nat.le_of_ble_eq_true rfl) dX11_noSuspects_2 rfl (fun r_2 σ_1 h => ?_)
  refine f_if_ne C (t := 30) dX11_noSuspects_5 (by decide) rfl (fun hq_3 => ?_) (fun hq_3 => ?_)
  · replace h := Eq.mp (if_neg hq_3) h
    refine f_iconst C (v := 1) dX11_noSuspects_30 kc1 rfl ?_
    refine f_goto C (t := 35) dX11_noSuspects_31 (by decide) ?_
    exact f_zret C (Or.inr rfl) dX11_noSuspects_35 h
  · replace h := Eq.mp (if_pos hq_3) h
    refine f_iload_n C (j := 1) dX11_noSuspects_8 rfl rfl rfl ?_
    refine f_callSi C (As := fun B => [.int x1]) (c_J6_bitCount_0f7a4  _ _ _ h) tM_X11_342 tT_J6_bitCount_0f7a4 tN_J6 tC_J6_bitCount_0f7a4 1 dd_J6_bitCount_0f7a4 rfl (by decide) (by decide) rfl (Nat.le_of_ble_eq_true rfl) dX11_noSuspects_9 rfl (fun r_5 σ_4 h => ?_)
    refine f_iload_n C (j := 2) dX11_noSuspects_12 rfl rfl rfl ?_
    refine f_icmp_lt C (t := 30) dX11_noSuspects_13 (by decide) rfl (fun hq_6 => ?_) (fun hq_6 => ?_)
    · replace h := Eq.mp (if_pos hq_6) h
      refine f_iconst C (v := 1) dX11_noSuspects_30 kc1 rfl ?_
      refine f_goto C (t := 35) dX11_noSuspects_31 (by decide) ?_
      exact f_zret C (Or.inr rfl) dX11_noSuspects_35 h
    · replace h := Eq.mp (if_neg hq_6) h
      refine f_iload_n C (j := 1) dX11_noSuspects_16 rfl rfl rfl ?_
      refine f_aload_n C (j := 0) dX11_noSuspects_17 rfl rfl rfl ?_
      refine f_getc C tF_X11_58 rfl o1 cs1_4 (by decide) dX11_noSuspects_18 rfl ?_
      refine f_callVi C (a := 88) (ci := 6) (As := fun B => []) o88 rfl (c_X6_atPresent   _ _ h) tM_X11_242 tI_X6_atPresent tS_X6_atPresent tN_X6 tC_X6_atPresent 0 dd_X6_atPresent rfl (by decide) (by decide) rfl (Nat.le_of_ble_eq_true rfl) dX11_noSuspects_21 rfl (fun r_8 σ_7 h => ?_)
      refine f_iconst C (v := (-1)) dX11_noSuspects_24 kcm1 rfl ?_
      refine f_inot C dX11_noSuspects_25 rfl ?_
      refine f_iand C dX11_noSuspects_26 rfl ?_
      refine f_if_eq C (t := 34) dX11_noSuspects_27 (by decide) rfl (fun hq_9 => ?_) (fun hq_9 => ?_)
      · replace h := Eq.mp (if_pos hq_9) h
        refine f_iconst C (v := 0) dX11_noSuspects_34 kc0 rfl ?_
        exact f_zret C (Or.inl rfl) dX11_noSuspects_35 h
      · replace h := Eq.mp (if_neg hq_9) h
        refine f_iconst C (v := 1) dX11_noSuspects_30 kc1 rfl ?_
        refine f_goto C (t := 35) dX11_noSuspects_31 (by decide) ?_
        exact f_zret C (Or.inr rfl) dX11_noSuspects_35 h
theorem c_X11_noSuspects (x1 : Int32) (x2 : Int32) (σ : Sto) (P : Int32 → Sto → Prop) (h : w_X11_noSuspects x1 x2 σ P) : Ct yX11_noSuspects cX11_noSuspects 3 (some .boolean) 3 69 (fun B => [.ref (B + 1), .int x1, .int x2]) σ (QFi P) := Ct.of (by decide) (fun _ => Nat.le_of_ble_eq_true rfl) (fun B E C => s_X11_noSuspects C x1 x2 σ h)
def w_X11_tells (x1 : Int32) (σ : Sto) (P : Int32 → Sto → Prop) : Prop :=
  w_X11_noSuspects x1 2 σ (fun r_2 σ_1 => (if r_2 = 0 then w_X4_bestLook x1 σ_1 (fun r_5 σ_4 => w_X11_fineOrNone r_5 σ_4 (fun r_7 σ_6 => P r_7 σ_6)) else w_X11_refuse 5 σ_1 (fun r_9 σ_8 => P r_9 σ_8)))
theorem s_X11_tells {B : Nat} {E : Nat → List (Nat × Value) → List Value → Sto → Prop} {P : Int32 → Sto → Prop} (C : Cy B E RX11 cX11_tells 2 (some .int) 6 139 (Zm (QFi P))) (x1 : Int32) (σ : Sto) (h : w_X11_tells x1 σ P) : E 0 [(0, .ref (B + 1)), (1, .int x1)] [] σ := by
  unfold w_X11_tells at h
  refine f_aload_n C (j := 0) dX11_tells_0 rfl rfl rfl ?_
  refine f_iload_n C (j := 1) dX11_tells_1 rfl rfl rfl ?_
  refine f_iconst C (v := 2) dX11_tells_2 kc2 rfl ?_
  refine f_callVi C (a := 1) (ci := 11) (As := fun B => [.int x1, .int 2]) o1 rfl (c_X11_noSuspects  _ _ _ _ h) tM_X11_383 tI_X11_noSuspects tS_X11_noSuspects tN_X11 tC_X11_noSuspects 2 dd_X11_noSuspects rfl (by decide) (by decide) rfl (Nat.le_of_ble_eq_true rfl) dX11_tells_3 rfl (fun r_2 σ_1 h => ?_)
  refine f_if_eq C (t := 17) dX11_tells_6 (by decide) rfl (fun hq_3 => ?_) (fun hq_3 => ?_)
  · replace h := Eq.mp (if_pos hq_3) h
    refine f_aload_n C (j := 0) dX11_tells_17 rfl rfl rfl ?_
    refine f_aload_n C (j := 0) dX11_tells_18 rfl rfl rfl ?_
    refine f_getc C tF_X11_85 rfl o1 cs1_7 (by decide) dX11_tells_19 rfl ?_
    refine f_iload_n C (j := 1) dX11_tells_22 rfl rfl rfl ?_
    refine f_callVi C (a := 95) (ci := 4) (As := fun B => [.int x1]) o95 rfl (c_X4_bestLook  _ _ _ h) tM_X11_386 tI_X4_bestLook tS_X4_bestLook tN_X4 tC_X4_bestLook 1 dd_X4_bestLook rfl (by decide) (by decide) rfl (Nat.le_of_ble_eq_true rfl) dX11_tells_23 rfl (fun r_5 σ_4 h => ?_)
    refine f_callVi C (a := 1) (ci := 11) (As := fun B => [.int r_5]) o1 rfl (c_X11_fineOrNone  _ _ _ h) tM_X11_312 tI_X11_fineOrNone tS_X11_fineOrNone tN_X11 tC_X11_fineOrNone 1 dd_X11_fineOrNone rfl (by decide) (by decide) rfl (Nat.le_of_ble_eq_true rfl) dX11_tells_26 rfl (fun r_7 σ_6 h => ?_)
    exact f_iret C dX11_tells_29 h
  · replace h := Eq.mp (if_neg hq_3) h
    refine f_aload_n C (j := 0) dX11_tells_9 rfl rfl rfl ?_
    refine f_iconst C (v := 5) dX11_tells_10 kc5 rfl ?_
    refine f_callVi C (a := 1) (ci := 11) (As := fun B => [.int 5]) o1 rfl (c_X11_refuse  _ _ _ h) tM_X11_126 tI_X11_refuse tS_X11_refuse tN_X11 tC_X11_refuse 1 dd_X11_refuse rfl (by decide) (by decide) rfl (Nat.le_of_ble_eq_true rfl) dX11_tells_11 rfl (fun r_9 σ_8 h => ?_)
    refine f_goto C (t := 29) dX11_tells_14 (by decide) ?_
    exact f_iret C dX11_tells_29 h
theorem c_X11_tells (x1 : Int32) (σ : Sto) (P : Int32 → Sto → Prop) (h : w_X11_tells x1 σ P) : Ct yX11_tells cX11_tells 2 (some .int) 6 139 (fun B => [.ref (B + 1), .int x1]) σ (QFi P) := Ct.of (by decide) (fun _ => Nat.le_of_ble_eq_true rfl) (fun B E C => s_X11_tells C x1 σ h)
def w_X11_sure (x1 : Int32) (σ : Sto) (P : Int32 → Sto → Prop) : Prop :=
  w_X11_noSuspects x1 1 σ (fun r_2 σ_1 => (if r_2 = 0 then w_X4_fewestLooks x1 σ_1 (fun r_5 σ_4 => w_X11_fineOrNone r_5 σ_4 (fun r_7 σ_6 => P r_7 σ_6)) else w_X11_refuse 5 σ_1 (fun r_9 σ_8 => P r_9 σ_8)))
theorem s_X11_sure {B : Nat} {E : Nat → List (Nat × Value) → List Value → Sto → Prop} {P : Int32 → Sto → Prop} (C : Cy B E RX11 cX11_sure 2 (some .int) 19 468 (Zm (QFi P))) (x1 : Int32) (σ : Sto) (h : w_X11_sure x1 σ P) : E 0 [(0, .ref (B + 1)), (1, .int x1)] [] σ := by
  unfold w_X11_sure at h
  refine f_aload_n C (j := 0) dX11_sure_0 rfl rfl rfl ?_
  refine f_iload_n C (j := 1) dX11_sure_1 rfl rfl rfl ?_
  refine f_iconst C (v := 1) dX11_sure_2 kc1 rfl ?_
  refine f_callVi C (a := 1) (ci := 11) (As := fun B => [.int x1, .int 1]) o1 rfl (c_X11_noSuspects  _ _ _ _ h) tM_X11_383 tI_X11_noSuspects tS_X11_noSuspects tN_X11 tC_X11_noSuspects 2 dd_X11_noSuspects rfl (by decide) (by decide) rfl (Nat.le_of_ble_eq_true rfl) dX11_sure_3 rfl (fun r_2 σ_1 h => ?_)
  refine f_if_eq C (t := 17) dX11_sure_6 (by decide) rfl (fun hq_3 => ?_) (fun hq_3 => ?_)
  · replace h := Eq.mp (if_pos hq_3) h
    refine f_aload_n C (j := 0) dX11_sure_17 rfl rfl rfl ?_
    refine f_aload_n C (j := 0) dX11_sure_18 rfl rfl rfl ?_
    refine f_getc C tF_X11_85 rfl o1 cs1_7 (by decide) dX11_sure_19 rfl ?_
    refine f_iload_n C (j := 1) dX11_sure_22 rfl rfl rfl ?_
    refine f_callVi C (a := 95) (ci := 4) (As := fun B => [.int x1]) o95 rfl (c_X4_fewestLooks  _ _ _ h) tM_X11_389 tI_X4_fewestLooks tS_X4_fewestLooks tN_X4 tC_X4_fewestLooks 1 dd_X4_fewestLooks rfl (by decide) (by decide) rfl (Nat.le_of_ble_eq_true rfl) dX11_sure_23 rfl (fun r_5 σ_4 h => ?_)
    refine f_callVi C (a := 1) (ci := 11) (As := fun B => [.int r_5]) o1 rfl (c_X11_fineOrNone  _ _ _ h) tM_X11_312 tI_X11_fineOrNone tS_X11_fineOrNone tN_X11 tC_X11_fineOrNone 1 dd_X11_fineOrNone rfl (by decide) (by decide) rfl (Nat.le_of_ble_eq_true rfl) dX11_sure_26 rfl (fun r_7 σ_6 h => ?_)
    exact f_iret C dX11_sure_29 h
  · replace h := Eq.mp (if_neg hq_3) h
    refine f_aload_n C (j := 0) dX11_sure_9 rfl rfl rfl ?_
    refine f_iconst C (v := 5) dX11_sure_10 kc5 rfl ?_
    refine f_callVi C (a := 1) (ci := 11) (As := fun B => [.int 5]) o1 rfl (c_X11_refuse  _ _ _ h) tM_X11_126 tI_X11_refuse tS_X11_refuse tN_X11 tC_X11_refuse 1 dd_X11_refuse rfl (by decide) (by decide) rfl (Nat.le_of_ble_eq_true rfl) dX11_sure_11 rfl (fun r_9 σ_8 h => ?_)
    refine f_goto C (t := 29) dX11_sure_14 (by decide) ?_
    exact f_iret C dX11_sure_29 h
theorem c_X11_sure (x1 : Int32) (σ : Sto) (P : Int32 → Sto → Prop) (h : w_X11_sure x1 σ P) : Ct yX11_sure cX11_sure 2 (some .int) 19 468 (fun B => [.ref (B + 1), .int x1]) σ (QFi P) := Ct.of (by decide) (fun _ => Nat.le_of_ble_eq_true rfl) (fun B E C => s_X11_sure C x1 σ h)
def w_X11_histories (σ : Sto) (P : Int64 → Sto → Prop) : Prop :=
  w_X4_orders σ (fun r_2 σ_1 => w_X11_fine r_2 σ_1 (fun r_4 σ_3 => P r_4.toInt64 σ_3))
theorem s_X11_histories {B : Nat} {E : Nat → List (Nat × Value) → List Value → Sto → Prop} {P : Int64 → Sto → Prop} (C : Cy B E RX11 cX11_histories 1 (some .long) 2 48 (Zm (QFl P))) (σ : Sto) (h : w_X11_histories σ P) : E 0 [(0, .ref (B + 1))] [] σ := by
  unfold w_X11_histories at h
  refine f_aload_n C (j := 0) dX11_histories_0 rfl rfl rfl ?_
  refine f_aload_n C (j := 0) dX11_histories_1 rfl rfl rfl ?_
  refine f_getc C tF_X11_85 rfl o1 cs1_7 (by decide) dX11_histories_2 rfl ?_
  refine f_callVi C (a := 95) (ci := 4) (As := fun B => []) o95 rfl (c_X4_orders   _ _ h) tM_X11_392 tI_X4_orders tS_X4_orders tN_X4 tC_X4_orders 0 dd_X4_orders rfl (by decide) (by decide) rfl (Nat.le_of_ble_eq_true rfl) dX11_histories_5 rfl (fun r_2 σ_1 h => ?_)
  refine f_callVi C (a := 1) (ci := 11) (As := fun B => [.int r_2]) o1 rfl (c_X11_fine  _ _ _ h) tM_X11_130 tI_X11_fine tS_X11_fine tN_X11 tC_X11_fine 1 dd_X11_fine rfl (by decide) (by decide) rfl (Nat.le_of_ble_eq_true rfl) dX11_histories_8 rfl (fun r_4 σ_3 h => ?_)
  refine f_i2l C dX11_histories_11 rfl ?_
  exact f_lret C dX11_histories_12 h
theorem c_X11_histories (σ : Sto) (P : Int64 → Sto → Prop) (h : w_X11_histories σ P) : Ct yX11_histories cX11_histories 1 (some .long) 2 48 (fun B => [.ref (B + 1)]) σ (QFl P) := Ct.of (by decide) (fun _ => Nat.le_of_ble_eq_true rfl) (fun B E C => s_X11_histories C σ h)
def w_X11_firsts (σ : Sto) (P : Int32 → Sto → Prop) : Prop :=
  w_X4_openings σ (fun r_2 σ_1 => w_X11_fine r_2 σ_1 (fun r_4 σ_3 => P r_4 σ_3))
theorem s_X11_firsts {B : Nat} {E : Nat → List (Nat × Value) → List Value → Sto → Prop} {P : Int32 → Sto → Prop} (C : Cy B E RX11 cX11_firsts 1 (some .int) 3 70 (Zm (QFi P))) (σ : Sto) (h : w_X11_firsts σ P) : E 0 [(0, .ref (B + 1))] [] σ := by
  unfold w_X11_firsts at h
  refine f_aload_n C (j := 0) dX11_firsts_0 rfl rfl rfl ?_
  refine f_aload_n C (j := 0) dX11_firsts_1 rfl rfl rfl ?_
  refine f_getc C tF_X11_85 rfl o1 cs1_7 (by decide) dX11_firsts_2 rfl ?_
  refine f_callVi C (a := 95) (ci := 4) (As := fun B => []) o95 rfl (c_X4_openings   _ _ h) tM_X11_395 tI_X4_openings tS_X4_openings tN_X4 tC_X4_openings 0 dd_X4_openings rfl (by decide) (by decide) rfl (Nat.le_of_ble_eq_true rfl) dX11_firsts_5 rfl (fun r_2 σ_1 h => ?_)
  refine f_callVi C (a := 1) (ci := 11) (As := fun B => [.int r_2]) o1 rfl (c_X11_fine  _ _ _ h) tM_X11_130 tI_X11_fine tS_X11_fine tN_X11 tC_X11_fine 1 dd_X11_fine rfl (by decide) (by decide) rfl (Nat.le_of_ble_eq_true rfl) dX11_firsts_8 rfl (fun r_4 σ_3 h => ?_)
  exact f_iret C dX11_firsts_11 h
theorem c_X11_firsts (σ : Sto) (P : Int32 → Sto → Prop) (h : w_X11_firsts σ P) : Ct yX11_firsts cX11_firsts 1 (some .int) 3 70 (fun B => [.ref (B + 1)]) σ (QFi P) := Ct.of (by decide) (fun _ => Nat.le_of_ble_eq_true rfl) (fun B E C => s_X11_firsts C σ h)
def w_X11_clash (σ : Sto) (P : Int32 → Sto → Prop) : Prop :=
  w_X4_fewestUntrue σ (fun r_2 σ_1 => w_X11_fine r_2 σ_1 (fun r_4 σ_3 => P r_4 σ_3))
theorem s_X11_clash {B : Nat} {E : Nat → List (Nat × Value) → List Value → Sto → Prop} {P : Int32 → Sto → Prop} (C : Cy B E RX11 cX11_clash 1 (some .int) 2 46 (Zm (QFi P))) (σ : Sto) (h : w_X11_clash σ P) : E 0 [(0, .ref (B + 1))] [] σ := by
  unfold w_X11_clash at h
  refine f_aload_n C (j := 0) dX11_clash_0 rfl rfl rfl ?_
  refine f_aload_n C (j := 0) dX11_clash_1 rfl rfl rfl ?_
  refine f_getc C tF_X11_85 rfl o1 cs1_7 (by decide) dX11_clash_2 rfl ?_
  refine f_callVi C (a := 95) (ci := 4) (As := fun B => []) o95 rfl (c_X4_fewestUntrue   _ _ h) tM_X11_398 tI_X4_fewestUntrue tS_X4_fewestUntrue tN_X4 tC_X4_fewestUntrue 0 dd_X4_fewestUntrue rfl (by decide) (by decide) rfl (Nat.le_of_ble_eq_true rfl) dX11_clash_5 rfl (fun r_2 σ_1 h => ?_)
  refine f_callVi C (a := 1) (ci := 11) (As := fun B => [.int r_2]) o1 rfl (c_X11_fine  _ _ _ h) tM_X11_130 tI_X11_fine tS_X11_fine tN_X11 tC_X11_fine 1 dd_X11_fine rfl (by decide) (by decide) rfl (Nat.le_of_ble_eq_true rfl) dX11_clash_8 rfl (fun r_4 σ_3 h => ?_)
  exact f_iret C dX11_clash_11 h
theorem c_X11_clash (σ : Sto) (P : Int32 → Sto → Prop) (h : w_X11_clash σ P) : Ct yX11_clash cX11_clash 1 (some .int) 2 46 (fun B => [.ref (B + 1)]) σ (QFi P) := Ct.of (by decide) (fun _ => Nat.le_of_ble_eq_true rfl) (fun B E C => s_X11_clash C σ h)
def w_X11_aheadOdds_16 (σ : Sto) (P : Int32 → Sto → Prop) : Prop :=
  w_X11_refuseSo 2 σ (fun r_5 σ_4 => (r_5 = 0 ∨ r_5 = 1) ∧ P r_5 σ_4)
theorem s_X11_aheadOdds_16 {B : Nat} {E : Nat → List (Nat × Value) → List Value → Sto → Prop} {P : Int32 → Sto → Prop} (C : Cy B E RX11 cX11_aheadOdds 4 (some .boolean) 2 52 (Zm (QFi P))) (σ : Sto) (h : w_X11_aheadOdds_16 σ P) : E 16 [(0, .ref (B + 1))] [] σ := by
  unfold w_X11_aheadOdds_16 at h
  refine f_aload_n C (j := 0) dX11_aheadOdds_16 rfl rfl rfl ?_
  refine f_iconst C (v := 2) dX11_aheadOdds_17 kc2 rfl ?_
  refine f_callVi C (a := 1) (ci := 11) (As := fun B => [.int 2]) o1 rfl (c_X11_refuseSo  _ _ _ h) tM_X11_162 tI_X11_refuseSo tS_X11_refuseSo tN_X11 tC_X11_refuseSo 1 dd_X11_refuseSo rfl (by decide) (by decide) rfl (Nat.le_of_ble_eq_true rfl) dX11_aheadOdds_18 rfl (fun r_5 σ_4 h => ?_)
  obtain ⟨hb_6, h⟩ := h
  exact f_zret C hb_6 dX11_aheadOdds_21 h
def w_X11_aheadOdds (x1 : Int32) (x2 : Int32) (σ : Sto) (P : Int32 → Sto → Prop) : Prop :=
  w_X11_noThing x1 σ (fun r_2 σ_1 => (if r_2 = 0 then w_X11_noThing x2 σ_1 (fun r_8 σ_7 => (if r_8 = 0 then (if x1 = x2 then w_X11_refuseSo 9 σ_7 (fun r_25 σ_24 => (r_25 = 0 ∨ r_25 = 1) ∧ P r_25 σ_24) else w_X4_orders σ_7 (fun r_12 σ_11 => (if r_12 = 0 then w_X11_refuseSo 8 σ_11 (fun r_22 σ_21 => (r_22 = 0 ∨ r_22 = 1) ∧ P r_22 σ_21) else w_X4_ordersWith x1 x2 σ_11 (fun r_15 σ_14 => w_X11_tellFraction r_15.toInt64 r_12.toInt64 σ_14 (fun σ_16 => w_X11_fineSo σ_16 (fun r_19 σ_18 => (r_19 = 0 ∨ r_19 = 1) ∧ P r_19 σ_18)))))) else w_X11_aheadOdds_16 σ_7 P)) else w_X11_aheadOdds_16 σ_1 P))
theorem s_X11_aheadOdds {B : Nat} {E : Nat → List (Nat × Value) → List Value → Sto → Prop} {P : Int32 → Sto → Prop} (C : Cy B E RX11 cX11_aheadOdds 4 (some .boolean) 2 52 (Zm (QFi P))) (x1 : Int32) (x2 : Int32) (σ : Sto) (h : w_X11_aheadOdds x1 x2 σ P) : E 0 [(0, .ref (B + 1)), (1, .int x1), (2, .int x2)] [] σ := by
  unfold w_X11_aheadOdds at h
  refine f_aload_n C (j := 0) dX11_aheadOdds_0 rfl rfl rfl ?_
  refine f_iload_n C (j := 1) dX11_aheadOdds_1 rfl rfl rfl ?_
  refine f_callVi C (a := 1) (ci := 11) (As := fun B => [.int x1]) o1 rfl (c_X11_noThing  _ _ _ h) tM_X11_267 tI_X11_noThing tS_X11_noThing tN_X11 tC_X11_noThing 1 dd_X11_noThing rfl (by decide) (by decide) rfl (Nat.le_of_ble_eq_true rfl) dX11_aheadOdds_2 rfl (fun r_2 σ_1 h => ?_)
  refine f_if_ne C (t := 16) dX11_aheadOdds_5 (by decide) rfl (fun hq_3 => ?_) (fun hq_3 => ?_)
  · replace h := Eq.mp (if_neg hq_3) h
    refine f_lv C (lv2 := [(0, .ref (B + 1))]) [0] rfl ?_
    exact s_X11_aheadOdds_16 C  _ h
  · replace h := Eq.mp (if_pos hq_3) h
    refine f_aload_n C (j := 0) dX11_aheadOdds_8 rfl rfl rfl ?_
    refine f_iload_n C (j := 2) dX11_aheadOdds_9 rfl rfl rfl ?_
    refine f_callVi C (a := 1) (ci := 11) (As := fun B => [.int x2]) o1 rfl (c_X11_noThing  _ _ _ h) tM_X11_267 tI_X11_noThing tS_X11_noThing tN_X11 tC_X11_noThing 1 dd_X11_noThing rfl (by decide) (by decide) rfl (Nat.le_of_ble_eq_true rfl) dX11_aheadOdds_10 rfl (fun r_8 σ_7 h => ?_)
    refine f_if_eq C (t := 22) dX11_aheadOdds_13 (by decide) rfl (fun hq_9 => ?_) (fun hq_9 => ?_)
    · replace h := Eq.mp (if_pos hq_9) h
      refine f_iload_n C (j := 1) dX11_aheadOdds_22 rfl rfl rfl ?_
      refine f_iload_n C (j := 2) dX11_aheadOdds_23 rfl rfl rfl ?_
      refine f_icmp_ne C (t := 34) dX11_aheadOdds_24 (by decide) rfl (fun hq_10 => ?_) (fun hq_10 => ?_)
      · replace h := Eq.mp (if_neg hq_10) h
        refine f_aload_n C (j := 0) dX11_aheadOdds_34 rfl rfl rfl ?_
        refine f_getc C tF_X11_85 rfl o1 cs1_7 (by decide) dX11_aheadOdds_35 rfl ?_
        refine f_callVi C (a := 95) (ci := 4) (As := fun B => []) o95 rfl (c_X4_orders   _ _ h) tM_X11_392 tI_X4_orders tS_X4_orders tN_X4 tC_X4_orders 0 dd_X4_orders rfl (by decide) (by decide) rfl (Nat.le_of_ble_eq_true rfl) dX11_aheadOdds_38 rfl (fun r_12 σ_11 h => ?_)
        refine f_istore_n C (lv2 := [(3, .int r_12), (0, .ref (B + 1)), (1, .int x1), (2, .int x2)]) dX11_aheadOdds_41 rfl (by decide) rfl rfl ?_
        refine f_iload_n C (j := 0) dX11_aheadOdds_42 rfl rfl rfl ?_
        refine f_if_ne C (t := 53) dX11_aheadOdds_43 (by decide) rfl (fun hq_13 => ?_) (fun hq_13 => ?_)
        · replace h := Eq.mp (if_neg hq_13) h
          refine f_aload_n C (j := 1) dX11_aheadOdds_53 rfl rfl rfl ?_
          refine f_aload_n C (j := 1) dX11_aheadOdds_54 rfl rfl rfl ?_
          refine f_getc C tF_X11_85 rfl o1 cs1_7 (by decide) dX11_aheadOdds_55 rfl ?_
          refine f_iload_n C (j := 2) dX11_aheadOdds_58 rfl rfl rfl ?_
          refine f_iload_n C (j := 3) dX11_aheadOdds_59 rfl rfl rfl ?_
          refine f_callVi C (a := 95) (ci := 4) (As := fun B => [.int x1, .int x2]) o95 rfl (c_X4_ordersWith  _ _ _ _ h) tM_X11_401 tI_X4_ordersWith tS_X4_ordersWith tN_X4 tC_X4_ordersWith 2 dd_X4_ordersWith rfl (by decide) (by decide) rfl (Nat.le_of_ble_eq_true rfl) dX11_aheadOdds_60 rfl (fun r_15 σ_14 h => ?_)
          refine f_i2l C dX11_aheadOdds_63 rfl ?_
          refine f_iload_n C (j := 0) dX11_aheadOdds_64 rfl rfl rfl ?_
          refine f_i2l C dX11_aheadOdds_65 rfl ?_
          refine f_callVv C (a := 1) (ci := 11) (As := fun B => [.long r_15.toInt64, .long r_12.toInt64]) o1 rfl (c_X11_tellFraction  _ _ _ _ h) tM_X11_404 tI_X11_tellFraction tS_X11_tellFraction tN_X11 tC_X11_tellFraction 2 dd_X11_tellFraction rfl (by decide) (by decide) rfl (Nat.le_of_ble_eq_true rfl) dX11_aheadOdds_66 rfl (fun σ_16 h => ?_)
          refine f_aload_n C (j := 1) dX11_aheadOdds_69 rfl rfl rfl ?_
          refine f_callVi C (a := 1) (ci := 11) (As := fun B => []) o1 rfl (c_X11_fineSo   _ _ h) tM_X11_169 tI_X11_fineSo tS_X11_fineSo tN_X11 tC_X11_fineSo 0 dd_X11_fineSo rfl (by decide) (by decide) rfl (Nat.le_of_ble_eq_true rfl) dX11_aheadOdds_70 rfl (fun r_19 σ_18 h => ?_)
          obtain ⟨hb_20, h⟩ := h
          exact f_zret C hb_20 dX11_aheadOdds_73 h
        · replace h := Eq.mp (if_pos hq_13) h
          refine f_aload_n C (j := 1) dX11_aheadOdds_46 rfl rfl rfl ?_
          refine f_bipush C (v := 8) dX11_aheadOdds_47 kb8 rfl ?_
          refine f_callVi C (a := 1) (ci := 11) (As := fun B => [.int 8]) o1 rfl (c_X11_refuseSo  _ _ _ h) tM_X11_162 tI_X11_refuseSo tS_X11_refuseSo tN_X11 tC_X11_refuseSo 1 dd_X11_refuseSo rfl (by decide) (by decide) rfl (Nat.le_of_ble_eq_true rfl) dX11_aheadOdds_49 rfl (fun r_22 σ_21 h => ?_)
          obtain ⟨hb_23, h⟩ := h
          exact f_zret C hb_23 dX11_aheadOdds_52 h
      · replace h := Eq.mp (if_pos hq_10) h
        refine f_aload_n C (j := 0) dX11_aheadOdds_27 rfl rfl rfl ?_
        refine f_bipush C (v := 9) dX11_aheadOdds_28 kb9 rfl ?_
        refine f_callVi C (a := 1) (ci := 11) (As := fun B => [.int 9]) o1 rfl (c_X11_refuseSo  _ _ _ h) tM_X11_162 tI_X11_refuseSo tS_X11_refuseSo tN_X11 tC_X11_refuseSo 1 dd_X11_refuseSo rfl (by decide) (by decide) rfl (Nat.le_of_ble_eq_true rfl) dX11_aheadOdds_30 rfl (fun r_25 σ_24 h => ?_)
        obtain ⟨hb_26, h⟩ := h
        exact f_zret C hb_26 dX11_aheadOdds_33 h
    · replace h := Eq.mp (if_neg hq_9) h
      refine f_lv C (lv2 := [(0, .ref (B + 1))]) [0] rfl ?_
      exact s_X11_aheadOdds_16 C  _ h
theorem c_X11_aheadOdds (x1 : Int32) (x2 : Int32) (σ : Sto) (P : Int32 → Sto → Prop) (h : w_X11_aheadOdds x1 x2 σ P) : Ct yX11_aheadOdds cX11_aheadOdds 4 (some .boolean) 2 52 (fun B => [.ref (B + 1), .int x1, .int x2]) σ (QFi P) := Ct.of (by decide) (fun _ => Nat.le_of_ble_eq_true rfl) (fun B E C => s_X11_aheadOdds C x1 x2 σ h)
def w_X11_live_11 (σ : Sto) (P : Int32 → Sto → Prop) : Prop :=
  w_X11_refuse 5 σ (fun r_3 σ_2 => P r_3 σ_2)
theorem s_X11_live_11 {B : Nat} {E : Nat → List (Nat × Value) → List Value → Sto → Prop} {P : Int32 → Sto → Prop} (C : Cy B E RX11 cX11_live 3 (some .int) 6 148 (Zm (QFi P))) (σ : Sto) (h : w_X11_live_11 σ P) : E 11 [(0, .ref (B + 1))] [] σ := by
  unfold w_X11_live_11 at h
  refine f_aload_n C (j := 0) dX11_live_11 rfl rfl rfl ?_
  refine f_iconst C (v := 5) dX11_live_12 kc5 rfl ?_
  refine f_callVi C (a := 1) (ci := 11) (As := fun B => [.int 5]) o1 rfl (c_X11_refuse  _ _ _ h) tM_X11_126 tI_X11_refuse tS_X11_refuse tN_X11 tC_X11_refuse 1 dd_X11_refuse rfl (by decide) (by decide) rfl (Nat.le_of_ble_eq_true rfl) dX11_live_13 rfl (fun r_3 σ_2 h => ?_)
  exact f_iret C dX11_live_16 h
def w_X11_live (x1 : Int32) (σ : Sto) (P : Int32 → Sto → Prop) : Prop :=
  (if x1 < 0 then w_X11_live_11 σ P else (if x1 ≤ 9999 then isCity (gr σ 1 11) ∧ (if (gi σ ((gr σ 1 11) + 8) 5) = 0 then w_X11_refuse 8 σ (fun r_12 σ_11 => P r_12 σ_11) else w_X3_goThrough x1 σ (fun r_8 σ_7 => w_X11_fine r_8 (si (cpi σ_7 98 0 100 0 5) 1 14 1) (fun r_10 σ_9 => P r_10 σ_9))) else w_X11_live_11 σ P))
theorem s_X11_live {B : Nat} {E : Nat → List (Nat × Value) → List Value → Sto → Prop} {P : Int32 → Sto → Prop} (C : Cy B E RX11 cX11_live 3 (some .int) 6 148 (Zm (QFi P))) (x1 : Int32) (σ : Sto) (h : w_X11_live x1 σ P) : E 0 [(0, .ref (B + 1)), (1, .int x1)] [] σ := by
  unfold w_X11_live at h
  refine f_iload_n C (j := 1) dX11_live_0 rfl rfl rfl ?_
  refine f_if_lt C (t := 11) dX11_live_1 (by decide) rfl (fun hq_1 => ?_) (fun hq_1 => ?_)
  · replace h := Eq.mp (if_pos hq_1) h
    refine f_lv C (lv2 := [(0, .ref (B + 1))]) [0] rfl ?_
    exact s_X11_live_11 C  _ h
  · replace h := Eq.mp (if_neg hq_1) h
    refine f_iload_n C (j := 1) dX11_live_4 rfl rfl rfl ?_
    refine f_sipush C (v := 9999) dX11_live_5 ks9999 rfl ?_
    refine f_icmp_le C (t := 17) dX11_live_8 (by decide) rfl (fun hq_4 => ?_) (fun hq_4 => ?_)
    · replace h := Eq.mp (if_pos hq_4) h
      refine f_aload_n C (j := 0) dX11_live_17 rfl rfl rfl ?_
      obtain ⟨hc_5, h⟩ := h
      refine f_getm C tF_X11_26 rfl o1 cn1_11 hc_5.z dX11_live_18 rfl ?_
      refine f_getc C tF_X11_221 rfl hc_5.o hc_5.c7 (Nat.succ_ne_zero _) dX11_live_21 rfl ?_
      refine f_geti C tF_X11_408 rfl hc_5.s.o dX11_live_24 rfl ?_
      refine f_if_ne C (t := 37) dX11_live_27 (by decide) rfl (fun hq_6 => ?_) (fun hq_6 => ?_)
      · replace h := Eq.mp (if_neg hq_6) h
        refine f_aload_n C (j := 0) dX11_live_37 rfl rfl rfl ?_
        refine f_getc C tF_X11_94 rfl o1 cs1_8 (by decide) dX11_live_38 rfl ?_
        refine f_iload_n C (j := 1) dX11_live_41 rfl rfl rfl ?_
        refine f_callVi C (a := 97) (ci := 3) (As := fun B => [.int x1]) o97 rfl (c_X3_goThrough  _ _ _ h) tM_X11_410 tI_X3_goThrough tS_X3_goThrough tN_X3 tC_X3_goThrough 1 dd_X3_goThrough rfl (by decide) (by decide) rfl (Nat.le_of_ble_eq_true rfl) dX11_live_42 rfl (fun r_8 σ_7 h => ?_)
        refine f_istore_n C (lv2 := [(2, .int r_8), (0, .ref (B + 1)), (1, .int x1)]) dX11_live_45 rfl (by decide) rfl rfl ?_
        refine f_aload_n C (j := 1) dX11_live_46 rfl rfl rfl ?_
        refine f_getc C tF_X11_94 rfl o1 cs1_8 (by decide) dX11_live_47 rfl ?_
        refine f_getc C tF_X11_413 rfl o97 cs97_2 (by decide) dX11_live_50 rfl ?_
        refine f_iconst C (v := 0) dX11_live_53 kc0 rfl ?_
        refine f_aload_n C (j := 1) dX11_live_54 rfl rfl rfl ?_
        refine f_getc C tF_X11_98 rfl o1 cs1_10 (by decide) dX11_live_55 rfl ?_
        refine f_iconst C (v := 0) dX11_live_58 kc0 rfl ?_
        refine f_iconst C (v := 5) dX11_live_59 kc5 rfl ?_
        refine f_copyi C (spj := 0) (dpj := 0) (nj := 5) tM_X11_416 tNa_arraycopy tT_arraycopy tN_System (by decide) (by decide) a98 a100 (by decide) (by decide) (by decide) rfl rfl rfl (by decide) (by decide) (Nat.le_of_ble_eq_true rfl) dX11_live_60 rfl ?_
        refine f_aload_n C (j := 1) dX11_live_63 rfl rfl rfl ?_
        refine f_iconst C (v := 1) dX11_live_64 kc1 rfl ?_
        refine f_putz C tF_X11_102 fm_11_14 rfl (Or.inr rfl) o1 dX11_live_65 rfl ?_
        refine f_aload_n C (j := 1) dX11_live_68 rfl rfl rfl ?_
        refine f_iload_n C (j := 0) dX11_live_69 rfl rfl rfl ?_
        refine f_callVi C (a := 1) (ci := 11) (As := fun B => [.int r_8]) o1 rfl (c_X11_fine  _ _ _ h) tM_X11_130 tI_X11_fine tS_X11_fine tN_X11 tC_X11_fine 1 dd_X11_fine rfl (by decide) (by decide) rfl (Nat.le_of_ble_eq_true rfl) dX11_live_70 rfl (fun r_10 σ_9 h => ?_)
        exact f_iret C dX11_live_73 h
      · replace h := Eq.mp (if_pos hq_6) h
        refine f_aload_n C (j := 0) dX11_live_30 rfl rfl rfl ?_
        refine f_bipush C (v := 8) dX11_live_31 kb8 rfl ?_
        refine f_callVi C (a := 1) (ci := 11) (As := fun B => [.int 8]) o1 rfl (c_X11_refuse  _ _ _ h) tM_X11_126 tI_X11_refuse tS_X11_refuse tN_X11 tC_X11_refuse 1 dd_X11_refuse rfl (by decide) (by decide) rfl (Nat.le_of_ble_eq_true rfl) dX11_live_33 rfl (fun r_12 σ_11 h => ?_)
        exact f_iret C dX11_live_36 h
    · replace h := Eq.mp (if_neg hq_4) h
      refine f_lv C (lv2 := [(0, .ref (B + 1))]) [0] rfl ?_
      exact s_X11_live_11 C  _ h
theorem c_X11_live (x1 : Int32) (σ : Sto) (P : Int32 → Sto → Prop) (h : w_X11_live x1 σ P) : Ct yX11_live cX11_live 3 (some .int) 6 148 (fun B => [.ref (B + 1), .int x1]) σ (QFi P) := Ct.of (by decide) (fun _ => Nat.le_of_ble_eq_true rfl) (fun B E C => s_X11_live C x1 σ h)
def w_X11_lived_9 (σ : Sto) (P : Int32 → Sto → Prop) : Prop :=
  w_X11_refuse 5 σ (fun r_3 σ_2 => P r_3 σ_2)
theorem s_X11_lived_9 {B : Nat} {E : Nat → List (Nat × Value) → List Value → Sto → Prop} {P : Int32 → Sto → Prop} (C : Cy B E RX11 cX11_lived 2 (some .int) 1 21 (Zm (QFi P))) (σ : Sto) (h : w_X11_lived_9 σ P) : E 9 [(0, .ref (B + 1))] [] σ := by
  unfold w_X11_lived_9 at h
  refine f_aload_n C (j := 0) dX11_lived_9 rfl rfl rfl ?_
  refine f_iconst C (v := 5) dX11_lived_10 kc5 rfl ?_
  refine f_callVi C (a := 1) (ci := 11) (As := fun B => [.int 5]) o1 rfl (c_X11_refuse  _ _ _ h) tM_X11_126 tI_X11_refuse tS_X11_refuse tN_X11 tC_X11_refuse 1 dd_X11_refuse rfl (by decide) (by decide) rfl (Nat.le_of_ble_eq_true rfl) dX11_lived_11 rfl (fun r_3 σ_2 h => ?_)
  exact f_iret C dX11_lived_14 h
def w_X11_lived (x1 : Int32) (σ : Sto) (P : Int32 → Sto → Prop) : Prop :=
  (if x1 < 0 then w_X11_lived_9 σ P else (if x1 < 5 then (if (gi σ 1 14) = 0 then w_X11_refuse 8 σ (fun r_7 σ_6 => P r_7 σ_6) else vp_in x1 5 ∧ w_X11_fine (gi σ 100 (tn x1)) σ (fun r_10 σ_9 => P r_10 σ_9)) else w_X11_lived_9 σ P))
theorem s_X11_lived {B : Nat} {E : Nat → List (Nat × Value) → List Value → Sto → Prop} {P : Int32 → Sto → Prop} (C : Cy B E RX11 cX11_lived 2 (some .int) 1 21 (Zm (QFi P))) (x1 : Int32) (σ : Sto) (h : w_X11_lived x1 σ P) : E 0 [(0, .ref (B + 1)), (1, .int x1)] [] σ := by
  unfold w_X11_lived at h
  refine f_iload_n C (j := 1) dX11_lived_0 rfl rfl rfl ?_
  refine f_if_lt C (t := 9) dX11_lived_1 (by decide) rfl (fun hq_1 => ?_) (fun hq_1 => ?_)
  · replace h := Eq.mp (if_pos hq_1) h
    refine f_lv C (lv2 := [(0, .ref (B + 1))]) [0] rfl ?_
    exact s_X11_lived_9 C  _ h
  · replace h := Eq.mp (if_neg hq_1) h
    refine f_iload_n C (j := 1) dX11_lived_4 rfl rfl rfl ?_
    refine f_iconst C (v := 5) dX11_lived_5 kc5 rfl ?_
    refine f_icmp_lt C (t := 15) dX11_lived_6 (by decide) rfl (fun hq_4 => ?_) (fun hq_4 => ?_)
    · replace h := Eq.mp (if_pos hq_4) h
      refine f_aload_n C (j := 0) dX11_lived_15 rfl rfl rfl ?_
      refine f_geti C tF_X11_102 rfl o1 dX11_lived_16 rfl ?_
      refine f_if_eq C (t := 35) dX11_lived_19 (by decide) rfl (fun hq_5 => ?_) (fun hq_5 => ?_)
      · replace h := Eq.mp (if_pos hq_5) h
        refine f_aload_n C (j := 0) dX11_lived_35 rfl rfl rfl ?_
        refine f_bipush C (v := 8) dX11_lived_36 kb8 rfl ?_
        refine f_callVi C (a := 1) (ci := 11) (As := fun B => [.int 8]) o1 rfl (c_X11_refuse  _ _ _ h) tM_X11_126 tI_X11_refuse tS_X11_refuse tN_X11 tC_X11_refuse 1 dd_X11_refuse rfl (by decide) (by decide) rfl (Nat.le_of_ble_eq_true rfl) dX11_lived_38 rfl (fun r_7 σ_6 h => ?_)
        exact f_iret C dX11_lived_41 h
      · replace h := Eq.mp (if_neg hq_5) h
        refine f_aload_n C (j := 0) dX11_lived_22 rfl rfl rfl ?_
        refine f_aload_n C (j := 0) dX11_lived_23 rfl rfl rfl ?_
        refine f_getc C tF_X11_98 rfl o1 cs1_10 (by decide) dX11_lived_24 rfl ?_
        refine f_iload_n C (j := 1) dX11_lived_27 rfl rfl rfl ?_
        obtain ⟨hi_8, h⟩ := h
        refine f_iald C (j := tn x1) a100 hi_8 rfl dX11_lived_28 rfl ?_
        refine f_callVi C (a := 1) (ci := 11) (As := fun B => [.int (gi σ 100 (tn x1))]) o1 rfl (c_X11_fine  _ _ _ h) tM_X11_130 tI_X11_fine tS_X11_fine tN_X11 tC_X11_fine 1 dd_X11_fine rfl (by decide) (by decide) rfl (Nat.le_of_ble_eq_true rfl) dX11_lived_29 rfl (fun r_10 σ_9 h => ?_)
        refine f_goto C (t := 41) dX11_lived_32 (by decide) ?_
        exact f_iret C dX11_lived_41 h
    · replace h := Eq.mp (if_neg hq_4) h
      refine f_lv C (lv2 := [(0, .ref (B + 1))]) [0] rfl ?_
      exact s_X11_lived_9 C  _ h
theorem c_X11_lived (x1 : Int32) (σ : Sto) (P : Int32 → Sto → Prop) (h : w_X11_lived x1 σ P) : Ct yX11_lived cX11_lived 2 (some .int) 1 21 (fun B => [.ref (B + 1), .int x1]) σ (QFi P) := Ct.of (by decide) (fun _ => Nat.le_of_ble_eq_true rfl) (fun B E C => s_X11_lived C x1 σ h)
def w_X11_mean_33 (σ : Sto) (P : Int32 → Sto → Prop) : Prop :=
  w_X11_refuseSo 5 σ (fun r_3 σ_2 => (r_3 = 0 ∨ r_3 = 1) ∧ P r_3 σ_2)
theorem s_X11_mean_33 {B : Nat} {E : Nat → List (Nat × Value) → List Value → Sto → Prop} {P : Int32 → Sto → Prop} (C : Cy B E RX11 cX11_mean 8 (some .boolean) 6 148 (Zm (QFi P))) (σ : Sto) (h : w_X11_mean_33 σ P) : E 33 [(0, .ref (B + 1))] [] σ := by
  unfold w_X11_mean_33 at h
  refine f_aload_n C (j := 0) dX11_mean_33 rfl rfl rfl ?_
  refine f_iconst C (v := 5) dX11_mean_34 kc5 rfl ?_
  refine f_callVi C (a := 1) (ci := 11) (As := fun B => [.int 5]) o1 rfl (c_X11_refuseSo  _ _ _ h) tM_X11_162 tI_X11_refuseSo tS_X11_refuseSo tN_X11 tC_X11_refuseSo 1 dd_X11_refuseSo rfl (by decide) (by decide) rfl (Nat.le_of_ble_eq_true rfl) dX11_mean_35 rfl (fun r_3 σ_2 h => ?_)
  obtain ⟨hb_4, h⟩ := h
  exact f_zret C hb_4 dX11_mean_38 h
def w_X11_mean_91 (K91 : Int32 × Int32 × Sto → Prop) (x1 : Int32) (x2 : Int32) (x3 : Int32) (x4 : Int32) (x5 : Int32) (x6 : Int32) (x7 : Int32) (σ : Sto) (P : Int32 → Sto → Prop) : Prop :=
  (if x2 ≤ x7 then w_X11_tellFraction x6.toInt64 x2.toInt64 σ (fun σ_18 => w_X11_fineSo σ_18 (fun r_21 σ_20 => (r_21 = 0 ∨ r_21 = 1) ∧ P r_21 σ_20)) else w_X3_goThrough (x1 + x7) σ (fun r_24 σ_23 => w_X6_atPresent σ_23 (fun r_26 σ_25 => w_X6_doable r_26 σ_25 (fun r_28 σ_27 => w_J6_bitCount_0f7a4 r_28 σ_27 (fun r_30 σ_29 => ∀ x6_31 : Int32, x6_31 = x6 + r_30 → isCity (gr σ_29 1 11) ∧ ∀ σ_34 : Sto, σ_34 = si σ_29 (gr σ_29 1 11) 14 x3 → isCity (gr σ_34 1 11) ∧ ∀ σ_37 : Sto, σ_37 = si σ_34 (gr σ_34 1 11) 15 x4 → isCity (gr σ_37 1 11) ∧ ∀ x7_40 : Int32, x7_40 = x7 + 1 → K91 (x6_31, x7_40, si σ_37 (gr σ_37 1 11) 13 x5))))))
theorem s_X11_mean_91 {B : Nat} {E : Nat → List (Nat × Value) → List Value → Sto → Prop} {P : Int32 → Sto → Prop} (C : Cy B E RX11 cX11_mean 8 (some .boolean) 6 148 (Zm (QFi P))) (x1 : Int32) (x2 : Int32) (x3 : Int32) (x4 : Int32) (x5 : Int32) (x6 : Int32) (x7 : Int32) (K91 : Int32 × Int32 × Sto → Prop) (hK91 : ∀ (x6 : Int32) (x7 : Int32) (σ : Sto), K91 (x6, x7, σ) → E 91 [(0, .ref (B + 1)), (1, .int x1), (2, .int x2), (3, .int x3), (4, .int x4), (5, .int x5), (6, .int x6), (7, .int x7)] [] σ) (σ : Sto) (h : w_X11_mean_91 K91 x1 x2 x3 x4 x5 x6 x7 σ P) : E 91 [(0, .ref (B + 1)), (1, .int x1), (2, .int x2), (3, .int x3), (4, .int x4), (5, .int x5), (6, .int x6), (7, .int x7)] [] σ := by
  unfold w_X11_mean_91 at h
  refine f_iload C (j := 7) dX11_mean_91 rfl rfl ?_
  refine f_iload_n C (j := 2) dX11_mean_93 rfl rfl rfl ?_
  refine f_icmp_ge C (t := 163) dX11_mean_94 (by decide) rfl (fun hq_17 => ?_) (fun hq_17 => ?_)
  · replace h := Eq.mp (if_pos hq_17) h
    refine f_aload_n C (j := 0) dX11_mean_163 rfl rfl rfl ?_
    refine f_iload C (j := 6) dX11_mean_164 rfl rfl ?_
    refine f_i2l C dX11_mean_166 rfl ?_
    refine f_iload_n C (j := 2) dX11_mean_167 rfl rfl rfl ?_
    refine f_i2l C dX11_mean_168 rfl ?_
    refine f_callVv C (a := 1) (ci := 11) (As := fun B => [.long x6.toInt64, .long x2.toInt64]) o1 rfl (c_X11_tellFraction  _ _ _ _ h) tM_X11_404 tI_X11_tellFraction tS_X11_tellFraction tN_X11 tC_X11_tellFraction 2 dd_X11_tellFraction rfl (by decide) (by decide) rfl (Nat.le_of_ble_eq_true rfl) dX11_mean_169 rfl (fun σ_18 h => ?_)
    refine f_aload_n C (j := 0) dX11_mean_172 rfl rfl rfl ?_
    refine f_callVi C (a := 1) (ci := 11) (As := fun B => []) o1 rfl (c_X11_fineSo   _ _ h) tM_X11_169 tI_X11_fineSo tS_X11_fineSo tN_X11 tC_X11_fineSo 0 dd_X11_fineSo rfl (by decide) (by decide) rfl (Nat.le_of_ble_eq_true rfl) dX11_mean_173 rfl (fun r_21 σ_20 h => ?_)
    obtain ⟨hb_22, h⟩ := h
    exact f_zret C hb_22 dX11_mean_176 h
  · replace h := Eq.mp (if_neg hq_17) h
    refine f_aload_n C (j := 0) dX11_mean_97 rfl rfl rfl ?_
    refine f_getc C tF_X11_94 rfl o1 cs1_8 (by decide) dX11_mean_98 rfl ?_
    refine f_iload_n C (j := 1) dX11_mean_101 rfl rfl rfl ?_
    refine f_iload C (j := 7) dX11_mean_102 rfl rfl ?_
    refine f_iadd C dX11_mean_104 rfl ?_
    refine f_callVi C (a := 97) (ci := 3) (As := fun B => [.int (x1 + x7)]) o97 rfl (c_X3_goThrough  _ _ _ h) tM_X11_410 tI_X3_goThrough tS_X3_goThrough tN_X3 tC_X3_goThrough 1 dd_X3_goThrough rfl (by decide) (by decide) rfl (Nat.le_of_ble_eq_true rfl) dX11_mean_105 rfl (fun r_24 σ_23 h => ?_)
    refine f_pop C dX11_mean_108 rfl rfl ?_
    refine f_iload C (j := 6) dX11_mean_109 rfl rfl ?_
    refine f_aload_n C (j := 0) dX11_mean_111 rfl rfl rfl ?_
    refine f_getc C tF_X11_58 rfl o1 cs1_4 (by decide) dX11_mean_112 rfl ?_
    refine f_aload_n C (j := 0) dX11_mean_115 rfl rfl rfl ?_
    refine f_getc C tF_X11_58 rfl o1 cs1_4 (by decide) dX11_mean_116 rfl ?_
    refine f_callVi C (a := 88) (ci := 6) (As := fun B => []) o88 rfl (c_X6_atPresent   _ _ h) tM_X11_242 tI_X6_atPresent tS_X6_atPresent tN_X6 tC_X6_atPresent 0 dd_X6_atPresent rfl (by decide) (by decide) rfl (Nat.le_of_ble_eq_true rfl) dX11_mean_119 rfl (fun r_26 σ_25 h => ?_)
    refine f_callVi C (a := 88) (ci := 6) (As := fun B => [.int r_26]) o88 rfl (c_X6_doable  _ _ _ h) tM_X11_261 tI_X6_doable tS_X6_doable tN_X6 tC_X6_doable 1 dd_X6_doable rfl (by decide) (by decide) rfl (Nat.le_of_ble_eq_true rfl) dX11_mean_122 rfl (fun r_28 σ_27 h => ?_)
    refine f_callSi C (As := fun B => [.int r_28]) (c_J6_bitCount_0f7a4  _ _ _ h) tM_X11_342 tT_J6_bitCount_0f7a4 tN_J6 tC_J6_bitCount_0f7a4 1 dd_J6_bitCount_0f7a4 rfl (by decide) (by decide) rfl (Nat.le_of_ble_eq_true rfl) dX11_mean_125 rfl (fun r_30 σ_29 h => ?_)
    refine f_iadd C dX11_mean_128 rfl ?_
    refine f_name (fun x6_31 hx_32 => ?_)
    replace h := h x6_31 hx_32
    refine f_istore C (lv2 := [(6, .int x6_31), (0, .ref (B + 1)), (1, .int x1), (2, .int x2), (3, .int x3), (4, .int x4), (5, .int x5), (7, .int x7)]) dX11_mean_129 (by decide) rfl rfl ?_
    refine f_aload_n C (j := 1) dX11_mean_131 rfl rfl rfl ?_
    obtain ⟨hc_33, h⟩ := h
    refine f_getm C tF_X11_26 rfl o1 cn1_11 hc_33.z dX11_mean_132 rfl ?_
    refine f_iload_n C (j := 4) dX11_mean_135 rfl rfl rfl ?_
    refine f_puti C tF_X11_255 fm_1_14 rfl hc_33.o dX11_mean_136 rfl ?_
    refine f_aload_n C (j := 1) dX11_mean_139 rfl rfl rfl ?_
    refine f_names (fun σ_34 hσ_35 => ?_)
    replace h := h σ_34 hσ_35
    obtain ⟨hc_36, h⟩ := h
    refine f_getm C tF_X11_26 rfl o1 cn1_11 hc_36.z dX11_mean_140 rfl ?_
    refine f_iload C (j := 5) dX11_mean_143 rfl rfl ?_
    refine f_puti C tF_X11_258 fm_1_15 rfl hc_36.o dX11_mean_145 rfl ?_
    refine f_aload_n C (j := 1) dX11_mean_148 rfl rfl rfl ?_
    refine f_names (fun σ_37 hσ_38 => ?_)
    replace h := h σ_37 hσ_38
    obtain ⟨hc_39, h⟩ := h
    refine f_getm C tF_X11_26 rfl o1 cn1_11 hc_39.z dX11_mean_149 rfl ?_
    refine f_iload C (j := 6) dX11_mean_152 rfl rfl ?_
    refine f_puti C tF_X11_252 fm_1_13 rfl hc_39.o dX11_mean_154 rfl ?_
    obtain ⟨x7_40, hx_41⟩ : ∃ y : Int32, y = x7 + 1 := ⟨_, rfl⟩
    replace h := h x7_40 hx_41
    refine f_iinc C (j := 7) (v := x7_40) (lv2 := [(7, .int x7_40), (6, .int x6_31), (0, .ref (B + 1)), (1, .int x1), (2, .int x2), (3, .int x3), (4, .int x4), (5, .int x5)]) dX11_mean_157 rfl hx_41.symm (by decide) rfl rfl ?_
    refine f_goto C (t := 91) dX11_mean_160 (by decide) ?_
    refine f_lv C (lv2 := [(0, .ref (B + 1)), (1, .int x1), (2, .int x2), (3, .int x3), (4, .int x4), (5, .int x5), (6, .int x6_31), (7, .int x7_40)]) [2, 3, 4, 5, 6, 7, 1, 0] rfl ?_
    exact hK91 _ _ _ h
def w_X11_mean (x1 : Int32) (x2 : Int32) (σ : Sto) (P : Int32 → Sto → Prop) : Prop :=
  (if x1 < 0 then w_X11_mean_33 σ P else (if 9999 < x1 then w_X11_mean_33 σ P else (if x2 < 1 then w_X11_mean_33 σ P else (if 20 < x2 then w_X11_mean_33 σ P else (if ((x1 + x2) - 1) ≤ 9999 then isCity (gr σ 1 11) ∧ (if (gi σ ((gr σ 1 11) + 8) 5) = 0 then w_X11_refuseSo 8 σ (fun r_43 σ_42 => (r_43 = 0 ∨ r_43 = 1) ∧ P r_43 σ_42) else ∀ x3_11 : Int32, x3_11 = gi σ (gr σ 1 11) 14 → ∀ x4_13 : Int32, x4_13 = gi σ (gr σ 1 11) 15 → ∀ x5_15 : Int32, x5_15 = gi σ (gr σ 1 11) 13 → Lp (fun (K : Int32 × Int32 × Sto → Prop) s => w_X11_mean_91 K x1 x2 x3_11 x4_13 x5_15 s.1 s.2.1 s.2.2 P) (0, 0, σ)) else w_X11_mean_33 σ P)))))
theorem s_X11_mean {B : Nat} {E : Nat → List (Nat × Value) → List Value → Sto → Prop} {P : Int32 → Sto → Prop} (C : Cy B E RX11 cX11_mean 8 (some .boolean) 6 148 (Zm (QFi P))) (x1 : Int32) (x2 : Int32) (σ : Sto) (h : w_X11_mean x1 x2 σ P) : E 0 [(0, .ref (B + 1)), (1, .int x1), (2, .int x2)] [] σ := by
  unfold w_X11_mean at h
  refine f_iload_n C (j := 1) dX11_mean_0 rfl rfl rfl ?_
  refine f_if_lt C (t := 33) dX11_mean_1 (by decide) rfl (fun hq_1 => ?_) (fun hq_1 => ?_)
  · replace h := Eq.mp (if_pos hq_1) h
    refine f_lv C (lv2 := [(0, .ref (B + 1))]) [0] rfl ?_
    exact s_X11_mean_33 C  _ h
  · replace h := Eq.mp (if_neg hq_1) h
    refine f_iload_n C (j := 1) dX11_mean_4 rfl rfl rfl ?_
    refine f_sipush C (v := 9999) dX11_mean_5 ks9999 rfl ?_
    refine f_icmp_gt C (t := 33) dX11_mean_8 (by decide) rfl (fun hq_5 => ?_) (fun hq_5 => ?_)
    · replace h := Eq.mp (if_pos hq_5) h
      refine f_lv C (lv2 := [(0, .ref (B + 1))]) [0] rfl ?_
      exact s_X11_mean_33 C  _ h
    · replace h := Eq.mp (if_neg hq_5) h
      refine f_iload_n C (j := 2) dX11_mean_11 rfl rfl rfl ?_
      refine f_iconst C (v := 1) dX11_mean_12 kc1 rfl ?_
      refine f_icmp_lt C (t := 33) dX11_mean_13 (by decide) rfl (fun hq_6 => ?_) (fun hq_6 => ?_)
      · replace h := Eq.mp (if_pos hq_6) h
        refine f_lv C (lv2 := [(0, .ref (B + 1))]) [0] rfl ?_
        exact s_X11_mean_33 C  _ h
      · replace h := Eq.mp (if_neg hq_6) h
        refine f_iload_n C (j := 2) dX11_mean_16 rfl rfl rfl ?_
        refine f_bipush C (v := 20) dX11_mean_17 kb20 rfl ?_
        refine f_icmp_gt C (t := 33) dX11_mean_19 (by decide) rfl (fun hq_7 => ?_) (fun hq_7 => ?_)
        · replace h := Eq.mp (if_pos hq_7) h
          refine f_lv C (lv2 := [(0, .ref (B + 1))]) [0] rfl ?_
          exact s_X11_mean_33 C  _ h
        · replace h := Eq.mp (if_neg hq_7) h
          refine f_iload_n C (j := 1) dX11_mean_22 rfl rfl rfl ?_
          refine f_iload_n C (j := 2) dX11_mean_23 rfl rfl rfl ?_
          refine f_iadd C dX11_mean_24 rfl ?_
          refine f_iconst C (v := 1) dX11_mean_25 kc1 rfl ?_
          refine f_isub C dX11_mean_26 rfl ?_
          refine f_sipush C (v := 9999) dX11_mean_27 ks9999 rfl ?_
          refine f_icmp_le C (t := 39) dX11_mean_30 (by decide) rfl (fun hq_8 => ?_) (fun hq_8 => ?_)
          · replace h := Eq.mp (if_pos hq_8) h
            refine f_aload_n C (j := 0) dX11_mean_39 rfl rfl rfl ?_
            obtain ⟨hc_9, h⟩ := h
            refine f_getm C tF_X11_26 rfl o1 cn1_11 hc_9.z dX11_mean_40 rfl ?_
            refine f_getc C tF_X11_221 rfl hc_9.o hc_9.c7 (Nat.succ_ne_zero _) dX11_mean_43 rfl ?_
            refine f_geti C tF_X11_408 rfl hc_9.s.o dX11_mean_46 rfl ?_
            refine f_if_ne C (t := 59) dX11_mean_49 (by decide) rfl (fun hq_10 => ?_) (fun hq_10 => ?_)
            · replace h := Eq.mp (if_neg hq_10) h
              refine f_aload_n C (j := 0) dX11_mean_59 rfl rfl rfl ?_
              refine f_getm C tF_X11_26 rfl o1 cn1_11 hc_9.z dX11_mean_60 rfl ?_
              refine f_geti C tF_X11_255 rfl hc_9.o dX11_mean_63 rfl ?_
              refine f_name (fun x3_11 hx_12 => ?_)
              replace h := h x3_11 hx_12
              refine f_istore_n C (lv2 := [(3, .int x3_11), (0, .ref (B + 1)), (1, .int x1), (2, .int x2)]) dX11_mean_66 rfl (by decide) rfl rfl ?_
              refine f_aload_n C (j := 1) dX11_mean_67 rfl rfl rfl ?_
              refine f_getm C tF_X11_26 rfl o1 cn1_11 hc_9.z dX11_mean_68 rfl ?_
              refine f_geti C tF_X11_258 rfl hc_9.o dX11_mean_71 rfl ?_
              refine f_name (fun x4_13 hx_14 => ?_)
              replace h := h x4_13 hx_14
              refine f_istore C (lv2 := [(4, .int x4_13), (3, .int x3_11), (0, .ref (B + 1)), (1, .int x1), (2, .int x2)]) dX11_mean_74 (by decide) rfl rfl ?_
              refine f_aload_n C (j := 2) dX11_mean_76 rfl rfl rfl ?_
              refine f_getm C tF_X11_26 rfl o1 cn1_11 hc_9.z dX11_mean_77 rfl ?_
              refine f_geti C tF_X11_252 rfl hc_9.o dX11_mean_80 rfl ?_
              refine f_name (fun x5_15 hx_16 => ?_)
              replace h := h x5_15 hx_16
              refine f_istore C (lv2 := [(5, .int x5_15), (4, .int x4_13), (3, .int x3_11), (0, .ref (B + 1)), (1, .int x1), (2, .int x2)]) dX11_mean_83 (by decide) rfl rfl ?_
              refine f_iconst C (v := 0) dX11_mean_85 kc0 rfl ?_
              refine f_istore C (lv2 := [(6, .int 0), (5, .int x5_15), (4, .int x4_13), (3, .int x3_11), (0, .ref (B + 1)), (1, .int x1), (2, .int x2)]) dX11_mean_86 (by decide) rfl rfl ?_
              refine f_iconst C (v := 0) dX11_mean_88 kc0 rfl ?_
              refine f_istore C (lv2 := [(7, .int 0), (6, .int 0), (5, .int x5_15), (4, .int x4_13), (3, .int x3_11), (0, .ref (B + 1)), (1, .int x1), (2, .int x2)]) dX11_mean_89 (by decide) rfl rfl ?_
              refine f_lv C (lv2 := [(0, .ref (B + 1)), (1, .int x1), (2, .int x2), (3, .int x3_11), (4, .int x4_13), (5, .int x5_15), (6, .int 0), (7, .int 0)]) [5, 6, 7, 4, 3, 2, 1, 0] rfl ?_
              exact Lp_sound (fun s : Int32 × Int32 × Sto => E 91 [(0, .ref (B + 1)), (1, .int x1), (2, .int x2), (3, .int x3_11), (4, .int x4_13), (5, .int x5_15), (6, .int s.1), (7, .int s.2.1)] [] s.2.2) h (fun K s hK h => s_X11_mean_91 C x1 x2 x3_11 x4_13 x5_15 s.1 s.2.1 K (fun x6 x7 σ hk => hK (x6, x7, σ) hk) s.2.2 h)
            · replace h := Eq.mp (if_pos hq_10) h
              refine f_aload_n C (j := 0) dX11_mean_52 rfl rfl rfl ?_
              refine f_bipush C (v := 8) dX11_mean_53 kb8 rfl ?_
              refine f_callVi C (a := 1) (ci := 11) (As := fun B => [.int 8]) o1 rfl (c_X11_refuseSo  _ _ _ h) tM_X11_162 tI_X11_refuseSo tS_X11_refuseSo tN_X11 tC_X11_refuseSo 1 dd_X11_refuseSo rfl (by decide) (by decide) rfl (Nat.le_of_ble_eq_true rfl) dX11_mean_55 rfl (fun r_43 σ_42 h => ?_)
              obtain ⟨hb_44, h⟩ := h
              exact f_zret C hb_44 dX11_mean_58 h
          · replace h := Eq.mp (if_neg hq_8) h
            refine f_lv C (lv2 := [(0, .ref (B + 1))]) [0] rfl ?_
            exact s_X11_mean_33 C  _ h
theorem c_X11_mean (x1 : Int32) (x2 : Int32) (σ : Sto) (P : Int32 → Sto → Prop) (h : w_X11_mean x1 x2 σ P) : Ct yX11_mean cX11_mean 8 (some .boolean) 6 148 (fun B => [.ref (B + 1), .int x1, .int x2]) σ (QFi P) := Ct.of (by decide) (fun _ => Nat.le_of_ble_eq_true rfl) (fun B E C => s_X11_mean C x1 x2 σ h)
def w_X11_mark (σ : Sto) (P : Int32 → Sto → Prop) : Prop :=
  (if (gi σ 1 13) < 3 then vp_in (gi σ 1 13) 3 ∧ isCity (gr σ 1 11) ∧ w_X1_copyFrom (45 + 14 * (gi σ 1 13).toNatClampNeg) (gr σ 1 11) σ (fun σ_4 => ∀ σ_6 : Sto, σ_6 = si σ_4 1 13 ((gi σ_4 1 13) + 1) → w_X11_fine (gi σ_6 1 13) σ_6 (fun r_9 σ_8 => P r_9 σ_8)) else w_X11_refuse 7 σ (fun r_11 σ_10 => P r_11 σ_10))
theorem s_X11_mark {B : Nat} {E : Nat → List (Nat × Value) → List Value → Sto → Prop} {P : Int32 → Sto → Prop} (C : Cy B E RX11 cX11_mark 1 (some .int) 3 68 (Zm (QFi P))) (σ : Sto) (h : w_X11_mark σ P) : E 0 [(0, .ref (B + 1))] [] σ := by
  unfold w_X11_mark at h
  refine f_aload_n C (j := 0) dX11_mark_0 rfl rfl rfl ?_
  refine f_geti C tF_X11_106 rfl o1 dX11_mark_1 rfl ?_
  refine f_iconst C (v := 3) dX11_mark_4 kc3 rfl ?_
  refine f_icmp_lt C (t := 15) dX11_mark_5 (by decide) rfl (fun hq_1 => ?_) (fun hq_1 => ?_)
  · replace h := Eq.mp (if_pos hq_1) h
    refine f_aload_n C (j := 0) dX11_mark_15 rfl rfl rfl ?_
    refine f_getc C tF_X11_49 rfl o1 cs1_9 (by decide) dX11_mark_16 rfl ?_
    refine f_aload_n C (j := 0) dX11_mark_19 rfl rfl rfl ?_
    refine f_geti C tF_X11_106 rfl o1 dX11_mark_20 rfl ?_
    obtain ⟨hi_2, h⟩ := h
    refine f_aald4 C a44 hi_2 (cs_marked hi_2) (by omega) dX11_mark_23 rfl ?_
    refine f_aload_n C (j := 0) dX11_mark_24 rfl rfl rfl ?_
    obtain ⟨hc_3, h⟩ := h
    refine f_getm C tF_X11_26 rfl o1 cn1_11 hc_3.z dX11_mark_25 rfl ?_
    refine f_callVv C (a := 45 + 14 * (gi σ 1 13).toNatClampNeg) (ci := 1) (As := fun B => [.ref (B + (gr σ 1 11))]) (is_marked hi_2).o rfl (c_X1_copyFrom  _ _ _ _ h) tM_X11_422 tI_X1_copyFrom tS_X1_copyFrom tN_X1 tC_X1_copyFrom 1 dd_X1_copyFrom rfl (by decide) (by decide) rfl (Nat.le_of_ble_eq_true rfl) dX11_mark_28 rfl (fun σ_4 h => ?_)
    refine f_aload_n C (j := 0) dX11_mark_31 rfl rfl rfl ?_
    refine f_dup C dX11_mark_32 rfl rfl ?_
    refine f_geti C tF_X11_106 rfl o1 dX11_mark_33 rfl ?_
    refine f_iconst C (v := 1) dX11_mark_36 kc1 rfl ?_
    refine f_iadd C dX11_mark_37 rfl ?_
    refine f_puti C tF_X11_106 fm_11_13 rfl o1 dX11_mark_38 rfl ?_
    refine f_aload_n C (j := 0) dX11_mark_41 rfl rfl rfl ?_
    refine f_aload_n C (j := 0) dX11_mark_42 rfl rfl rfl ?_
    refine f_names (fun σ_6 hσ_7 => ?_)
    replace h := h σ_6 hσ_7
    refine f_geti C tF_X11_106 rfl o1 dX11_mark_43 rfl ?_
    refine f_callVi C (a := 1) (ci := 11) (As := fun B => [.int (gi σ_6 1 13)]) o1 rfl (c_X11_fine  _ _ _ h) tM_X11_130 tI_X11_fine tS_X11_fine tN_X11 tC_X11_fine 1 dd_X11_fine rfl (by decide) (by decide) rfl (Nat.le_of_ble_eq_true rfl) dX11_mark_46 rfl (fun r_9 σ_8 h => ?_)
    exact f_iret C dX11_mark_49 h
  · replace h := Eq.mp (if_neg hq_1) h
    refine f_aload_n C (j := 0) dX11_mark_8 rfl rfl rfl ?_
    refine f_bipush C (v := 7) dX11_mark_9 kb7 rfl ?_
    refine f_callVi C (a := 1) (ci := 11) (As := fun B => [.int 7]) o1 rfl (c_X11_refuse  _ _ _ h) tM_X11_126 tI_X11_refuse tS_X11_refuse tN_X11 tC_X11_refuse 1 dd_X11_refuse rfl (by decide) (by decide) rfl (Nat.le_of_ble_eq_true rfl) dX11_mark_11 rfl (fun r_11 σ_10 h => ?_)
    exact f_iret C dX11_mark_14 h
theorem c_X11_mark (σ : Sto) (P : Int32 → Sto → Prop) (h : w_X11_mark σ P) : Ct yX11_mark cX11_mark 1 (some .int) 3 68 (fun B => [.ref (B + 1)]) σ (QFi P) := Ct.of (by decide) (fun _ => Nat.le_of_ble_eq_true rfl) (fun B E C => s_X11_mark C σ h)
def w_X11_back (σ : Sto) (P : Int32 → Sto → Prop) : Prop :=
  (if 0 < (gi σ 1 13) then ∀ σ_2 : Sto, σ_2 = si σ 1 13 ((gi σ 1 13) - 1) → isCity (gr σ_2 1 11) ∧ vp_in (gi σ_2 1 13) 3 ∧ w_X1_copyFrom (gr σ_2 1 11) (45 + 14 * (gi σ_2 1 13).toNatClampNeg) σ_2 (fun σ_6 => w_X11_turnToNow σ_6 (fun σ_8 => w_X11_fine (gi σ_8 1 13) σ_8 (fun r_11 σ_10 => P r_11 σ_10))) else w_X11_refuse 8 σ (fun r_13 σ_12 => P r_13 σ_12))
theorem s_X11_back {B : Nat} {E : Nat → List (Nat × Value) → List Value → Sto → Prop} {P : Int32 → Sto → Prop} (C : Cy B E RX11 cX11_back 1 (some .int) 3 68 (Zm (QFi P))) (σ : Sto) (h : w_X11_back σ P) : E 0 [(0, .ref (B + 1))] [] σ := by
  unfold w_X11_back at h
  refine f_aload_n C (j := 0) dX11_back_0 rfl rfl rfl ?_
  refine f_geti C tF_X11_106 rfl o1 dX11_back_1 rfl ?_
  refine f_if_gt C (t := 14) dX11_back_4 (by decide) rfl (fun hq_1 => ?_) (fun hq_1 => ?_)
  · replace h := Eq.mp (if_pos hq_1) h
    refine f_aload_n C (j := 0) dX11_back_14 rfl rfl rfl ?_
    refine f_dup C dX11_back_15 rfl rfl ?_
    refine f_geti C tF_X11_106 rfl o1 dX11_back_16 rfl ?_
    refine f_iconst C (v := 1) dX11_back_19 kc1 rfl ?_
    refine f_isub C dX11_back_20 rfl ?_
    refine f_puti C tF_X11_106 fm_11_13 rfl o1 dX11_back_21 rfl ?_
    refine f_aload_n C (j := 0) dX11_back_24 rfl rfl rfl ?_
    refine f_names (fun σ_2 hσ_3 => ?_)
    replace h := h σ_2 hσ_3
    obtain ⟨hc_4, h⟩ := h
    refine f_getm C tF_X11_26 rfl o1 cn1_11 hc_4.z dX11_back_25 rfl ?_
    refine f_aload_n C (j := 0) dX11_back_28 rfl rfl rfl ?_
    refine f_getc C tF_X11_49 rfl o1 cs1_9 (by decide) dX11_back_29 rfl ?_
    refine f_aload_n C (j := 0) dX11_back_32 rfl rfl rfl ?_
    refine f_geti C tF_X11_106 rfl o1 dX11_back_33 rfl ?_
    obtain ⟨hi_5, h⟩ := h
    refine f_aald4 C a44 hi_5 (cs_marked hi_5) (by omega) dX11_back_36 rfl ?_
    refine f_callVv C (a := gr σ_2 1 11) (ci := 1) (As := fun B => [.ref (B + (45 + 14 * (gi σ_2 1 13).toNatClampNeg))]) hc_4.o rfl (c_X1_copyFrom  _ _ _ _ h) tM_X11_422 tI_X1_copyFrom tS_X1_copyFrom tN_X1 tC_X1_copyFrom 1 dd_X1_copyFrom rfl (by decide) (by decide) rfl (Nat.le_of_ble_eq_true rfl) dX11_back_37 rfl (fun σ_6 h => ?_)
    refine f_aload_n C (j := 0) dX11_back_40 rfl rfl rfl ?_
    refine f_callVv C (a := 1) (ci := 11) (As := fun B => []) o1 rfl (c_X11_turnToNow   _ _ h) tM_X11_218 tI_X11_turnToNow tS_X11_turnToNow tN_X11 tC_X11_turnToNow 0 dd_X11_turnToNow rfl (by decide) (by decide) rfl (Nat.le_of_ble_eq_true rfl) dX11_back_41 rfl (fun σ_8 h => ?_)
    refine f_aload_n C (j := 0) dX11_back_44 rfl rfl rfl ?_
    refine f_aload_n C (j := 0) dX11_back_45 rfl rfl rfl ?_
    refine f_geti C tF_X11_106 rfl o1 dX11_back_46 rfl ?_
    refine f_callVi C (a := 1) (ci := 11) (As := fun B => [.int (gi σ_8 1 13)]) o1 rfl (c_X11_fine  _ _ _ h) tM_X11_130 tI_X11_fine tS_X11_fine tN_X11 tC_X11_fine 1 dd_X11_fine rfl (by decide) (by decide) rfl (Nat.le_of_ble_eq_true rfl) dX11_back_49 rfl (fun r_11 σ_10 h => ?_)
    exact f_iret C dX11_back_52 h
  · replace h := Eq.mp (if_neg hq_1) h
    refine f_aload_n C (j := 0) dX11_back_7 rfl rfl rfl ?_
    refine f_bipush C (v := 8) dX11_back_8 kb8 rfl ?_
    refine f_callVi C (a := 1) (ci := 11) (As := fun B => [.int 8]) o1 rfl (c_X11_refuse  _ _ _ h) tM_X11_126 tI_X11_refuse tS_X11_refuse tN_X11 tC_X11_refuse 1 dd_X11_refuse rfl (by decide) (by decide) rfl (Nat.le_of_ble_eq_true rfl) dX11_back_10 rfl (fun r_13 σ_12 h => ?_)
    exact f_iret C dX11_back_13 h
theorem c_X11_back (σ : Sto) (P : Int32 → Sto → Prop) (h : w_X11_back σ P) : Ct yX11_back cX11_back 1 (some .int) 3 68 (fun B => [.ref (B + 1)]) σ (QFi P) := Ct.of (by decide) (fun _ => Nat.le_of_ble_eq_true rfl) (fun B E C => s_X11_back C σ h)
def w_X12_status (σ : Sto) (P : Int32 → Sto → Prop) : Prop :=
  ∀ σ_1 : Sto, σ_1 = si σ 101 1 0 → P (gi σ_1 101 0) σ_1
theorem s_X12_status {B : Nat} {E : Nat → List (Nat × Value) → List Value → Sto → Prop} {P : Int32 → Sto → Prop} (C : Cy B E RX12 cX12_status 1 (some .int) 0 0 (Zm (QFi P))) (σ : Sto) (h : w_X12_status σ P) : E 0 [(0, .ref (B + 101))] [] σ := by
  unfold w_X12_status at h
  refine f_aload_n C (j := 0) dX12_status_0 rfl rfl rfl ?_
  refine f_iconst C (v := 0) dX12_status_1 kc0 rfl ?_
  refine f_puti C tF_X12_74 fm_12_1 rfl o101 dX12_status_2 rfl ?_
  refine f_aload_n C (j := 0) dX12_status_5 rfl rfl rfl ?_
  refine f_names (fun σ_1 hσ_2 => ?_)
  replace h := h σ_1 hσ_2
  refine f_geti C tF_X12_77 rfl o101 dX12_status_6 rfl ?_
  exact f_iret C dX12_status_9 h
theorem c_X12_status (σ : Sto) (P : Int32 → Sto → Prop) (h : w_X12_status σ P) : Ct yX12_status cX12_status 1 (some .int) 0 0 (fun B => [.ref (B + 101)]) σ (QFi P) := Ct.of (by decide) (fun _ => Nat.le_of_ble_eq_true rfl) (fun B E C => s_X12_status C σ h)
def w_X12_top (σ : Sto) (P : Int64 → Sto → Prop) : Prop :=
  ∀ σ_1 : Sto, σ_1 = si σ 101 1 0 → P (gl σ_1 101 2) σ_1
theorem s_X12_top {B : Nat} {E : Nat → List (Nat × Value) → List Value → Sto → Prop} {P : Int64 → Sto → Prop} (C : Cy B E RX12 cX12_top 1 (some .long) 0 0 (Zm (QFl P))) (σ : Sto) (h : w_X12_top σ P) : E 0 [(0, .ref (B + 101))] [] σ := by
  unfold w_X12_top at h
  refine f_aload_n C (j := 0) dX12_top_0 rfl rfl rfl ?_
  refine f_iconst C (v := 0) dX12_top_1 kc0 rfl ?_
  refine f_puti C tF_X12_74 fm_12_1 rfl o101 dX12_top_2 rfl ?_
  refine f_aload_n C (j := 0) dX12_top_5 rfl rfl rfl ?_
  refine f_names (fun σ_1 hσ_2 => ?_)
  replace h := h σ_1 hσ_2
  refine f_getl C tF_X12_80 rfl o101 dX12_top_6 rfl ?_
  exact f_lret C dX12_top_9 h
theorem c_X12_top (σ : Sto) (P : Int64 → Sto → Prop) (h : w_X12_top σ P) : Ct yX12_top cX12_top 1 (some .long) 0 0 (fun B => [.ref (B + 101)]) σ (QFl P) := Ct.of (by decide) (fun _ => Nat.le_of_ble_eq_true rfl) (fun B E C => s_X12_top C σ h)
def w_X12_bottom (σ : Sto) (P : Int64 → Sto → Prop) : Prop :=
  ∀ σ_1 : Sto, σ_1 = si σ 101 1 0 → P (gl σ_1 101 3) σ_1
theorem s_X12_bottom {B : Nat} {E : Nat → List (Nat × Value) → List Value → Sto → Prop} {P : Int64 → Sto → Prop} (C : Cy B E RX12 cX12_bottom 1 (some .long) 0 0 (Zm (QFl P))) (σ : Sto) (h : w_X12_bottom σ P) : E 0 [(0, .ref (B + 101))] [] σ := by
  unfold w_X12_bottom at h
  refine f_aload_n C (j := 0) dX12_bottom_0 rfl rfl rfl ?_
  refine f_iconst C (v := 0) dX12_bottom_1 kc0 rfl ?_
  refine f_puti C tF_X12_74 fm_12_1 rfl o101 dX12_bottom_2 rfl ?_
  refine f_aload_n C (j := 0) dX12_bottom_5 rfl rfl rfl ?_
  refine f_names (fun σ_1 hσ_2 => ?_)
  replace h := h σ_1 hσ_2
  refine f_getl C tF_X12_7 rfl o101 dX12_bottom_6 rfl ?_
  exact f_lret C dX12_bottom_9 h
theorem c_X12_bottom (σ : Sto) (P : Int64 → Sto → Prop) (h : w_X12_bottom σ P) : Ct yX12_bottom cX12_bottom 1 (some .long) 0 0 (fun B => [.ref (B + 101)]) σ (QFl P) := Ct.of (by decide) (fun _ => Nat.le_of_ble_eq_true rfl) (fun B E C => s_X12_bottom C σ h)
def w_X12_refuse (x1 : Int32) (σ : Sto) (P : Int32 → Sto → Prop) : Prop :=
  P (-1) (si σ 101 0 x1)
theorem s_X12_refuse {B : Nat} {E : Nat → List (Nat × Value) → List Value → Sto → Prop} {P : Int32 → Sto → Prop} (C : Cy B E RX12 cX12_refuse 2 (some .int) 0 0 (Zm (QFi P))) (x1 : Int32) (σ : Sto) (h : w_X12_refuse x1 σ P) : E 0 [(0, .ref (B + 101)), (1, .int x1)] [] σ := by
  unfold w_X12_refuse at h
  refine f_aload_n C (j := 0) dX12_refuse_0 rfl rfl rfl ?_
  refine f_iload_n C (j := 1) dX12_refuse_1 rfl rfl rfl ?_
  refine f_puti C tF_X12_77 fm_12_0 rfl o101 dX12_refuse_2 rfl ?_
  refine f_iconst C (v := (-1)) dX12_refuse_5 kcm1 rfl ?_
  exact f_iret C dX12_refuse_6 h
theorem c_X12_refuse (x1 : Int32) (σ : Sto) (P : Int32 → Sto → Prop) (h : w_X12_refuse x1 σ P) : Ct yX12_refuse cX12_refuse 2 (some .int) 0 0 (fun B => [.ref (B + 101), .int x1]) σ (QFi P) := Ct.of (by decide) (fun _ => Nat.le_of_ble_eq_true rfl) (fun B E C => s_X12_refuse C x1 σ h)
def w_X12_no (x1 : Int32) (σ : Sto) (P : Int32 → Sto → Prop) : Prop :=
  P 0 (si σ 101 0 x1)
theorem s_X12_no {B : Nat} {E : Nat → List (Nat × Value) → List Value → Sto → Prop} {P : Int32 → Sto → Prop} (C : Cy B E RX12 cX12_no 2 (some .boolean) 0 0 (Zm (QFi P))) (x1 : Int32) (σ : Sto) (h : w_X12_no x1 σ P) : E 0 [(0, .ref (B + 101)), (1, .int x1)] [] σ := by
  unfold w_X12_no at h
  refine f_aload_n C (j := 0) dX12_no_0 rfl rfl rfl ?_
  refine f_iload_n C (j := 1) dX12_no_1 rfl rfl rfl ?_
  refine f_puti C tF_X12_77 fm_12_0 rfl o101 dX12_no_2 rfl ?_
  refine f_iconst C (v := 0) dX12_no_5 kc0 rfl ?_
  exact f_zret C (Or.inl rfl) dX12_no_6 h
theorem c_X12_no (x1 : Int32) (σ : Sto) (P : Int32 → Sto → Prop) (h : w_X12_no x1 σ P) : Ct yX12_no cX12_no 2 (some .boolean) 0 0 (fun B => [.ref (B + 101), .int x1]) σ (QFi P) := Ct.of (by decide) (fun _ => Nat.le_of_ble_eq_true rfl) (fun B E C => s_X12_no C x1 σ h)
def w_X12_isIn (x0 : Int64) (x2 : Int64) (x4 : Int64) (σ : Sto) (P : Int32 → Sto → Prop) : Prop :=
  (if (lg_cmp x0 x2) < 0 then P 0 σ else (if 0 < (lg_cmp x0 x4) then P 0 σ else P 1 σ))
theorem s_X12_isIn {B : Nat} {E : Nat → List (Nat × Value) → List Value → Sto → Prop} {P : Int32 → Sto → Prop} (C : Cy B E RX12 cX12_isIn 6 (some .boolean) 0 0 (Zm (QFi P))) (x0 : Int64) (x2 : Int64) (x4 : Int64) (σ : Sto) (h : w_X12_isIn x0 x2 x4 σ P) : E 0 [(0, .long x0), (2, .long x2), (4, .long x4)] [] σ := by
  unfold w_X12_isIn at h
  refine f_lload_n C (j := 0) dX12_isIn_0 rfl rfl rfl ?_
  refine f_lload_n C (j := 1) dX12_isIn_1 rfl rfl rfl ?_
  refine f_lcmp C dX12_isIn_2 rfl ?_
  refine f_if_lt C (t := 17) dX12_isIn_3 (by decide) rfl (fun hq_1 => ?_) (fun hq_1 => ?_)
  · replace h := Eq.mp (if_pos hq_1) h
    refine f_iconst C (v := 0) dX12_isIn_17 kc0 rfl ?_
    exact f_zret C (Or.inl rfl) dX12_isIn_18 h
  · replace h := Eq.mp (if_neg hq_1) h
    refine f_lload_n C (j := 0) dX12_isIn_6 rfl rfl rfl ?_
    refine f_lload C (j := 2) dX12_isIn_7 rfl rfl ?_
    refine f_lcmp C dX12_isIn_9 rfl ?_
    refine f_if_gt C (t := 17) dX12_isIn_10 (by decide) rfl (fun hq_2 => ?_) (fun hq_2 => ?_)
    · replace h := Eq.mp (if_pos hq_2) h
      refine f_iconst C (v := 0) dX12_isIn_17 kc0 rfl ?_
      exact f_zret C (Or.inl rfl) dX12_isIn_18 h
    · replace h := Eq.mp (if_neg hq_2) h
      refine f_iconst C (v := 1) dX12_isIn_13 kc1 rfl ?_
      refine f_goto C (t := 18) dX12_isIn_14 (by decide) ?_
      exact f_zret C (Or.inr rfl) dX12_isIn_18 h
theorem c_X12_isIn (x0 : Int64) (x2 : Int64) (x4 : Int64) (σ : Sto) (P : Int32 → Sto → Prop) (h : w_X12_isIn x0 x2 x4 σ P) : Ct yX12_isIn cX12_isIn 6 (some .boolean) 0 0 (fun B => [.long x0, .long x2, .long x4]) σ (QFi P) := Ct.of (by decide) (fun _ => Nat.le_of_ble_eq_true rfl) (fun B E C => s_X12_isIn C x0 x2 x4 σ h)
def w_X12_fraction_9 (K9 : Int64 × Int64 × Sto → Prop) (x1 : Int64) (x3 : Int64) (x5 : Int64) (x7 : Int64) (σ : Sto) (P : Int32 → Sto → Prop) : Prop :=
  (if (lg_cmp x7 0) = 0 then ¬ x5 = 0 ∧ P 1 (sl (sl σ 101 2 (x1 / x5)) 101 3 (x3 / x5)) else ¬ x7 = 0 ∧ ∀ x9_6 : Int64, x9_6 = x5 - x5 / x7 * x7 → K9 (x7, x9_6, σ))
theorem s_X12_fraction_9 {B : Nat} {E : Nat → List (Nat × Value) → List Value → Sto → Prop} {P : Int32 → Sto → Prop} (C : Cy B E RX12 cX12_fraction 11 (some .boolean) 1 21 (Zm (QFi P))) (x1 : Int64) (x3 : Int64) (x5 : Int64) (x7 : Int64) (K9 : Int64 × Int64 × Sto → Prop) (hK9 : ∀ (x5 : Int64) (x7 : Int64) (σ : Sto), K9 (x5, x7, σ) → E 9 [(0, .ref (B + 101)), (1, .long x1), (3, .long x3), (5, .long x5), (7, .long x7)] [] σ) (σ : Sto) (h : w_X12_fraction_9 K9 x1 x3 x5 x7 σ P) : E 9 [(0, .ref (B + 101)), (1, .long x1), (3, .long x3), (5, .long x5), (7, .long x7)] [] σ := by
  unfold w_X12_fraction_9 at h
  refine f_lload C (j := 4) dX12_fraction_9 rfl rfl ?_
  refine f_lconst C (v := 0) dX12_fraction_11 (by decide) rfl ?_
  refine f_lcmp C dX12_fraction_12 rfl ?_
  refine f_if_eq C (t := 34) dX12_fraction_13 (by decide) rfl (fun hq_3 => ?_) (fun hq_3 => ?_)
  · replace h := Eq.mp (if_pos hq_3) h
    refine f_aload_n C (j := 0) dX12_fraction_34 rfl rfl rfl ?_
    refine f_lload_n C (j := 1) dX12_fraction_35 rfl rfl rfl ?_
    refine f_lload C (j := 3) dX12_fraction_36 rfl rfl ?_
    obtain ⟨hz_4, h⟩ := h
    refine f_ldiv C dX12_fraction_38 hz_4 rfl ?_
    refine f_putl C tF_X12_80 fm_12_2 rfl o101 dX12_fraction_39 rfl ?_
    refine f_aload_n C (j := 0) dX12_fraction_42 rfl rfl rfl ?_
    refine f_lload_n C (j := 2) dX12_fraction_43 rfl rfl rfl ?_
    refine f_lload C (j := 3) dX12_fraction_44 rfl rfl ?_
    refine f_ldiv C dX12_fraction_46 hz_4 rfl ?_
    refine f_putl C tF_X12_7 fm_12_3 rfl o101 dX12_fraction_47 rfl ?_
    refine f_iconst C (v := 1) dX12_fraction_50 kc1 rfl ?_
    exact f_zret C (Or.inr rfl) dX12_fraction_51 h
  · replace h := Eq.mp (if_neg hq_3) h
    refine f_lload C (j := 3) dX12_fraction_16 rfl rfl ?_
    refine f_lload C (j := 4) dX12_fraction_18 rfl rfl ?_
    obtain ⟨hz_5, h⟩ := h
    refine f_lrem C dX12_fraction_20 hz_5 rfl ?_
    refine f_namel (fun x9_6 hx_7 => ?_)
    replace h := h x9_6 hx_7
    refine f_lstore C (lv2 := [(9, .long x9_6), (0, .ref (B + 101)), (1, .long x1), (3, .long x3), (5, .long x5), (7, .long x7)]) dX12_fraction_21 (by decide) rfl rfl ?_
    refine f_lload C (j := 5) dX12_fraction_23 rfl rfl ?_
    refine f_lstore C (lv2 := [(5, .long x7), (9, .long x9_6), (0, .ref (B + 101)), (1, .long x1), (3, .long x3), (7, .long x7)]) dX12_fraction_25 (by decide) rfl rfl ?_
    refine f_lload C (j := 1) dX12_fraction_27 rfl rfl ?_
    refine f_lstore C (lv2 := [(7, .long x9_6), (5, .long x7), (9, .long x9_6), (0, .ref (B + 101)), (1, .long x1), (3, .long x3)]) dX12_fraction_29 (by decide) rfl rfl ?_
    refine f_goto C (t := 9) dX12_fraction_31 (by decide) ?_
    refine f_lv C (lv2 := [(0, .ref (B + 101)), (1, .long x1), (3, .long x3), (5, .long x7), (7, .long x9_6)]) [3, 4, 5, 1, 0] rfl ?_
    exact hK9 _ _ _ h
def w_X12_fraction (x1 : Int64) (x3 : Int64) (σ : Sto) (P : Int32 → Sto → Prop) : Prop :=
  ∀ x5_1 : Int64, x5_1 = (if 0 < x1 then x1 else -x1) → Lp (fun (K : Int64 × Int64 × Sto → Prop) s => w_X12_fraction_9 K x1 x3 s.1 s.2.1 s.2.2 P) (x5_1, x3, σ)
theorem s_X12_fraction {B : Nat} {E : Nat → List (Nat × Value) → List Value → Sto → Prop} {P : Int32 → Sto → Prop} (C : Cy B E RX12 cX12_fraction 11 (some .boolean) 1 21 (Zm (QFi P))) (x1 : Int64) (x3 : Int64) (σ : Sto) (h : w_X12_fraction x1 x3 σ P) : E 0 [(0, .ref (B + 101)), (1, .long x1), (3, .long x3)] [] σ := by
  unfold w_X12_fraction at h
  refine f_lload_n C (j := 1) dX12_fraction_0 rfl rfl rfl ?_
  refine f_mabsl C tM_X12_83 tT_J9_abs_067f4 tN_J9 tC_J9_abs_067f4 (by decide) (by decide) (Nat.le_of_ble_eq_true rfl) dX12_fraction_1 rfl ?_
  refine f_namel (fun x5_1 hx_2 => ?_)
  replace h := h x5_1 hx_2
  refine f_lstore C (lv2 := [(5, .long x5_1), (0, .ref (B + 101)), (1, .long x1), (3, .long x3)]) dX12_fraction_4 (by decide) rfl rfl ?_
  refine f_lload_n C (j := 3) dX12_fraction_6 rfl rfl rfl ?_
  refine f_lstore C (lv2 := [(7, .long x3), (5, .long x5_1), (0, .ref (B + 101)), (1, .long x1), (3, .long x3)]) dX12_fraction_7 (by decide) rfl rfl ?_
  refine f_lv C (lv2 := [(0, .ref (B + 101)), (1, .long x1), (3, .long x3), (5, .long x5_1), (7, .long x3)]) [2, 3, 4, 1, 0] rfl ?_
  exact Lp_sound (fun s : Int64 × Int64 × Sto => E 9 [(0, .ref (B + 101)), (1, .long x1), (3, .long x3), (5, .long s.1), (7, .long s.2.1)] [] s.2.2) h (fun K s hK h => s_X12_fraction_9 C x1 x3 s.1 s.2.1 K (fun x5 x7 σ hk => hK (x5, x7, σ) hk) s.2.2 h)
theorem c_X12_fraction (x1 : Int64) (x3 : Int64) (σ : Sto) (P : Int32 → Sto → Prop) (h : w_X12_fraction x1 x3 σ P) : Ct yX12_fraction cX12_fraction 11 (some .boolean) 1 21 (fun B => [.ref (B + 101), .long x1, .long x3]) σ (QFi P) := Ct.of (by decide) (fun _ => Nat.le_of_ble_eq_true rfl) (fun B E C => s_X12_fraction C x1 x3 σ h)
def w_X12_cut (x0 : Int32) (x1 : Int64) (σ : Sto) (P : Int64 → Sto → Prop) : Prop :=
  (if x0 = 0 then P x1.toInt32.toInt8.toInt32.toInt64 σ else (if x0 = 1 then P x1.toInt32.toInt16.toInt32.toInt64 σ else (if x0 = 2 then P x1.toInt32.toInt64 σ else P x1 σ)))
theorem s_X12_cut {B : Nat} {E : Nat → List (Nat × Value) → List Value → Sto → Prop} {P : Int64 → Sto → Prop} (C : Cy B E RX12 cX12_cut 3 (some .long) 0 0 (Zm (QFl P))) (x0 : Int32) (x1 : Int64) (σ : Sto) (h : w_X12_cut x0 x1 σ P) : E 0 [(0, .int x0), (1, .long x1)] [] σ := by
  unfold w_X12_cut at h
  refine f_iload_n C (j := 0) dX12_cut_0 rfl rfl rfl ?_
  refine f_if_ne C (t := 11) dX12_cut_1 (by decide) rfl (fun hq_1 => ?_) (fun hq_1 => ?_)
  · replace h := Eq.mp (if_neg hq_1) h
    refine f_iload_n C (j := 0) dX12_cut_11 rfl rfl rfl ?_
    refine f_iconst C (v := 1) dX12_cut_12 kc1 rfl ?_
    refine f_icmp_ne C (t := 23) dX12_cut_13 (by decide) rfl (fun hq_2 => ?_) (fun hq_2 => ?_)
    · replace h := Eq.mp (if_neg hq_2) h
      refine f_iload_n C (j := 0) dX12_cut_23 rfl rfl rfl ?_
      refine f_iconst C (v := 2) dX12_cut_24 kc2 rfl ?_
      refine f_icmp_ne C (t := 34) dX12_cut_25 (by decide) rfl (fun hq_3 => ?_) (fun hq_3 => ?_)
      · replace h := Eq.mp (if_neg hq_3) h
        refine f_lload_n C (j := 1) dX12_cut_34 rfl rfl rfl ?_
        exact f_lret C dX12_cut_35 h
      · replace h := Eq.mp (if_pos hq_3) h
        refine f_lload_n C (j := 1) dX12_cut_28 rfl rfl rfl ?_
        refine f_l2i C dX12_cut_29 rfl ?_
        refine f_i2l C dX12_cut_30 rfl ?_
        refine f_goto C (t := 35) dX12_cut_31 (by decide) ?_
        exact f_lret C dX12_cut_35 h
    · replace h := Eq.mp (if_pos hq_2) h
      refine f_lload_n C (j := 1) dX12_cut_16 rfl rfl rfl ?_
      refine f_l2i C dX12_cut_17 rfl ?_
      refine f_i2s C dX12_cut_18 rfl ?_
      refine f_i2l C dX12_cut_19 rfl ?_
      refine f_goto C (t := 35) dX12_cut_20 (by decide) ?_
      exact f_lret C dX12_cut_35 h
  · replace h := Eq.mp (if_pos hq_1) h
    refine f_lload_n C (j := 1) dX12_cut_4 rfl rfl rfl ?_
    refine f_l2i C dX12_cut_5 rfl ?_
    refine f_i2b C dX12_cut_6 rfl ?_
    refine f_i2l C dX12_cut_7 rfl ?_
    refine f_goto C (t := 35) dX12_cut_8 (by decide) ?_
    exact f_lret C dX12_cut_35 h
theorem c_X12_cut (x0 : Int32) (x1 : Int64) (σ : Sto) (P : Int64 → Sto → Prop) (h : w_X12_cut x0 x1 σ P) : Ct yX12_cut cX12_cut 3 (some .long) 0 0 (fun B => [.int x0, .long x1]) σ (QFl P) := Ct.of (by decide) (fun _ => Nat.le_of_ble_eq_true rfl) (fun B E C => s_X12_cut C x0 x1 σ h)
def w_X12_tray_28 (σ : Sto) (P : Int32 → Sto → Prop) : Prop :=
  w_X12_no 1 σ (fun r_3 σ_2 => (r_3 = 0 ∨ r_3 = 1) ∧ P r_3 σ_2)
theorem s_X12_tray_28 {B : Nat} {E : Nat → List (Nat × Value) → List Value → Sto → Prop} {P : Int32 → Sto → Prop} (C : Cy B E RX12 cX12_tray 5 (some .boolean) 1 21 (Zm (QFi P))) (σ : Sto) (h : w_X12_tray_28 σ P) : E 28 [(0, .ref (B + 101))] [] σ := by
  unfold w_X12_tray_28 at h
  refine f_aload_n C (j := 0) dX12_tray_28 rfl rfl rfl ?_
  refine f_iconst C (v := 1) dX12_tray_29 kc1 rfl ?_
  refine f_callVi C (a := 101) (ci := 12) (As := fun B => [.int 1]) o101 rfl (c_X12_no  _ _ _ h) tM_X12_89 tI_X12_no tS_X12_no tN_X12 tC_X12_no 1 dd_X12_no rfl (by decide) (by decide) rfl (Nat.le_of_ble_eq_true rfl) dX12_tray_30 rfl (fun r_3 σ_2 h => ?_)
  obtain ⟨hb_4, h⟩ := h
  exact f_zret C hb_4 dX12_tray_33 h
def w_X12_tray_74 (K74 : Int32 × Sto → Prop) (x1 : Int32) (x3 : Int32) (x4 : Int32) (σ : Sto) (P : Int32 → Sto → Prop) : Prop :=
  (if x3 ≤ x4 then P 1 σ else vp_in ((60 * x1) + x4) 240 ∧ ∀ x4_13 : Int32, x4_13 = x4 + 1 → K74 (x4_13, sl σ 104 (tn ((60 * x1) + x4)) 0))
theorem s_X12_tray_74 {B : Nat} {E : Nat → List (Nat × Value) → List Value → Sto → Prop} {P : Int32 → Sto → Prop} (C : Cy B E RX12 cX12_tray 5 (some .boolean) 1 21 (Zm (QFi P))) (x1 : Int32) (x3 : Int32) (x4 : Int32) (K74 : Int32 × Sto → Prop) (hK74 : ∀ (x4 : Int32) (σ : Sto), K74 (x4, σ) → E 74 [(0, .ref (B + 101)), (1, .int x1), (3, .int x3), (4, .int x4)] [] σ) (σ : Sto) (h : w_X12_tray_74 K74 x1 x3 x4 σ P) : E 74 [(0, .ref (B + 101)), (1, .int x1), (3, .int x3), (4, .int x4)] [] σ := by
  unfold w_X12_tray_74 at h
  refine f_iload C (j := 3) dX12_tray_74 rfl rfl ?_
  refine f_iload_n C (j := 2) dX12_tray_76 rfl rfl rfl ?_
  refine f_icmp_ge C (t := 99) dX12_tray_77 (by decide) rfl (fun hq_11 => ?_) (fun hq_11 => ?_)
  · replace h := Eq.mp (if_pos hq_11) h
    refine f_iconst C (v := 1) dX12_tray_99 kc1 rfl ?_
    exact f_zret C (Or.inr rfl) dX12_tray_100 h
  · replace h := Eq.mp (if_neg hq_11) h
    refine f_aload_n C (j := 0) dX12_tray_80 rfl rfl rfl ?_
    refine f_getc C tF_X12_20 rfl o101 cs101_6 (by decide) dX12_tray_81 rfl ?_
    refine f_bipush C (v := 60) dX12_tray_84 kb60 rfl ?_
    refine f_iload_n C (j := 1) dX12_tray_86 rfl rfl rfl ?_
    refine f_imul C dX12_tray_87 rfl ?_
    refine f_iload C (j := 3) dX12_tray_88 rfl rfl ?_
    refine f_iadd C dX12_tray_90 rfl ?_
    refine f_lconst C (v := 0) dX12_tray_91 (by decide) rfl ?_
    obtain ⟨hi_12, h⟩ := h
    refine f_last C (j := tn ((60 * x1) + x4)) a104 hi_12 rfl dX12_tray_92 rfl ?_
    obtain ⟨x4_13, hx_14⟩ : ∃ y : Int32, y = x4 + 1 := ⟨_, rfl⟩
    replace h := h x4_13 hx_14
    refine f_iinc C (j := 3) (v := x4_13) (lv2 := [(4, .int x4_13), (0, .ref (B + 101)), (1, .int x1), (3, .int x3)]) dX12_tray_93 rfl hx_14.symm (by decide) rfl rfl ?_
    refine f_goto C (t := 74) dX12_tray_96 (by decide) ?_
    refine f_lv C (lv2 := [(0, .ref (B + 101)), (1, .int x1), (3, .int x3), (4, .int x4_13)]) [1, 2, 3, 0] rfl ?_
    exact hK74 _ _ h
def w_X12_tray (x1 : Int32) (x2 : Int32) (x3 : Int32) (σ : Sto) (P : Int32 → Sto → Prop) : Prop :=
  (if x1 < 0 then w_X12_tray_28 (si (si σ 101 1 0) 101 0 0) P else (if 4 ≤ x1 then w_X12_tray_28 (si (si σ 101 1 0) 101 0 0) P else (if x2 < 0 then w_X12_tray_28 (si (si σ 101 1 0) 101 0 0) P else (if x2 ≤ 3 then (if x3 ≤ 60 then (if 0 ≤ x3 then vp_in x1 4 ∧ Lp (fun (K : Int32 × Sto → Prop) s => w_X12_tray_74 K x1 x3 s.1 s.2 P) (0, si (si (si (si σ 101 1 0) 101 0 0) 102 (tn x1) x2) 103 (tn x1) x3) else w_X12_no 6 (si (si σ 101 1 0) 101 0 0) (fun r_16 σ_15 => (r_16 = 0 ∨ r_16 = 1) ∧ P r_16 σ_15)) else w_X12_no 5 (si (si σ 101 1 0) 101 0 0) (fun r_19 σ_18 => (r_19 = 0 ∨ r_19 = 1) ∧ P r_19 σ_18)) else w_X12_tray_28 (si (si σ 101 1 0) 101 0 0) P))))
theorem s_X12_tray {B : Nat} {E : Nat → List (Nat × Value) → List Value → Sto → Prop} {P : Int32 → Sto → Prop} (C : Cy B E RX12 cX12_tray 5 (some .boolean) 1 21 (Zm (QFi P))) (x1 : Int32) (x2 : Int32) (x3 : Int32) (σ : Sto) (h : w_X12_tray x1 x2 x3 σ P) : E 0 [(0, .ref (B + 101)), (1, .int x1), (2, .int x2), (3, .int x3)] [] σ := by
  unfold w_X12_tray at h
  refine f_aload_n C (j := 0) dX12_tray_0 rfl rfl rfl ?_
  refine f_iconst C (v := 0) dX12_tray_1 kc0 rfl ?_
  refine f_puti C tF_X12_74 fm_12_1 rfl o101 dX12_tray_2 rfl ?_
  refine f_aload_n C (j := 0) dX12_tray_5 rfl rfl rfl ?_
  refine f_iconst C (v := 0) dX12_tray_6 kc0 rfl ?_
  refine f_puti C tF_X12_77 fm_12_0 rfl o101 dX12_tray_7 rfl ?_
  refine f_iload_n C (j := 1) dX12_tray_10 rfl rfl rfl ?_
  refine f_if_lt C (t := 28) dX12_tray_11 (by decide) rfl (fun hq_1 => ?_) (fun hq_1 => ?_)
  · replace h := Eq.mp (if_pos hq_1) h
    refine f_lv C (lv2 := [(0, .ref (B + 101))]) [0] rfl ?_
    exact s_X12_tray_28 C  _ h
  · replace h := Eq.mp (if_neg hq_1) h
    refine f_iload_n C (j := 1) dX12_tray_14 rfl rfl rfl ?_
    refine f_iconst C (v := 4) dX12_tray_15 kc4 rfl ?_
    refine f_icmp_ge C (t := 28) dX12_tray_16 (by decide) rfl (fun hq_5 => ?_) (fun hq_5 => ?_)
    · replace h := Eq.mp (if_pos hq_5) h
      refine f_lv C (lv2 := [(0, .ref (B + 101))]) [0] rfl ?_
      exact s_X12_tray_28 C  _ h
    · replace h := Eq.mp (if_neg hq_5) h
      refine f_iload_n C (j := 2) dX12_tray_19 rfl rfl rfl ?_
      refine f_if_lt C (t := 28) dX12_tray_20 (by decide) rfl (fun hq_6 => ?_) (fun hq_6 => ?_)
      · replace h := Eq.mp (if_pos hq_6) h
        refine f_lv C (lv2 := [(0, .ref (B + 101))]) [0] rfl ?_
        exact s_X12_tray_28 C  _ h
      · replace h := Eq.mp (if_neg hq_6) h
        refine f_iload_n C (j := 2) dX12_tray_23 rfl rfl rfl ?_
        refine f_iconst C (v := 3) dX12_tray_24 kc3 rfl ?_
        refine f_icmp_le C (t := 34) dX12_tray_25 (by decide) rfl (fun hq_7 => ?_) (fun hq_7 => ?_)
        · replace h := Eq.mp (if_pos hq_7) h
          refine f_iload_n C (j := 3) dX12_tray_34 rfl rfl rfl ?_
          refine f_bipush C (v := 60) dX12_tray_35 kb60 rfl ?_
          refine f_icmp_le C (t := 46) dX12_tray_37 (by decide) rfl (fun hq_8 => ?_) (fun hq_8 => ?_)
          · replace h := Eq.mp (if_pos hq_8) h
            refine f_iload_n C (j := 3) dX12_tray_46 rfl rfl rfl ?_
            refine f_if_ge C (t := 57) dX12_tray_47 (by decide) rfl (fun hq_9 => ?_) (fun hq_9 => ?_)
            · replace h := Eq.mp (if_pos hq_9) h
              refine f_aload_n C (j := 0) dX12_tray_57 rfl rfl rfl ?_
              refine f_getc C tF_X12_13 rfl o101 cs101_4 (by decide) dX12_tray_58 rfl ?_
              refine f_iload_n C (j := 1) dX12_tray_61 rfl rfl rfl ?_
              refine f_iload_n C (j := 2) dX12_tray_62 rfl rfl rfl ?_
              obtain ⟨hi_10, h⟩ := h
              refine f_iast C (j := tn x1) a102 hi_10 rfl dX12_tray_63 rfl ?_
              refine f_aload_n C (j := 0) dX12_tray_64 rfl rfl rfl ?_
              refine f_getc C tF_X12_17 rfl o101 cs101_5 (by decide) dX12_tray_65 rfl ?_
              refine f_iload_n C (j := 1) dX12_tray_68 rfl rfl rfl ?_
              refine f_iload_n C (j := 3) dX12_tray_69 rfl rfl rfl ?_
              refine f_iast C (j := tn x1) a103 hi_10 rfl dX12_tray_70 rfl ?_
              refine f_iconst C (v := 0) dX12_tray_71 kc0 rfl ?_
              refine f_istore C (lv2 := [(4, .int 0), (0, .ref (B + 101)), (1, .int x1), (2, .int x2), (3, .int x3)]) dX12_tray_72 (by decide) rfl rfl ?_
              refine f_lv C (lv2 := [(0, .ref (B + 101)), (1, .int x1), (3, .int x3), (4, .int 0)]) [1, 2, 4, 0] rfl ?_
              exact Lp_sound (fun s : Int32 × Sto => E 74 [(0, .ref (B + 101)), (1, .int x1), (3, .int x3), (4, .int s.1)] [] s.2) h (fun K s hK h => s_X12_tray_74 C x1 x3 s.1 K (fun x4 σ hk => hK (x4, σ) hk) s.2 h)
            · replace h := Eq.mp (if_neg hq_9) h
              refine f_aload_n C (j := 0) dX12_tray_50 rfl rfl rfl ?_
              refine f_bipush C (v := 6) dX12_tray_51 kb6 rfl ?_
              refine f_callVi C (a := 101) (ci := 12) (As := fun B => [.int 6]) o101 rfl (c_X12_no  _ _ _ h) tM_X12_89 tI_X12_no tS_X12_no tN_X12 tC_X12_no 1 dd_X12_no rfl (by decide) (by decide) rfl (Nat.le_of_ble_eq_true rfl) dX12_tray_53 rfl (fun r_16 σ_15 h => ?_)
              obtain ⟨hb_17, h⟩ := h
              exact f_zret C hb_17 dX12_tray_56 h
          · replace h := Eq.mp (if_neg hq_8) h
            refine f_aload_n C (j := 0) dX12_tray_40 rfl rfl rfl ?_
            refine f_iconst C (v := 5) dX12_tray_41 kc5 rfl ?_
            refine f_callVi C (a := 101) (ci := 12) (As := fun B => [.int 5]) o101 rfl (c_X12_no  _ _ _ h) tM_X12_89 tI_X12_no tS_X12_no tN_X12 tC_X12_no 1 dd_X12_no rfl (by decide) (by decide) rfl (Nat.le_of_ble_eq_true rfl) dX12_tray_42 rfl (fun r_19 σ_18 h => ?_)
            obtain ⟨hb_20, h⟩ := h
            exact f_zret C hb_20 dX12_tray_45 h
        · replace h := Eq.mp (if_neg hq_7) h
          refine f_lv C (lv2 := [(0, .ref (B + 101))]) [0] rfl ?_
          exact s_X12_tray_28 C  _ h
theorem c_X12_tray (x1 : Int32) (x2 : Int32) (x3 : Int32) (σ : Sto) (P : Int32 → Sto → Prop) (h : w_X12_tray x1 x2 x3 σ P) : Ct yX12_tray cX12_tray 5 (some .boolean) 1 21 (fun B => [.ref (B + 101), .int x1, .int x2, .int x3]) σ (QFi P) := Ct.of (by decide) (fun _ => Nat.le_of_ble_eq_true rfl) (fun B E C => s_X12_tray C x1 x2 x3 σ h)
def w_X12_trayed (x1 : Int32) (σ : Sto) (P : Int32 → Sto → Prop) : Prop :=
  (if x1 < 0 then P 1 σ else (if x1 < 4 then vp_in x1 4 ∧ (if 0 ≤ (gi σ 103 (tn x1)) then P 0 σ else P 3 σ) else P 1 σ))
theorem s_X12_trayed {B : Nat} {E : Nat → List (Nat × Value) → List Value → Sto → Prop} {P : Int32 → Sto → Prop} (C : Cy B E RX12 cX12_trayed 2 (some .int) 0 0 (Zm (QFi P))) (x1 : Int32) (σ : Sto) (h : w_X12_trayed x1 σ P) : E 0 [(0, .ref (B + 101)), (1, .int x1)] [] σ := by
  unfold w_X12_trayed at h
  refine f_iload_n C (j := 1) dX12_trayed_0 rfl rfl rfl ?_
  refine f_if_lt C (t := 9) dX12_trayed_1 (by decide) rfl (fun hq_1 => ?_) (fun hq_1 => ?_)
  · replace h := Eq.mp (if_pos hq_1) h
    refine f_iconst C (v := 1) dX12_trayed_9 kc1 rfl ?_
    refine f_goto C (t := 27) dX12_trayed_10 (by decide) ?_
    exact f_iret C dX12_trayed_27 h
  · replace h := Eq.mp (if_neg hq_1) h
    refine f_iload_n C (j := 1) dX12_trayed_4 rfl rfl rfl ?_
    refine f_iconst C (v := 4) dX12_trayed_5 kc4 rfl ?_
    refine f_icmp_lt C (t := 13) dX12_trayed_6 (by decide) rfl (fun hq_2 => ?_) (fun hq_2 => ?_)
    · replace h := Eq.mp (if_pos hq_2) h
      refine f_aload_n C (j := 0) dX12_trayed_13 rfl rfl rfl ?_
      refine f_getc C tF_X12_17 rfl o101 cs101_5 (by decide) dX12_trayed_14 rfl ?_
      refine f_iload_n C (j := 1) dX12_trayed_17 rfl rfl rfl ?_
      obtain ⟨hi_3, h⟩ := h
      refine f_iald C (j := tn x1) a103 hi_3 rfl dX12_trayed_18 rfl ?_
      refine f_if_ge C (t := 26) dX12_trayed_19 (by decide) rfl (fun hq_4 => ?_) (fun hq_4 => ?_)
      · replace h := Eq.mp (if_pos hq_4) h
        refine f_iconst C (v := 0) dX12_trayed_26 kc0 rfl ?_
        exact f_iret C dX12_trayed_27 h
      · replace h := Eq.mp (if_neg hq_4) h
        refine f_iconst C (v := 3) dX12_trayed_22 kc3 rfl ?_
        refine f_goto C (t := 27) dX12_trayed_23 (by decide) ?_
        exact f_iret C dX12_trayed_27 h
    · replace h := Eq.mp (if_neg hq_2) h
      refine f_iconst C (v := 1) dX12_trayed_9 kc1 rfl ?_
      refine f_goto C (t := 27) dX12_trayed_10 (by decide) ?_
      exact f_iret C dX12_trayed_27 h
theorem c_X12_trayed (x1 : Int32) (σ : Sto) (P : Int32 → Sto → Prop) (h : w_X12_trayed x1 σ P) : Ct yX12_trayed cX12_trayed 2 (some .int) 0 0 (fun B => [.ref (B + 101), .int x1]) σ (QFi P) := Ct.of (by decide) (fun _ => Nat.le_of_ble_eq_true rfl) (fun B E C => s_X12_trayed C x1 σ h)
def w_X12_placed (x1 : Int32) (x2 : Int32) (σ : Sto) (P : Int32 → Sto → Prop) : Prop :=
  w_X12_trayed x1 σ (fun r_2 σ_1 => (if r_2 ≤ 0 then (if x2 < 0 then P 4 σ_1 else vp_in x1 4 ∧ (if x2 < (gi σ_1 103 (tn x1)) then P 0 σ_1 else P 4 σ_1)) else P r_2 σ_1))
theorem s_X12_placed {B : Nat} {E : Nat → List (Nat × Value) → List Value → Sto → Prop} {P : Int32 → Sto → Prop} (C : Cy B E RX12 cX12_placed 4 (some .int) 1 21 (Zm (QFi P))) (x1 : Int32) (x2 : Int32) (σ : Sto) (h : w_X12_placed x1 x2 σ P) : E 0 [(0, .ref (B + 101)), (1, .int x1), (2, .int x2)] [] σ := by
  unfold w_X12_placed at h
  refine f_aload_n C (j := 0) dX12_placed_0 rfl rfl rfl ?_
  refine f_iload_n C (j := 1) dX12_placed_1 rfl rfl rfl ?_
  refine f_callVi C (a := 101) (ci := 12) (As := fun B => [.int x1]) o101 rfl (c_X12_trayed  _ _ _ h) tM_X12_93 tI_X12_trayed tS_X12_trayed tN_X12 tC_X12_trayed 1 dd_X12_trayed rfl (by decide) (by decide) rfl (Nat.le_of_ble_eq_true rfl) dX12_placed_2 rfl (fun r_2 σ_1 h => ?_)
  refine f_istore_n C (lv2 := [(3, .int r_2), (0, .ref (B + 101)), (1, .int x1), (2, .int x2)]) dX12_placed_5 rfl (by decide) rfl rfl ?_
  refine f_iload_n C (j := 0) dX12_placed_6 rfl rfl rfl ?_
  refine f_if_le C (t := 14) dX12_placed_7 (by decide) rfl (fun hq_3 => ?_) (fun hq_3 => ?_)
  · replace h := Eq.mp (if_pos hq_3) h
    refine f_iload_n C (j := 3) dX12_placed_14 rfl rfl rfl ?_
    refine f_if_lt C (t := 28) dX12_placed_15 (by decide) rfl (fun hq_4 => ?_) (fun hq_4 => ?_)
    · replace h := Eq.mp (if_pos hq_4) h
      refine f_iconst C (v := 4) dX12_placed_28 kc4 rfl ?_
      refine f_goto C (t := 33) dX12_placed_29 (by decide) ?_
      exact f_iret C dX12_placed_33 h
    · replace h := Eq.mp (if_neg hq_4) h
      refine f_iload_n C (j := 3) dX12_placed_18 rfl rfl rfl ?_
      refine f_aload_n C (j := 1) dX12_placed_19 rfl rfl rfl ?_
      refine f_getc C tF_X12_17 rfl o101 cs101_5 (by decide) dX12_placed_20 rfl ?_
      refine f_iload_n C (j := 2) dX12_placed_23 rfl rfl rfl ?_
      obtain ⟨hi_5, h⟩ := h
      refine f_iald C (j := tn x1) a103 hi_5 rfl dX12_placed_24 rfl ?_
      refine f_icmp_lt C (t := 32) dX12_placed_25 (by decide) rfl (fun hq_6 => ?_) (fun hq_6 => ?_)
      · replace h := Eq.mp (if_pos hq_6) h
        refine f_iconst C (v := 0) dX12_placed_32 kc0 rfl ?_
        exact f_iret C dX12_placed_33 h
      · replace h := Eq.mp (if_neg hq_6) h
        refine f_iconst C (v := 4) dX12_placed_28 kc4 rfl ?_
        refine f_goto C (t := 33) dX12_placed_29 (by decide) ?_
        exact f_iret C dX12_placed_33 h
  · replace h := Eq.mp (if_neg hq_3) h
    refine f_iload_n C (j := 0) dX12_placed_10 rfl rfl rfl ?_
    refine f_goto C (t := 33) dX12_placed_11 (by decide) ?_
    exact f_iret C dX12_placed_33 h
theorem c_X12_placed (x1 : Int32) (x2 : Int32) (σ : Sto) (P : Int32 → Sto → Prop) (h : w_X12_placed x1 x2 σ P) : Ct yX12_placed cX12_placed 4 (some .int) 1 21 (fun B => [.ref (B + 101), .int x1, .int x2]) σ (QFi P) := Ct.of (by decide) (fun _ => Nat.le_of_ble_eq_true rfl) (fun B E C => s_X12_placed C x1 x2 σ h)
def w_X12_write (x1 : Int32) (x2 : Int32) (x3 : Int64) (σ : Sto) (P : Int32 → Sto → Prop) : Prop :=
  w_X12_placed x1 x2 (si σ 101 1 0) (fun r_2 σ_1 => ∀ σ_3 : Sto, σ_3 = si σ_1 101 0 r_2 → (if (gi σ_3 101 0) ≤ 0 then vp_in x1 4 ∧ w_X12_cut (gi σ_3 102 (tn x1)) x3 σ_3 (fun r_8 σ_7 => vp_in ((60 * x1) + x2) 240 ∧ P 1 (sl σ_7 104 (tn ((60 * x1) + x2)) r_8)) else P 0 σ_3))
theorem s_X12_write {B : Nat} {E : Nat → List (Nat × Value) → List Value → Sto → Prop} {P : Int32 → Sto → Prop} (C : Cy B E RX12 cX12_write 5 (some .boolean) 2 44 (Zm (QFi P))) (x1 : Int32) (x2 : Int32) (x3 : Int64) (σ : Sto) (h : w_X12_write x1 x2 x3 σ P) : E 0 [(0, .ref (B + 101)), (1, .int x1), (2, .int x2), (3, .long x3)] [] σ := by
  unfold w_X12_write at h
  refine f_aload_n C (j := 0) dX12_write_0 rfl rfl rfl ?_
  refine f_iconst C (v := 0) dX12_write_1 kc0 rfl ?_
  refine f_puti C tF_X12_74 fm_12_1 rfl o101 dX12_write_2 rfl ?_
  refine f_aload_n C (j := 0) dX12_write_5 rfl rfl rfl ?_
  refine f_aload_n C (j := 0) dX12_write_6 rfl rfl rfl ?_
  refine f_iload_n C (j := 1) dX12_write_7 rfl rfl rfl ?_
  refine f_iload_n C (j := 2) dX12_write_8 rfl rfl rfl ?_
  refine f_callVi C (a := 101) (ci := 12) (As := fun B => [.int x1, .int x2]) o101 rfl (c_X12_placed  _ _ _ _ h) tM_X12_97 tI_X12_placed tS_X12_placed tN_X12 tC_X12_placed 2 dd_X12_placed rfl (by decide) (by decide) rfl (Nat.le_of_ble_eq_true rfl) dX12_write_9 rfl (fun r_2 σ_1 h => ?_)
  refine f_puti C tF_X12_77 fm_12_0 rfl o101 dX12_write_12 rfl ?_
  refine f_aload_n C (j := 0) dX12_write_15 rfl rfl rfl ?_
  refine f_names (fun σ_3 hσ_4 => ?_)
  replace h := h σ_3 hσ_4
  refine f_geti C tF_X12_77 rfl o101 dX12_write_16 rfl ?_
  refine f_if_le C (t := 24) dX12_write_19 (by decide) rfl (fun hq_5 => ?_) (fun hq_5 => ?_)
  · replace h := Eq.mp (if_pos hq_5) h
    refine f_aload_n C (j := 0) dX12_write_24 rfl rfl rfl ?_
    refine f_getc C tF_X12_20 rfl o101 cs101_6 (by decide) dX12_write_25 rfl ?_
    refine f_bipush C (v := 60) dX12_write_28 kb60 rfl ?_
    refine f_iload_n C (j := 1) dX12_write_30 rfl rfl rfl ?_
    refine f_imul C dX12_write_31 rfl ?_
    refine f_iload_n C (j := 2) dX12_write_32 rfl rfl rfl ?_
    refine f_iadd C dX12_write_33 rfl ?_
    refine f_aload_n C (j := 0) dX12_write_34 rfl rfl rfl ?_
    refine f_getc C tF_X12_13 rfl o101 cs101_4 (by decide) dX12_write_35 rfl ?_
    refine f_iload_n C (j := 1) dX12_write_38 rfl rfl rfl ?_
    obtain ⟨hi_6, h⟩ := h
    refine f_iald C (j := tn x1) a102 hi_6 rfl dX12_write_39 rfl ?_
    refine f_lload_n C (j := 3) dX12_write_40 rfl rfl rfl ?_
    refine f_callSl C (As := fun B => [.int (gi σ_3 102 (tn x1)), .long x3]) (c_X12_cut  _ _ _ _ h) tM_X12_101 tT_X12_cut tN_X12 tC_X12_cut 2 dd_X12_cut rfl (by decide) (by decide) rfl (Nat.le_of_ble_eq_true rfl) dX12_write_41 rfl (fun r_8 σ_7 h => ?_)
    obtain ⟨hi_9, h⟩ := h
    refine f_last C (j := tn ((60 * x1) + x2)) a104 hi_9 rfl dX12_write_44 rfl ?_
    refine f_iconst C (v := 1) dX12_write_45 kc1 rfl ?_
    exact f_zret C (Or.inr rfl) dX12_write_46 h
  · replace h := Eq.mp (if_neg hq_5) h
    refine f_iconst C (v := 0) dX12_write_22 kc0 rfl ?_
    exact f_zret C (Or.inl rfl) dX12_write_23 h
theorem c_X12_write (x1 : Int32) (x2 : Int32) (x3 : Int64) (σ : Sto) (P : Int32 → Sto → Prop) (h : w_X12_write x1 x2 x3 σ P) : Ct yX12_write cX12_write 5 (some .boolean) 2 44 (fun B => [.ref (B + 101), .int x1, .int x2, .long x3]) σ (QFi P) := Ct.of (by decide) (fun _ => Nat.le_of_ble_eq_true rfl) (fun B E C => s_X12_write C x1 x2 x3 σ h)
def w_X12_read (x1 : Int32) (x2 : Int32) (σ : Sto) (P : Int64 → Sto → Prop) : Prop :=
  w_X12_placed x1 x2 (si σ 101 1 0) (fun r_2 σ_1 => ∀ σ_3 : Sto, σ_3 = si σ_1 101 0 r_2 → (if (gi σ_3 101 0) ≤ 0 then vp_in ((60 * x1) + x2) 240 ∧ P (gl σ_3 104 (tn ((60 * x1) + x2))) σ_3 else P (-1) σ_3))
theorem s_X12_read {B : Nat} {E : Nat → List (Nat × Value) → List Value → Sto → Prop} {P : Int64 → Sto → Prop} (C : Cy B E RX12 cX12_read 3 (some .long) 2 44 (Zm (QFl P))) (x1 : Int32) (x2 : Int32) (σ : Sto) (h : w_X12_read x1 x2 σ P) : E 0 [(0, .ref (B + 101)), (1, .int x1), (2, .int x2)] [] σ := by
  unfold w_X12_read at h
  refine f_aload_n C (j := 0) dX12_read_0 rfl rfl rfl ?_
  refine f_iconst C (v := 0) dX12_read_1 kc0 rfl ?_
  refine f_puti C tF_X12_74 fm_12_1 rfl o101 dX12_read_2 rfl ?_
  refine f_aload_n C (j := 0) dX12_read_5 rfl rfl rfl ?_
  refine f_aload_n C (j := 0) dX12_read_6 rfl rfl rfl ?_
  refine f_iload_n C (j := 1) dX12_read_7 rfl rfl rfl ?_
  refine f_iload_n C (j := 2) dX12_read_8 rfl rfl rfl ?_
  refine f_callVi C (a := 101) (ci := 12) (As := fun B => [.int x1, .int x2]) o101 rfl (c_X12_placed  _ _ _ _ h) tM_X12_97 tI_X12_placed tS_X12_placed tN_X12 tC_X12_placed 2 dd_X12_placed rfl (by decide) (by decide) rfl (Nat.le_of_ble_eq_true rfl) dX12_read_9 rfl (fun r_2 σ_1 h => ?_)
  refine f_puti C tF_X12_77 fm_12_0 rfl o101 dX12_read_12 rfl ?_
  refine f_aload_n C (j := 0) dX12_read_15 rfl rfl rfl ?_
  refine f_names (fun σ_3 hσ_4 => ?_)
  replace h := h σ_3 hσ_4
  refine f_geti C tF_X12_77 rfl o101 dX12_read_16 rfl ?_
  refine f_if_le C (t := 28) dX12_read_19 (by decide) rfl (fun hq_5 => ?_) (fun hq_5 => ?_)
  · replace h := Eq.mp (if_pos hq_5) h
    refine f_aload_n C (j := 0) dX12_read_28 rfl rfl rfl ?_
    refine f_getc C tF_X12_20 rfl o101 cs101_6 (by decide) dX12_read_29 rfl ?_
    refine f_bipush C (v := 60) dX12_read_32 kb60 rfl ?_
    refine f_iload_n C (j := 1) dX12_read_34 rfl rfl rfl ?_
    refine f_imul C dX12_read_35 rfl ?_
    refine f_iload_n C (j := 2) dX12_read_36 rfl rfl rfl ?_
    refine f_iadd C dX12_read_37 rfl ?_
    obtain ⟨hi_6, h⟩ := h
    refine f_lald C (j := tn ((60 * x1) + x2)) a104 hi_6 rfl dX12_read_38 rfl ?_
    exact f_lret C dX12_read_39 h
  · replace h := Eq.mp (if_neg hq_5) h
    refine f_ldc2_w C tL_X12_105 dX12_read_22 rfl ?_
    refine f_goto C (t := 39) dX12_read_25 (by decide) ?_
    exact f_lret C dX12_read_39 h
theorem c_X12_read (x1 : Int32) (x2 : Int32) (σ : Sto) (P : Int64 → Sto → Prop) (h : w_X12_read x1 x2 σ P) : Ct yX12_read cX12_read 3 (some .long) 2 44 (fun B => [.ref (B + 101), .int x1, .int x2]) σ (QFl P) := Ct.of (by decide) (fun _ => Nat.le_of_ble_eq_true rfl) (fun B E C => s_X12_read C x1 x2 σ h)
def w_X12_pour_28 (σ : Sto) (P : Int32 → Sto → Prop) : Prop :=
  w_X12_no 1 σ (fun r_3 σ_2 => (r_3 = 0 ∨ r_3 = 1) ∧ P r_3 σ_2)
theorem s_X12_pour_28 {B : Nat} {E : Nat → List (Nat × Value) → List Value → Sto → Prop} {P : Int32 → Sto → Prop} (C : Cy B E RX12 cX12_pour 9 (some .boolean) 1 21 (Zm (QFi P))) (σ : Sto) (h : w_X12_pour_28 σ P) : E 28 [(0, .ref (B + 101))] [] σ := by
  unfold w_X12_pour_28 at h
  refine f_aload_n C (j := 0) dX12_pour_28 rfl rfl rfl ?_
  refine f_iconst C (v := 1) dX12_pour_29 kc1 rfl ?_
  refine f_callVi C (a := 101) (ci := 12) (As := fun B => [.int 1]) o101 rfl (c_X12_no  _ _ _ h) tM_X12_89 tI_X12_no tS_X12_no tN_X12 tC_X12_no 1 dd_X12_no rfl (by decide) (by decide) rfl (Nat.le_of_ble_eq_true rfl) dX12_pour_30 rfl (fun r_3 σ_2 h => ?_)
  obtain ⟨hb_4, h⟩ := h
  exact f_zret C hb_4 dX12_pour_33 h
def w_X12_pour_52 (σ : Sto) (P : Int32 → Sto → Prop) : Prop :=
  w_X12_no 3 σ (fun r_13 σ_12 => (r_13 = 0 ∨ r_13 = 1) ∧ P r_13 σ_12)
theorem s_X12_pour_52 {B : Nat} {E : Nat → List (Nat × Value) → List Value → Sto → Prop} {P : Int32 → Sto → Prop} (C : Cy B E RX12 cX12_pour 9 (some .boolean) 1 21 (Zm (QFi P))) (σ : Sto) (h : w_X12_pour_52 σ P) : E 52 [(0, .ref (B + 101))] [] σ := by
  unfold w_X12_pour_52 at h
  refine f_aload_n C (j := 0) dX12_pour_52 rfl rfl rfl ?_
  refine f_iconst C (v := 3) dX12_pour_53 kc3 rfl ?_
  refine f_callVi C (a := 101) (ci := 12) (As := fun B => [.int 3]) o101 rfl (c_X12_no  _ _ _ h) tM_X12_89 tI_X12_no tS_X12_no tN_X12 tC_X12_no 1 dd_X12_no rfl (by decide) (by decide) rfl (Nat.le_of_ble_eq_true rfl) dX12_pour_54 rfl (fun r_13 σ_12 h => ?_)
  obtain ⟨hb_14, h⟩ := h
  exact f_zret C hb_14 dX12_pour_57 h
def w_X12_pour_136 (σ : Sto) (P : Int32 → Sto → Prop) : Prop :=
  w_X12_no 4 σ (fun r_21 σ_20 => (r_21 = 0 ∨ r_21 = 1) ∧ P r_21 σ_20)
theorem s_X12_pour_136 {B : Nat} {E : Nat → List (Nat × Value) → List Value → Sto → Prop} {P : Int32 → Sto → Prop} (C : Cy B E RX12 cX12_pour 9 (some .boolean) 1 21 (Zm (QFi P))) (σ : Sto) (h : w_X12_pour_136 σ P) : E 136 [(0, .ref (B + 101))] [] σ := by
  unfold w_X12_pour_136 at h
  refine f_aload_n C (j := 0) dX12_pour_136 rfl rfl rfl ?_
  refine f_iconst C (v := 4) dX12_pour_137 kc4 rfl ?_
  refine f_callVi C (a := 101) (ci := 12) (As := fun B => [.int 4]) o101 rfl (c_X12_no  _ _ _ h) tM_X12_89 tI_X12_no tS_X12_no tN_X12 tC_X12_no 1 dd_X12_no rfl (by decide) (by decide) rfl (Nat.le_of_ble_eq_true rfl) dX12_pour_138 rfl (fun r_21 σ_20 h => ?_)
  obtain ⟨hb_22, h⟩ := h
  exact f_zret C hb_22 dX12_pour_141 h
def w_X12_pour_182 (K158 : Int32 × Sto → Prop) (x1 : Int32) (x2 : Int32) (x3 : Int32) (x4 : Int32) (x5 : Int32) (x6 : Int32) (x7 : Int32) (z0 : Int32) (σ : Sto) (P : Int32 → Sto → Prop) : Prop :=
  vp_in (((60 * x1) + x2) + z0) 240 ∧ vp_in (((60 * x3) + x4) + z0) 240 ∧ ∀ x7_31 : Int32, x7_31 = x7 + 1 → K158 (x7_31, sl σ 104 (tn (((60 * x3) + x4) + z0)) (gl σ 104 (tn (((60 * x1) + x2) + z0))))
theorem s_X12_pour_182 {B : Nat} {E : Nat → List (Nat × Value) → List Value → Sto → Prop} {P : Int32 → Sto → Prop} (C : Cy B E RX12 cX12_pour 9 (some .boolean) 1 21 (Zm (QFi P))) (x1 : Int32) (x2 : Int32) (x3 : Int32) (x4 : Int32) (x5 : Int32) (x6 : Int32) (x7 : Int32) (z0 : Int32) (K158 : Int32 × Sto → Prop) (hK158 : ∀ (x7 : Int32) (σ : Sto), K158 (x7, σ) → E 158 [(0, .ref (B + 101)), (1, .int x1), (2, .int x2), (3, .int x3), (4, .int x4), (5, .int x5), (6, .int x6), (7, .int x7)] [] σ) (σ : Sto) (h : w_X12_pour_182 K158 x1 x2 x3 x4 x5 x6 x7 z0 σ P) : E 182 [(0, .ref (B + 101)), (1, .int x1), (2, .int x2), (3, .int x3), (4, .int x4), (5, .int x5), (6, .int x6), (7, .int x7)] [.int z0] σ := by
  unfold w_X12_pour_182 at h
  refine f_istore C (lv2 := [(8, .int z0), (0, .ref (B + 101)), (1, .int x1), (2, .int x2), (3, .int x3), (4, .int x4), (5, .int x5), (6, .int x6), (7, .int x7)]) dX12_pour_182 (by decide) rfl rfl ?_
  refine f_aload_n C (j := 1) dX12_pour_184 rfl rfl rfl ?_
  refine f_getc C tF_X12_20 rfl o101 cs101_6 (by decide) dX12_pour_185 rfl ?_
  refine f_bipush C (v := 60) dX12_pour_188 kb60 rfl ?_
  refine f_iload_n C (j := 4) dX12_pour_190 rfl rfl rfl ?_
  refine f_imul C dX12_pour_191 rfl ?_
  refine f_iload C (j := 5) dX12_pour_192 rfl rfl ?_
  refine f_iadd C dX12_pour_194 rfl ?_
  refine f_iload C (j := 0) dX12_pour_195 rfl rfl ?_
  refine f_iadd C dX12_pour_197 rfl ?_
  refine f_aload_n C (j := 1) dX12_pour_198 rfl rfl rfl ?_
  refine f_getc C tF_X12_20 rfl o101 cs101_6 (by decide) dX12_pour_199 rfl ?_
  refine f_bipush C (v := 60) dX12_pour_202 kb60 rfl ?_
  refine f_iload_n C (j := 2) dX12_pour_204 rfl rfl rfl ?_
  refine f_imul C dX12_pour_205 rfl ?_
  refine f_iload_n C (j := 3) dX12_pour_206 rfl rfl rfl ?_
  refine f_iadd C dX12_pour_207 rfl ?_
  refine f_iload C (j := 0) dX12_pour_208 rfl rfl ?_
  refine f_iadd C dX12_pour_210 rfl ?_
  obtain ⟨hi_29, h⟩ := h
  refine f_lald C (j := tn (((60 * x1) + x2) + z0)) a104 hi_29 rfl dX12_pour_211 rfl ?_
  obtain ⟨hi_30, h⟩ := h
  refine f_last C (j := tn (((60 * x3) + x4) + z0)) a104 hi_30 rfl dX12_pour_212 rfl ?_
  obtain ⟨x7_31, hx_32⟩ : ∃ y : Int32, y = x7 + 1 := ⟨_, rfl⟩
  replace h := h x7_31 hx_32
  refine f_iinc C (j := 8) (v := x7_31) (lv2 := [(7, .int x7_31), (8, .int z0), (0, .ref (B + 101)), (1, .int x1), (2, .int x2), (3, .int x3), (4, .int x4), (5, .int x5), (6, .int x6)]) dX12_pour_213 rfl hx_32.symm (by decide) rfl rfl ?_
  refine f_goto C (t := 158) dX12_pour_216 (by decide) ?_
  refine f_lv C (lv2 := [(0, .ref (B + 101)), (1, .int x1), (2, .int x2), (3, .int x3), (4, .int x4), (5, .int x5), (6, .int x6), (7, .int x7_31)]) [2, 3, 4, 5, 6, 7, 8, 0] rfl ?_
  exact hK158 _ _ h
def w_X12_pour_158 (K158 : Int32 × Sto → Prop) (x1 : Int32) (x2 : Int32) (x3 : Int32) (x4 : Int32) (x5 : Int32) (x6 : Int32) (x7 : Int32) (σ : Sto) (P : Int32 → Sto → Prop) : Prop :=
  (if x5 ≤ x7 then P 1 σ else (if x6 = 0 then w_X12_pour_182 K158 x1 x2 x3 x4 x5 x6 x7 x7 σ P else w_X12_pour_182 K158 x1 x2 x3 x4 x5 x6 x7 ((x5 - 1) - x7) σ P))
theorem s_X12_pour_158 {B : Nat} {E : Nat → List (Nat × Value) → List Value → Sto → Prop} {P : Int32 → Sto → Prop} (C : Cy B E RX12 cX12_pour 9 (some .boolean) 1 21 (Zm (QFi P))) (x1 : Int32) (x2 : Int32) (x3 : Int32) (x4 : Int32) (x5 : Int32) (x6 : Int32) (x7 : Int32) (K158 : Int32 × Sto → Prop) (hK158 : ∀ (x7 : Int32) (σ : Sto), K158 (x7, σ) → E 158 [(0, .ref (B + 101)), (1, .int x1), (2, .int x2), (3, .int x3), (4, .int x4), (5, .int x5), (6, .int x6), (7, .int x7)] [] σ) (σ : Sto) (h : w_X12_pour_158 K158 x1 x2 x3 x4 x5 x6 x7 σ P) : E 158 [(0, .ref (B + 101)), (1, .int x1), (2, .int x2), (3, .int x3), (4, .int x4), (5, .int x5), (6, .int x6), (7, .int x7)] [] σ := by
  unfold w_X12_pour_158 at h
  refine f_iload C (j := 7) dX12_pour_158 rfl rfl ?_
  refine f_iload C (j := 5) dX12_pour_160 rfl rfl ?_
  refine f_icmp_ge C (t := 219) dX12_pour_162 (by decide) rfl (fun hq_27 => ?_) (fun hq_27 => ?_)
  · replace h := Eq.mp (if_pos hq_27) h
    refine f_iconst C (v := 1) dX12_pour_219 kc1 rfl ?_
    exact f_zret C (Or.inr rfl) dX12_pour_220 h
  · replace h := Eq.mp (if_neg hq_27) h
    refine f_iload C (j := 6) dX12_pour_165 rfl rfl ?_
    refine f_if_eq C (t := 180) dX12_pour_167 (by decide) rfl (fun hq_28 => ?_) (fun hq_28 => ?_)
    · replace h := Eq.mp (if_pos hq_28) h
      refine f_iload C (j := 7) dX12_pour_180 rfl rfl ?_
      exact s_X12_pour_182 C _ _ _ _ _ _ _ _  K158 hK158 _ h
    · replace h := Eq.mp (if_neg hq_28) h
      refine f_iload C (j := 5) dX12_pour_170 rfl rfl ?_
      refine f_iconst C (v := 1) dX12_pour_172 kc1 rfl ?_
      refine f_isub C dX12_pour_173 rfl ?_
      refine f_iload C (j := 7) dX12_pour_174 rfl rfl ?_
      refine f_isub C dX12_pour_176 rfl ?_
      refine f_goto C (t := 182) dX12_pour_177 (by decide) ?_
      exact s_X12_pour_182 C _ _ _ _ _ _ _ _  K158 hK158 _ h
def w_X12_pour (x1 : Int32) (x2 : Int32) (x3 : Int32) (x4 : Int32) (x5 : Int32) (σ : Sto) (P : Int32 → Sto → Prop) : Prop :=
  (if x1 < 0 then w_X12_pour_28 (si (si σ 101 1 0) 101 0 0) P else (if 4 ≤ x1 then w_X12_pour_28 (si (si σ 101 1 0) 101 0 0) P else (if x3 < 0 then w_X12_pour_28 (si (si σ 101 1 0) 101 0 0) P else (if x3 < 4 then vp_in x1 4 ∧ ∀ σ_9 : Sto, σ_9 = si (si σ 101 1 0) 101 0 0 → (if (gi σ_9 103 (tn x1)) < 0 then w_X12_pour_52 σ_9 P else vp_in x3 4 ∧ (if 0 ≤ (gi σ_9 103 (tn x3)) then (if (gi σ_9 102 (tn x1)) = (gi σ_9 102 (tn x3)) then (if 0 ≤ x5 then (if x2 < 0 then w_X12_pour_136 σ_9 P else (if x4 < 0 then w_X12_pour_136 σ_9 P else (if 0 < (lg_cmp (x2.toInt64 + x5.toInt64) ((gi σ_9 103 (tn x1)).toInt64)) then w_X12_pour_136 σ_9 P else (if (lg_cmp (x4.toInt64 + x5.toInt64) ((gi σ_9 103 (tn x3)).toInt64)) ≤ 0 then (if x4 ≤ x2 then Lp (fun (K : Int32 × Sto → Prop) s => w_X12_pour_158 K x1 x2 x3 x4 x5 0 s.1 s.2 P) (0, σ_9) else Lp (fun (K : Int32 × Sto → Prop) s => w_X12_pour_158 K x1 x2 x3 x4 x5 1 s.1 s.2 P) (0, σ_9)) else w_X12_pour_136 σ_9 P)))) else w_X12_no 6 σ_9 (fun r_34 σ_33 => (r_34 = 0 ∨ r_34 = 1) ∧ P r_34 σ_33)) else w_X12_no 11 σ_9 (fun r_37 σ_36 => (r_37 = 0 ∨ r_37 = 1) ∧ P r_37 σ_36)) else w_X12_pour_52 σ_9 P)) else w_X12_pour_28 (si (si σ 101 1 0) 101 0 0) P))))
theorem s_X12_pour {B : Nat} {E : Nat → List (Nat × Value) → List Value → Sto → Prop} {P : Int32 → Sto → Prop} (C : Cy B E RX12 cX12_pour 9 (some .boolean) 1 21 (Zm (QFi P))) (x1 : Int32) (x2 : Int32) (x3 : Int32) (x4 : Int32) (x5 : Int32) (σ : Sto) (h : w_X12_pour x1 x2 x3 x4 x5 σ P) : E 0 [(0, .ref (B + 101)), (1, .int x1), (2, .int x2), (3, .int x3), (4, .int x4), (5, .int x5)] [] σ := by
  unfold w_X12_pour at h
  refine f_aload_n C (j := 0) dX12_pour_0 rfl rfl rfl ?_
  refine f_iconst C (v := 0) dX12_pour_1 kc0 rfl ?_
  refine f_puti C tF_X12_74 fm_12_1 rfl o101 dX12_pour_2 rfl ?_
  refine f_aload_n C (j := 0) dX12_pour_5 rfl rfl rfl ?_
  refine f_iconst C (v := 0) dX12_pour_6 kc0 rfl ?_
  refine f_puti C tF_X12_77 fm_12_0 rfl o101 dX12_pour_7 rfl ?_
  refine f_iload_n C (j := 1) dX12_pour_10 rfl rfl rfl ?_
  refine f_if_lt C (t := 28) dX12_pour_11 (by decide) rfl (fun hq_1 => ?_) (fun hq_1 => ?_)
  · replace h := Eq.mp (if_pos hq_1) h
    refine f_lv C (lv2 := [(0, .ref (B + 101))]) [0] rfl ?_
    exact s_X12_pour_28 C  _ h
  · replace h := Eq.mp (if_neg hq_1) h
    refine f_iload_n C (j := 1) dX12_pour_14 rfl rfl rfl ?_
    refine f_iconst C (v := 4) dX12_pour_15 kc4 rfl ?_
    refine f_icmp_ge C (t := 28) dX12_pour_16 (by decide) rfl (fun hq_5 => ?_) (fun hq_5 => ?_)
    · replace h := Eq.mp (if_pos hq_5) h
      refine f_lv C (lv2 := [(0, .ref (B + 101))]) [0] rfl ?_
      exact s_X12_pour_28 C  _ h
    · replace h := Eq.mp (if_neg hq_5) h
      refine f_iload_n C (j := 3) dX12_pour_19 rfl rfl rfl ?_
      refine f_if_lt C (t := 28) dX12_pour_20 (by decide) rfl (fun hq_6 => ?_) (fun hq_6 => ?_)
      · replace h := Eq.mp (if_pos hq_6) h
        refine f_lv C (lv2 := [(0, .ref (B + 101))]) [0] rfl ?_
        exact s_X12_pour_28 C  _ h
      · replace h := Eq.mp (if_neg hq_6) h
        refine f_iload_n C (j := 3) dX12_pour_23 rfl rfl rfl ?_
        refine f_iconst C (v := 4) dX12_pour_24 kc4 rfl ?_
        refine f_icmp_lt C (t := 34) dX12_pour_25 (by decide) rfl (fun hq_7 => ?_) (fun hq_7 => ?_)
        · replace h := Eq.mp (if_pos hq_7) h
          refine f_aload_n C (j := 0) dX12_pour_34 rfl rfl rfl ?_
          refine f_getc C tF_X12_17 rfl o101 cs101_5 (by decide) dX12_pour_35 rfl ?_
          refine f_iload_n C (j := 1) dX12_pour_38 rfl rfl rfl ?_
          obtain ⟨hi_8, h⟩ := h
          refine f_names (fun σ_9 hσ_10 => ?_)
          replace h := h σ_9 hσ_10
          refine f_iald C (j := tn x1) a103 hi_8 rfl dX12_pour_39 rfl ?_
          refine f_if_lt C (t := 52) dX12_pour_40 (by decide) rfl (fun hq_11 => ?_) (fun hq_11 => ?_)
          · replace h := Eq.mp (if_pos hq_11) h
            refine f_lv C (lv2 := [(0, .ref (B + 101))]) [0] rfl ?_
            exact s_X12_pour_52 C  _ h
          · replace h := Eq.mp (if_neg hq_11) h
            refine f_aload_n C (j := 0) dX12_pour_43 rfl rfl rfl ?_
            refine f_getc C tF_X12_17 rfl o101 cs101_5 (by decide) dX12_pour_44 rfl ?_
            refine f_iload_n C (j := 3) dX12_pour_47 rfl rfl rfl ?_
            obtain ⟨hi_15, h⟩ := h
            refine f_iald C (j := tn x3) a103 hi_15 rfl dX12_pour_48 rfl ?_
            refine f_if_ge C (t := 58) dX12_pour_49 (by decide) rfl (fun hq_16 => ?_) (fun hq_16 => ?_)
            · replace h := Eq.mp (if_pos hq_16) h
              refine f_aload_n C (j := 0) dX12_pour_58 rfl rfl rfl ?_
              refine f_getc C tF_X12_13 rfl o101 cs101_4 (by decide) dX12_pour_59 rfl ?_
              refine f_iload_n C (j := 1) dX12_pour_62 rfl rfl rfl ?_
              refine f_iald C (j := tn x1) a102 hi_8 rfl dX12_pour_63 rfl ?_
              refine f_aload_n C (j := 0) dX12_pour_64 rfl rfl rfl ?_
              refine f_getc C tF_X12_13 rfl o101 cs101_4 (by decide) dX12_pour_65 rfl ?_
              refine f_iload_n C (j := 3) dX12_pour_68 rfl rfl rfl ?_
              refine f_iald C (j := tn x3) a102 hi_15 rfl dX12_pour_69 rfl ?_
              refine f_icmp_eq C (t := 80) dX12_pour_70 (by decide) rfl (fun hq_17 => ?_) (fun hq_17 => ?_)
              · replace h := Eq.mp (if_pos hq_17) h
                refine f_iload C (j := 5) dX12_pour_80 rfl rfl ?_
                refine f_if_ge C (t := 92) dX12_pour_82 (by decide) rfl (fun hq_18 => ?_) (fun hq_18 => ?_)
                · replace h := Eq.mp (if_pos hq_18) h
                  refine f_iload_n C (j := 2) dX12_pour_92 rfl rfl rfl ?_
                  refine f_if_lt C (t := 136) dX12_pour_93 (by decide) rfl (fun hq_19 => ?_) (fun hq_19 => ?_)
                  · replace h := Eq.mp (if_pos hq_19) h
                    refine f_lv C (lv2 := [(0, .ref (B + 101))]) [0] rfl ?_
                    exact s_X12_pour_136 C  _ h
                  · replace h := Eq.mp (if_neg hq_19) h
                    refine f_iload C (j := 4) dX12_pour_96 rfl rfl ?_
                    refine f_if_lt C (t := 136) dX12_pour_98 (by decide) rfl (fun hq_23 => ?_) (fun hq_23 => ?_)
                    · replace h := Eq.mp (if_pos hq_23) h
                      refine f_lv C (lv2 := [(0, .ref (B + 101))]) [0] rfl ?_
                      exact s_X12_pour_136 C  _ h
                    · replace h := Eq.mp (if_neg hq_23) h
                      refine f_iload_n C (j := 2) dX12_pour_101 rfl rfl rfl ?_
                      refine f_i2l C dX12_pour_102 rfl ?_
                      refine f_iload C (j := 5) dX12_pour_103 rfl rfl ?_
                      refine f_i2l C dX12_pour_105 rfl ?_
                      refine f_ladd C dX12_pour_106 rfl ?_
                      refine f_aload_n C (j := 0) dX12_pour_107 rfl rfl rfl ?_
                      refine f_getc C tF_X12_17 rfl o101 cs101_5 (by decide) dX12_pour_108 rfl ?_
                      refine f_iload_n C (j := 1) dX12_pour_111 rfl rfl rfl ?_
                      refine f_iald C (j := tn x1) a103 hi_8 rfl dX12_pour_112 rfl ?_
                      refine f_i2l C dX12_pour_113 rfl ?_
                      refine f_lcmp C dX12_pour_114 rfl ?_
                      refine f_if_gt C (t := 136) dX12_pour_115 (by decide) rfl (fun hq_24 => ?_) (fun hq_24 => ?_)
                      · replace h := Eq.mp (if_pos hq_24) h
                        refine f_lv C (lv2 := [(0, .ref (B + 101))]) [0] rfl ?_
                        exact s_X12_pour_136 C  _ h
                      · replace h := Eq.mp (if_neg hq_24) h
                        refine f_iload C (j := 4) dX12_pour_118 rfl rfl ?_
                        refine f_i2l C dX12_pour_120 rfl ?_
                        refine f_iload C (j := 5) dX12_pour_121 rfl rfl ?_
                        refine f_i2l C dX12_pour_123 rfl ?_
                        refine f_ladd C dX12_pour_124 rfl ?_
                        refine f_aload_n C (j := 0) dX12_pour_125 rfl rfl rfl ?_
                        refine f_getc C tF_X12_17 rfl o101 cs101_5 (by decide) dX12_pour_126 rfl ?_
                        refine f_iload_n C (j := 3) dX12_pour_129 rfl rfl rfl ?_
                        refine f_iald C (j := tn x3) a103 hi_15 rfl dX12_pour_130 rfl ?_
                        refine f_i2l C dX12_pour_131 rfl ?_
                        refine f_lcmp C dX12_pour_132 rfl ?_
                        refine f_if_le C (t := 142) dX12_pour_133 (by decide) rfl (fun hq_25 => ?_) (fun hq_25 => ?_)
                        · replace h := Eq.mp (if_pos hq_25) h
                          refine f_iload_n C (j := 2) dX12_pour_142 rfl rfl rfl ?_
                          refine f_iload C (j := 4) dX12_pour_143 rfl rfl ?_
                          refine f_icmp_ge C (t := 152) dX12_pour_145 (by decide) rfl (fun hq_26 => ?_) (fun hq_26 => ?_)
                          · replace h := Eq.mp (if_pos hq_26) h
                            refine f_iconst C (v := 0) dX12_pour_152 kc0 rfl ?_
                            refine f_istore C (lv2 := [(6, .int 0), (0, .ref (B + 101)), (1, .int x1), (2, .int x2), (3, .int x3), (4, .int x4), (5, .int x5)]) dX12_pour_153 (by decide) rfl rfl ?_
                            refine f_iconst C (v := 0) dX12_pour_155 kc0 rfl ?_
                            refine f_istore C (lv2 := [(7, .int 0), (6, .int 0), (0, .ref (B + 101)), (1, .int x1), (2, .int x2), (3, .int x3), (4, .int x4), (5, .int x5)]) dX12_pour_156 (by decide) rfl rfl ?_
                            refine f_lv C (lv2 := [(0, .ref (B + 101)), (1, .int x1), (2, .int x2), (3, .int x3), (4, .int x4), (5, .int x5), (6, .int 0), (7, .int 0)]) [2, 3, 4, 5, 6, 7, 1, 0] rfl ?_
                            exact Lp_sound (fun s : Int32 × Sto => E 158 [(0, .ref (B + 101)), (1, .int x1), (2, .int x2), (3, .int x3), (4, .int x4), (5, .int x5), (6, .int 0), (7, .int s.1)] [] s.2) h (fun K s hK h => s_X12_pour_158 C x1 x2 x3 x4 x5 0 s.1 K (fun x7 σ hk => hK (x7, σ) hk) s.2 h)
                          · replace h := Eq.mp (if_neg hq_26) h
                            refine f_iconst C (v := 1) dX12_pour_148 kc1 rfl ?_
                            refine f_goto C (t := 153) dX12_pour_149 (by decide) ?_
                            refine f_istore C (lv2 := [(6, .int 1), (0, .ref (B + 101)), (1, .int x1), (2, .int x2), (3, .int x3), (4, .int x4), (5, .int x5)]) dX12_pour_153 (by decide) rfl rfl ?_
                            refine f_iconst C (v := 0) dX12_pour_155 kc0 rfl ?_
                            refine f_istore C (lv2 := [(7, .int 0), (6, .int 1), (0, .ref (B + 101)), (1, .int x1), (2, .int x2), (3, .int x3), (4, .int x4), (5, .int x5)]) dX12_pour_156 (by decide) rfl rfl ?_
                            refine f_lv C (lv2 := [(0, .ref (B + 101)), (1, .int x1), (2, .int x2), (3, .int x3), (4, .int x4), (5, .int x5), (6, .int 1), (7, .int 0)]) [2, 3, 4, 5, 6, 7, 1, 0] rfl ?_
                            exact Lp_sound (fun s : Int32 × Sto => E 158 [(0, .ref (B + 101)), (1, .int x1), (2, .int x2), (3, .int x3), (4, .int x4), (5, .int x5), (6, .int 1), (7, .int s.1)] [] s.2) h (fun K s hK h => s_X12_pour_158 C x1 x2 x3 x4 x5 1 s.1 K (fun x7 σ hk => hK (x7, σ) hk) s.2 h)
                        · replace h := Eq.mp (if_neg hq_25) h
                          refine f_lv C (lv2 := [(0, .ref (B + 101))]) [0] rfl ?_
                          exact s_X12_pour_136 C  _ h
                · replace h := Eq.mp (if_neg hq_18) h
                  refine f_aload_n C (j := 0) dX12_pour_85 rfl rfl rfl ?_
                  refine f_bipush C (v := 6) dX12_pour_86 kb6 rfl ?_
                  refine f_callVi C (a := 101) (ci := 12) (As := fun B => [.int 6]) o101 rfl (c_X12_no  _ _ _ h) tM_X12_89 tI_X12_no tS_X12_no tN_X12 tC_X12_no 1 dd_X12_no rfl (by decide) (by decide) rfl (Nat.le_of_ble_eq_true rfl) dX12_pour_88 rfl (fun r_34 σ_33 h => ?_)
                  obtain ⟨hb_35, h⟩ := h
                  exact f_zret C hb_35 dX12_pour_91 h
              · replace h := Eq.mp (if_neg hq_17) h
                refine f_aload_n C (j := 0) dX12_pour_73 rfl rfl rfl ?_
                refine f_bipush C (v := 11) dX12_pour_74 kb11 rfl ?_
                refine f_callVi C (a := 101) (ci := 12) (As := fun B => [.int 11]) o101 rfl (c_X12_no  _ _ _ h) tM_X12_89 tI_X12_no tS_X12_no tN_X12 tC_X12_no 1 dd_X12_no rfl (by decide) (by decide) rfl (Nat.le_of_ble_eq_true rfl) dX12_pour_76 rfl (fun r_37 σ_36 h => ?_)
                obtain ⟨hb_38, h⟩ := h
                exact f_zret C hb_38 dX12_pour_79 h
            · replace h := Eq.mp (if_neg hq_16) h
              refine f_lv C (lv2 := [(0, .ref (B + 101))]) [0] rfl ?_
              exact s_X12_pour_52 C  _ h
        · replace h := Eq.mp (if_neg hq_7) h
          refine f_lv C (lv2 := [(0, .ref (B + 101))]) [0] rfl ?_
          exact s_X12_pour_28 C  _ h
theorem c_X12_pour (x1 : Int32) (x2 : Int32) (x3 : Int32) (x4 : Int32) (x5 : Int32) (σ : Sto) (P : Int32 → Sto → Prop) (h : w_X12_pour x1 x2 x3 x4 x5 σ P) : Ct yX12_pour cX12_pour 9 (some .boolean) 1 21 (fun B => [.ref (B + 101), .int x1, .int x2, .int x3, .int x4, .int x5]) σ (QFi P) := Ct.of (by decide) (fun _ => Nat.le_of_ble_eq_true rfl) (fun B E C => s_X12_pour C x1 x2 x3 x4 x5 σ h)
def w_X12_isTray (x1 : Int32) (σ : Sto) (P : Int32 → Sto → Prop) : Prop :=
  w_X12_isIn x1.toInt64 0 3 σ (fun r_2 σ_1 => (r_2 = 0 ∨ r_2 = 1) ∧ P r_2 σ_1)
theorem s_X12_isTray {B : Nat} {E : Nat → List (Nat × Value) → List Value → Sto → Prop} {P : Int32 → Sto → Prop} (C : Cy B E RX12 cX12_isTray 2 (some .boolean) 1 25 (Zm (QFi P))) (x1 : Int32) (σ : Sto) (h : w_X12_isTray x1 σ P) : E 0 [(0, .ref (B + 101)), (1, .int x1)] [] σ := by
  unfold w_X12_isTray at h
  refine f_iload_n C (j := 1) dX12_isTray_0 rfl rfl rfl ?_
  refine f_i2l C dX12_isTray_1 rfl ?_
  refine f_lconst C (v := 0) dX12_isTray_2 (by decide) rfl ?_
  refine f_ldc2_w C tL_X12_107 dX12_isTray_3 rfl ?_
  refine f_callSi C (As := fun B => [.long x1.toInt64, .long 0, .long 3]) (c_X12_isIn  _ _ _ _ _ h) tM_X12_109 tT_X12_isIn tN_X12 tC_X12_isIn 3 dd_X12_isIn rfl (by decide) (by decide) rfl (Nat.le_of_ble_eq_true rfl) dX12_isTray_6 rfl (fun r_2 σ_1 h => ?_)
  obtain ⟨hb_3, h⟩ := h
  exact f_zret C hb_3 dX12_isTray_9 h
theorem c_X12_isTray (x1 : Int32) (σ : Sto) (P : Int32 → Sto → Prop) (h : w_X12_isTray x1 σ P) : Ct yX12_isTray cX12_isTray 2 (some .boolean) 1 25 (fun B => [.ref (B + 101), .int x1]) σ (QFi P) := Ct.of (by decide) (fun _ => Nat.le_of_ble_eq_true rfl) (fun B E C => s_X12_isTray C x1 σ h)
def w_X12_has (x0 : Int32) (x1 : Int32) (σ : Sto) (P : Int32 → Sto → Prop) : Prop :=
  (if ((x0 >>> (x1 &&& 31)) &&& 1) = 1 then P 1 σ else P 0 σ)
theorem s_X12_has {B : Nat} {E : Nat → List (Nat × Value) → List Value → Sto → Prop} {P : Int32 → Sto → Prop} (C : Cy B E RX12 cX12_has 2 (some .boolean) 0 0 (Zm (QFi P))) (x0 : Int32) (x1 : Int32) (σ : Sto) (h : w_X12_has x0 x1 σ P) : E 0 [(0, .int x0), (1, .int x1)] [] σ := by
  unfold w_X12_has at h
  refine f_iload_n C (j := 0) dX12_has_0 rfl rfl rfl ?_
  refine f_iload_n C (j := 1) dX12_has_1 rfl rfl rfl ?_
  refine f_ishr C dX12_has_2 rfl ?_
  refine f_iconst C (v := 1) dX12_has_3 kc1 rfl ?_
  refine f_iand C dX12_has_4 rfl ?_
  refine f_iconst C (v := 1) dX12_has_5 kc1 rfl ?_
  refine f_icmp_ne C (t := 13) dX12_has_6 (by decide) rfl (fun hq_1 => ?_) (fun hq_1 => ?_)
  · replace h := Eq.mp (if_neg hq_1) h
    refine f_iconst C (v := 0) dX12_has_13 kc0 rfl ?_
    exact f_zret C (Or.inl rfl) dX12_has_14 h
  · replace h := Eq.mp (if_pos hq_1) h
    refine f_iconst C (v := 1) dX12_has_9 kc1 rfl ?_
    refine f_goto C (t := 14) dX12_has_10 (by decide) ?_
    exact f_zret C (Or.inr rfl) dX12_has_14 h
theorem c_X12_has (x0 : Int32) (x1 : Int32) (σ : Sto) (P : Int32 → Sto → Prop) (h : w_X12_has x0 x1 σ P) : Ct yX12_has cX12_has 2 (some .boolean) 0 0 (fun B => [.int x0, .int x1]) σ (QFi P) := Ct.of (by decide) (fun _ => Nat.le_of_ble_eq_true rfl) (fun B E C => s_X12_has C x0 x1 σ h)
def w_X12_sizeOf_4 (K4 : Int32 × Int32 × Sto → Prop) (x0 : Int32) (x1 : Int32) (x2 : Int32) (σ : Sto) (P : Int32 → Sto → Prop) : Prop :=
  (if 16 ≤ x2 then P x1 σ else w_X12_has x0 x2 σ (fun r_3 σ_2 => (if r_3 = 0 then ∀ x1_5 : Int32, x1_5 = x1 + 0 → ∀ x2_7 : Int32, x2_7 = x2 + 1 → K4 (x1_5, x2_7, σ_2) else ∀ x1_9 : Int32, x1_9 = x1 + 1 → ∀ x2_11 : Int32, x2_11 = x2 + 1 → K4 (x1_9, x2_11, σ_2))))
theorem s_X12_sizeOf_4 {B : Nat} {E : Nat → List (Nat × Value) → List Value → Sto → Prop} {P : Int32 → Sto → Prop} (C : Cy B E RX12 cX12_sizeOf 3 (some .int) 1 21 (Zm (QFi P))) (x0 : Int32) (x1 : Int32) (x2 : Int32) (K4 : Int32 × Int32 × Sto → Prop) (hK4 : ∀ (x1 : Int32) (x2 : Int32) (σ : Sto), K4 (x1, x2, σ) → E 4 [(0, .int x0), (1, .int x1), (2, .int x2)] [] σ) (σ : Sto) (h : w_X12_sizeOf_4 K4 x0 x1 x2 σ P) : E 4 [(0, .int x0), (1, .int x1), (2, .int x2)] [] σ := by
  unfold w_X12_sizeOf_4 at h
  refine f_iload_n C (j := 2) dX12_sizeOf_4 rfl rfl rfl ?_
  refine f_bipush C (v := 16) dX12_sizeOf_5 kb16 rfl ?_
  refine f_icmp_ge C (t := 32) dX12_sizeOf_7 (by decide) rfl (fun hq_1 => ?_) (fun hq_1 => ?_)
  · replace h := Eq.mp (if_pos hq_1) h
    refine f_iload_n C (j := 1) dX12_sizeOf_32 rfl rfl rfl ?_
    exact f_iret C dX12_sizeOf_33 h
  · replace h := Eq.mp (if_neg hq_1) h
    refine f_iload_n C (j := 1) dX12_sizeOf_10 rfl rfl rfl ?_
    refine f_iload_n C (j := 0) dX12_sizeOf_11 rfl rfl rfl ?_
    refine f_iload_n C (j := 2) dX12_sizeOf_12 rfl rfl rfl ?_
    refine f_callSi C (As := fun B => [.int x0, .int x2]) (c_X12_has  _ _ _ _ h) tM_X12_113 tT_X12_has tN_X12 tC_X12_has 2 dd_X12_has rfl (by decide) (by decide) rfl (Nat.le_of_ble_eq_true rfl) dX12_sizeOf_13 rfl (fun r_3 σ_2 h => ?_)
    refine f_if_eq C (t := 23) dX12_sizeOf_16 (by decide) rfl (fun hq_4 => ?_) (fun hq_4 => ?_)
    · replace h := Eq.mp (if_pos hq_4) h
      refine f_iconst C (v := 0) dX12_sizeOf_23 kc0 rfl ?_
      refine f_iadd C dX12_sizeOf_24 rfl ?_
      refine f_name (fun x1_5 hx_6 => ?_)
      replace h := h x1_5 hx_6
      refine f_istore_n C (lv2 := [(1, .int x1_5), (0, .int x0), (2, .int x2)]) dX12_sizeOf_25 rfl (by decide) rfl rfl ?_
      obtain ⟨x2_7, hx_8⟩ : ∃ y : Int32, y = x2 + 1 := ⟨_, rfl⟩
      replace h := h x2_7 hx_8
      refine f_iinc C (j := 2) (v := x2_7) (lv2 := [(2, .int x2_7), (1, .int x1_5), (0, .int x0)]) dX12_sizeOf_26 rfl hx_8.symm (by decide) rfl rfl ?_
      refine f_goto C (t := 4) dX12_sizeOf_29 (by decide) ?_
      refine f_lv C (lv2 := [(0, .int x0), (1, .int x1_5), (2, .int x2_7)]) [2, 1, 0] rfl ?_
      exact hK4 _ _ _ h
    · replace h := Eq.mp (if_neg hq_4) h
      refine f_iconst C (v := 1) dX12_sizeOf_19 kc1 rfl ?_
      refine f_goto C (t := 24) dX12_sizeOf_20 (by decide) ?_
      refine f_iadd C dX12_sizeOf_24 rfl ?_
      refine f_name (fun x1_9 hx_10 => ?_)
      replace h := h x1_9 hx_10
      refine f_istore_n C (lv2 := [(1, .int x1_9), (0, .int x0), (2, .int x2)]) dX12_sizeOf_25 rfl (by decide) rfl rfl ?_
      obtain ⟨x2_11, hx_12⟩ : ∃ y : Int32, y = x2 + 1 := ⟨_, rfl⟩
      replace h := h x2_11 hx_12
      refine f_iinc C (j := 2) (v := x2_11) (lv2 := [(2, .int x2_11), (1, .int x1_9), (0, .int x0)]) dX12_sizeOf_26 rfl hx_12.symm (by decide) rfl rfl ?_
      refine f_goto C (t := 4) dX12_sizeOf_29 (by decide) ?_
      refine f_lv C (lv2 := [(0, .int x0), (1, .int x1_9), (2, .int x2_11)]) [2, 1, 0] rfl ?_
      exact hK4 _ _ _ h
def w_X12_sizeOf (x0 : Int32) (σ : Sto) (P : Int32 → Sto → Prop) : Prop :=
  Lp (fun (K : Int32 × Int32 × Sto → Prop) s => w_X12_sizeOf_4 K x0 s.1 s.2.1 s.2.2 P) (0, 0, σ)
theorem s_X12_sizeOf {B : Nat} {E : Nat → List (Nat × Value) → List Value → Sto → Prop} {P : Int32 → Sto → Prop} (C : Cy B E RX12 cX12_sizeOf 3 (some .int) 1 21 (Zm (QFi P))) (x0 : Int32) (σ : Sto) (h : w_X12_sizeOf x0 σ P) : E 0 [(0, .int x0)] [] σ := by
  unfold w_X12_sizeOf at h
  refine f_iconst C (v := 0) dX12_sizeOf_0 kc0 rfl ?_
  refine f_istore_n C (lv2 := [(1, .int 0), (0, .int x0)]) dX12_sizeOf_1 rfl (by decide) rfl rfl ?_
  refine f_iconst C (v := 0) dX12_sizeOf_2 kc0 rfl ?_
  refine f_istore_n C (lv2 := [(2, .int 0), (1, .int 0), (0, .int x0)]) dX12_sizeOf_3 rfl (by decide) rfl rfl ?_
  refine f_lv C (lv2 := [(0, .int x0), (1, .int 0), (2, .int 0)]) [2, 1, 0] rfl ?_
  exact Lp_sound (fun s : Int32 × Int32 × Sto => E 4 [(0, .int x0), (1, .int s.1), (2, .int s.2.1)] [] s.2.2) h (fun K s hK h => s_X12_sizeOf_4 C x0 s.1 s.2.1 K (fun x1 x2 σ hk => hK (x1, x2, σ) hk) s.2.2 h)
theorem c_X12_sizeOf (x0 : Int32) (σ : Sto) (P : Int32 → Sto → Prop) (h : w_X12_sizeOf x0 σ P) : Ct yX12_sizeOf cX12_sizeOf 3 (some .int) 1 21 (fun B => [.int x0]) σ (QFi P) := Ct.of (by decide) (fun _ => Nat.le_of_ble_eq_true rfl) (fun B E C => s_X12_sizeOf C x0 σ h)
def w_X12_look2 (x1 : Int32) (σ : Sto) (P : Int32 → Sto → Prop) : Prop :=
  (if (gi σ 101 9) ≤ x1 then P 0 σ else vp_in x1 900 ∧ P ((gi σ 105 (tn x1)) &&& 255) σ)
theorem s_X12_look2 {B : Nat} {E : Nat → List (Nat × Value) → List Value → Sto → Prop} {P : Int32 → Sto → Prop} (C : Cy B E RX12 cX12_look2 2 (some .int) 0 0 (Zm (QFi P))) (x1 : Int32) (σ : Sto) (h : w_X12_look2 x1 σ P) : E 0 [(0, .ref (B + 101)), (1, .int x1)] [] σ := by
  unfold w_X12_look2 at h
  refine f_iload_n C (j := 1) dX12_look2_0 rfl rfl rfl ?_
  refine f_aload_n C (j := 0) dX12_look2_1 rfl rfl rfl ?_
  refine f_geti C tF_X12_117 rfl o101 dX12_look2_2 rfl ?_
  refine f_icmp_ge C (t := 21) dX12_look2_5 (by decide) rfl (fun hq_1 => ?_) (fun hq_1 => ?_)
  · replace h := Eq.mp (if_pos hq_1) h
    refine f_iconst C (v := 0) dX12_look2_21 kc0 rfl ?_
    exact f_iret C dX12_look2_22 h
  · replace h := Eq.mp (if_neg hq_1) h
    refine f_aload_n C (j := 0) dX12_look2_8 rfl rfl rfl ?_
    refine f_getc C tF_X12_24 rfl o101 cs101_7 (by decide) dX12_look2_9 rfl ?_
    refine f_iload_n C (j := 1) dX12_look2_12 rfl rfl rfl ?_
    obtain ⟨hi_2, h⟩ := h
    refine f_bald C (j := tn x1) a105 hi_2 rfl dX12_look2_13 rfl ?_
    refine f_sipush C (v := 255) dX12_look2_14 ks255 rfl ?_
    refine f_iand C dX12_look2_17 rfl ?_
    refine f_goto C (t := 22) dX12_look2_18 (by decide) ?_
    exact f_iret C dX12_look2_22 h
theorem c_X12_look2 (x1 : Int32) (σ : Sto) (P : Int32 → Sto → Prop) (h : w_X12_look2 x1 σ P) : Ct yX12_look2 cX12_look2 2 (some .int) 0 0 (fun B => [.ref (B + 101), .int x1]) σ (QFi P) := Ct.of (by decide) (fun _ => Nat.le_of_ble_eq_true rfl) (fun B E C => s_X12_look2 C x1 σ h)
def w_X12_isLetter (x0 : Int32) (σ : Sto) (P : Int32 → Sto → Prop) : Prop :=
  (if x0 < 97 then P 0 σ else (if 122 < x0 then P 0 σ else P 1 σ))
theorem s_X12_isLetter {B : Nat} {E : Nat → List (Nat × Value) → List Value → Sto → Prop} {P : Int32 → Sto → Prop} (C : Cy B E RX12 cX12_isLetter 1 (some .boolean) 0 0 (Zm (QFi P))) (x0 : Int32) (σ : Sto) (h : w_X12_isLetter x0 σ P) : E 0 [(0, .int x0)] [] σ := by
  unfold w_X12_isLetter at h
  refine f_iload_n C (j := 0) dX12_isLetter_0 rfl rfl rfl ?_
  refine f_bipush C (v := 97) dX12_isLetter_1 kb97 rfl ?_
  refine f_icmp_lt C (t := 16) dX12_isLetter_3 (by decide) rfl (fun hq_1 => ?_) (fun hq_1 => ?_)
  · replace h := Eq.mp (if_pos hq_1) h
    refine f_iconst C (v := 0) dX12_isLetter_16 kc0 rfl ?_
    exact f_zret C (Or.inl rfl) dX12_isLetter_17 h
  · replace h := Eq.mp (if_neg hq_1) h
    refine f_iload_n C (j := 0) dX12_isLetter_6 rfl rfl rfl ?_
    refine f_bipush C (v := 122) dX12_isLetter_7 kb122 rfl ?_
    refine f_icmp_gt C (t := 16) dX12_isLetter_9 (by decide) rfl (fun hq_2 => ?_) (fun hq_2 => ?_)
    · replace h := Eq.mp (if_pos hq_2) h
      refine f_iconst C (v := 0) dX12_isLetter_16 kc0 rfl ?_
      exact f_zret C (Or.inl rfl) dX12_isLetter_17 h
    · replace h := Eq.mp (if_neg hq_2) h
      refine f_iconst C (v := 1) dX12_isLetter_12 kc1 rfl ?_
      refine f_goto C (t := 17) dX12_isLetter_13 (by decide) ?_
      exact f_zret C (Or.inr rfl) dX12_isLetter_17 h
theorem c_X12_isLetter (x0 : Int32) (σ : Sto) (P : Int32 → Sto → Prop) (h : w_X12_isLetter x0 σ P) : Ct yX12_isLetter cX12_isLetter 1 (some .boolean) 0 0 (fun B => [.int x0]) σ (QFi P) := Ct.of (by decide) (fun _ => Nat.le_of_ble_eq_true rfl) (fun B E C => s_X12_isLetter C x0 σ h)
def w_X12_isDigit (x0 : Int32) (σ : Sto) (P : Int32 → Sto → Prop) : Prop :=
  (if x0 < 48 then P 0 σ else (if 57 < x0 then P 0 σ else P 1 σ))
theorem s_X12_isDigit {B : Nat} {E : Nat → List (Nat × Value) → List Value → Sto → Prop} {P : Int32 → Sto → Prop} (C : Cy B E RX12 cX12_isDigit 1 (some .boolean) 0 0 (Zm (QFi P))) (x0 : Int32) (σ : Sto) (h : w_X12_isDigit x0 σ P) : E 0 [(0, .int x0)] [] σ := by
  unfold w_X12_isDigit at h
  refine f_iload_n C (j := 0) dX12_isDigit_0 rfl rfl rfl ?_
  refine f_bipush C (v := 48) dX12_isDigit_1 kb48 rfl ?_
  refine f_icmp_lt C (t := 16) dX12_isDigit_3 (by decide) rfl (fun hq_1 => ?_) (fun hq_1 => ?_)
  · replace h := Eq.mp (if_pos hq_1) h
    refine f_iconst C (v := 0) dX12_isDigit_16 kc0 rfl ?_
    exact f_zret C (Or.inl rfl) dX12_isDigit_17 h
  · replace h := Eq.mp (if_neg hq_1) h
    refine f_iload_n C (j := 0) dX12_isDigit_6 rfl rfl rfl ?_
    refine f_bipush C (v := 57) dX12_isDigit_7 kb57 rfl ?_
    refine f_icmp_gt C (t := 16) dX12_isDigit_9 (by decide) rfl (fun hq_2 => ?_) (fun hq_2 => ?_)
    · replace h := Eq.mp (if_pos hq_2) h
      refine f_iconst C (v := 0) dX12_isDigit_16 kc0 rfl ?_
      exact f_zret C (Or.inl rfl) dX12_isDigit_17 h
    · replace h := Eq.mp (if_neg hq_2) h
      refine f_iconst C (v := 1) dX12_isDigit_12 kc1 rfl ?_
      refine f_goto C (t := 17) dX12_isDigit_13 (by decide) ?_
      exact f_zret C (Or.inr rfl) dX12_isDigit_17 h
theorem c_X12_isDigit (x0 : Int32) (σ : Sto) (P : Int32 → Sto → Prop) (h : w_X12_isDigit x0 σ P) : Ct yX12_isDigit cX12_isDigit 1 (some .boolean) 0 0 (fun B => [.int x0]) σ (QFi P) := Ct.of (by decide) (fun _ => Nat.le_of_ble_eq_true rfl) (fun B E C => s_X12_isDigit C x0 σ h)
def w_X12_isSignByte (x1 : Int32) (σ : Sto) (P : Int32 → Sto → Prop) : Prop :=
  (if x1 = 59 then P 1 σ else (if x1 = 60 then P 1 σ else (if x1 = 62 then P 1 σ else (if x1 = 61 then P 1 σ else P 0 σ))))
theorem s_X12_isSignByte {B : Nat} {E : Nat → List (Nat × Value) → List Value → Sto → Prop} {P : Int32 → Sto → Prop} (C : Cy B E RX12 cX12_isSignByte 2 (some .boolean) 0 0 (Zm (QFi P))) (x1 : Int32) (σ : Sto) (h : w_X12_isSignByte x1 σ P) : E 0 [(0, .ref (B + 101)), (1, .int x1)] [] σ := by
  unfold w_X12_isSignByte at h
  refine f_iload_n C (j := 1) dX12_isSignByte_0 rfl rfl rfl ?_
  refine f_bipush C (v := 59) dX12_isSignByte_1 kb59 rfl ?_
  refine f_icmp_eq C (t := 24) dX12_isSignByte_3 (by decide) rfl (fun hq_1 => ?_) (fun hq_1 => ?_)
  · replace h := Eq.mp (if_pos hq_1) h
    refine f_iconst C (v := 1) dX12_isSignByte_24 kc1 rfl ?_
    refine f_goto C (t := 29) dX12_isSignByte_25 (by decide) ?_
    exact f_zret C (Or.inr rfl) dX12_isSignByte_29 h
  · replace h := Eq.mp (if_neg hq_1) h
    refine f_iload_n C (j := 1) dX12_isSignByte_6 rfl rfl rfl ?_
    refine f_bipush C (v := 60) dX12_isSignByte_7 kb60 rfl ?_
    refine f_icmp_eq C (t := 24) dX12_isSignByte_9 (by decide) rfl (fun hq_2 => ?_) (fun hq_2 => ?_)
    · replace h := Eq.mp (if_pos hq_2) h
      refine f_iconst C (v := 1) dX12_isSignByte_24 kc1 rfl ?_
      refine f_goto C (t := 29) dX12_isSignByte_25 (by decide) ?_
      exact f_zret C (Or.inr rfl) dX12_isSignByte_29 h
    · replace h := Eq.mp (if_neg hq_2) h
      refine f_iload_n C (j := 1) dX12_isSignByte_12 rfl rfl rfl ?_
      refine f_bipush C (v := 62) dX12_isSignByte_13 kb62 rfl ?_
      refine f_icmp_eq C (t := 24) dX12_isSignByte_15 (by decide) rfl (fun hq_3 => ?_) (fun hq_3 => ?_)
      · replace h := Eq.mp (if_pos hq_3) h
        refine f_iconst C (v := 1) dX12_isSignByte_24 kc1 rfl ?_
        refine f_goto C (t := 29) dX12_isSignByte_25 (by decide) ?_
        exact f_zret C (Or.inr rfl) dX12_isSignByte_29 h
      · replace h := Eq.mp (if_neg hq_3) h
        refine f_iload_n C (j := 1) dX12_isSignByte_18 rfl rfl rfl ?_
        refine f_bipush C (v := 61) dX12_isSignByte_19 kb61 rfl ?_
        refine f_icmp_ne C (t := 28) dX12_isSignByte_21 (by decide) rfl (fun hq_4 => ?_) (fun hq_4 => ?_)
        · replace h := Eq.mp (if_neg hq_4) h
          refine f_iconst C (v := 0) dX12_isSignByte_28 kc0 rfl ?_
          exact f_zret C (Or.inl rfl) dX12_isSignByte_29 h
        · replace h := Eq.mp (if_pos hq_4) h
          refine f_iconst C (v := 1) dX12_isSignByte_24 kc1 rfl ?_
          refine f_goto C (t := 29) dX12_isSignByte_25 (by decide) ?_
          exact f_zret C (Or.inr rfl) dX12_isSignByte_29 h
theorem c_X12_isSignByte (x1 : Int32) (σ : Sto) (P : Int32 → Sto → Prop) (h : w_X12_isSignByte x1 σ P) : Ct yX12_isSignByte cX12_isSignByte 2 (some .boolean) 0 0 (fun B => [.ref (B + 101), .int x1]) σ (QFi P) := Ct.of (by decide) (fun _ => Nat.le_of_ble_eq_true rfl) (fun B E C => s_X12_isSignByte C x1 σ h)
def w_X12_advance_210 (K210 : Sto → Prop) (σ : Sto) (P : Sto → Prop) : Prop :=
  w_X12_look2 (gi σ 101 16) σ (fun r_17 σ_16 => w_X12_isDigit r_17 σ_16 (fun r_19 σ_18 => (if r_19 = 0 then (if ((gi σ_18 101 16) - (gi σ_18 101 15)) ≤ 4 then P (si σ_18 101 14 2) else P (si σ_18 101 14 4)) else (if 4 ≤ ((gi σ_18 101 16) - (gi σ_18 101 15)) then K210 (si σ_18 101 16 ((gi σ_18 101 16) + 1)) else w_X12_look2 (gi σ_18 101 16) σ_18 (fun r_24 σ_23 => ∀ σ_25 : Sto, σ_25 = si σ_23 101 17 (((10 * (gi σ_18 101 17)) + r_24) - 48) → K210 (si σ_25 101 16 ((gi σ_25 101 16) + 1)))))))
theorem s_X12_advance_210 {B : Nat} {E : Nat → List (Nat × Value) → List Value → Sto → Prop} {P : Sto → Prop} (C : Cy B E RX12 cX12_advance 2 none 1 21 (Zm (QFv P))) (K210 : Sto → Prop) (hK210 : ∀ (σ : Sto), K210 (σ) → E 210 [(0, .ref (B + 101))] [] σ) (σ : Sto) (h : w_X12_advance_210 K210 σ P) : E 210 [(0, .ref (B + 101))] [] σ := by
  unfold w_X12_advance_210 at h
  refine f_aload_n C (j := 0) dX12_advance_210 rfl rfl rfl ?_
  refine f_aload_n C (j := 0) dX12_advance_211 rfl rfl rfl ?_
  refine f_geti C tF_X12_120 rfl o101 dX12_advance_212 rfl ?_
  refine f_callVi C (a := 101) (ci := 12) (As := fun B => [.int (gi σ 101 16)]) o101 rfl (c_X12_look2  _ _ _ h) tM_X12_126 tI_X12_look2 tS_X12_look2 tN_X12 tC_X12_look2 1 dd_X12_look2 rfl (by decide) (by decide) rfl (Nat.le_of_ble_eq_true rfl) dX12_advance_215 rfl (fun r_17 σ_16 h => ?_)
  refine f_callSi C (As := fun B => [.int r_17]) (c_X12_isDigit  _ _ _ h) tM_X12_145 tT_X12_isDigit tN_X12 tC_X12_isDigit 1 dd_X12_isDigit rfl (by decide) (by decide) rfl (Nat.le_of_ble_eq_true rfl) dX12_advance_218 rfl (fun r_19 σ_18 h => ?_)
  refine f_if_eq C (t := 273) dX12_advance_221 (by decide) rfl (fun hq_20 => ?_) (fun hq_20 => ?_)
  · replace h := Eq.mp (if_pos hq_20) h
    refine f_aload_n C (j := 0) dX12_advance_273 rfl rfl rfl ?_
    refine f_aload_n C (j := 0) dX12_advance_274 rfl rfl rfl ?_
    refine f_geti C tF_X12_120 rfl o101 dX12_advance_275 rfl ?_
    refine f_aload_n C (j := 0) dX12_advance_278 rfl rfl rfl ?_
    refine f_geti C tF_X12_123 rfl o101 dX12_advance_279 rfl ?_
    refine f_isub C dX12_advance_282 rfl ?_
    refine f_iconst C (v := 4) dX12_advance_283 kc4 rfl ?_
    refine f_icmp_le C (t := 291) dX12_advance_284 (by decide) rfl (fun hq_21 => ?_) (fun hq_21 => ?_)
    · replace h := Eq.mp (if_pos hq_21) h
      refine f_iconst C (v := 2) dX12_advance_291 kc2 rfl ?_
      refine f_puti C tF_X12_129 fm_12_14 rfl o101 dX12_advance_292 rfl ?_
      refine f_goto C (t := 330) dX12_advance_295 (by decide) ?_
      exact f_vret C dX12_advance_330 h
    · replace h := Eq.mp (if_neg hq_21) h
      refine f_iconst C (v := 4) dX12_advance_287 kc4 rfl ?_
      refine f_goto C (t := 292) dX12_advance_288 (by decide) ?_
      refine f_puti C tF_X12_129 fm_12_14 rfl o101 dX12_advance_292 rfl ?_
      refine f_goto C (t := 330) dX12_advance_295 (by decide) ?_
      exact f_vret C dX12_advance_330 h
  · replace h := Eq.mp (if_neg hq_20) h
    refine f_aload_n C (j := 0) dX12_advance_224 rfl rfl rfl ?_
    refine f_geti C tF_X12_120 rfl o101 dX12_advance_225 rfl ?_
    refine f_aload_n C (j := 0) dX12_advance_228 rfl rfl rfl ?_
    refine f_geti C tF_X12_123 rfl o101 dX12_advance_229 rfl ?_
    refine f_isub C dX12_advance_232 rfl ?_
    refine f_iconst C (v := 4) dX12_advance_233 kc4 rfl ?_
    refine f_icmp_ge C (t := 260) dX12_advance_234 (by decide) rfl (fun hq_22 => ?_) (fun hq_22 => ?_)
    · replace h := Eq.mp (if_pos hq_22) h
      refine f_aload_n C (j := 0) dX12_advance_260 rfl rfl rfl ?_
      refine f_dup C dX12_advance_261 rfl rfl ?_
      refine f_geti C tF_X12_120 rfl o101 dX12_advance_262 rfl ?_
      refine f_iconst C (v := 1) dX12_advance_265 kc1 rfl ?_
      refine f_iadd C dX12_advance_266 rfl ?_
      refine f_puti C tF_X12_120 fm_12_16 rfl o101 dX12_advance_267 rfl ?_
      refine f_goto C (t := 210) dX12_advance_270 (by decide) ?_
      exact hK210  _ h
    · replace h := Eq.mp (if_neg hq_22) h
      refine f_aload_n C (j := 0) dX12_advance_237 rfl rfl rfl ?_
      refine f_bipush C (v := 10) dX12_advance_238 kb10 rfl ?_
      refine f_aload_n C (j := 0) dX12_advance_240 rfl rfl rfl ?_
      refine f_geti C tF_X12_148 rfl o101 dX12_advance_241 rfl ?_
      refine f_imul C dX12_advance_244 rfl ?_
      refine f_aload_n C (j := 0) dX12_advance_245 rfl rfl rfl ?_
      refine f_aload_n C (j := 0) dX12_advance_246 rfl rfl rfl ?_
      refine f_geti C tF_X12_120 rfl o101 dX12_advance_247 rfl ?_
      refine f_callVi C (a := 101) (ci := 12) (As := fun B => [.int (gi σ_18 101 16)]) o101 rfl (c_X12_look2  _ _ _ h) tM_X12_126 tI_X12_look2 tS_X12_look2 tN_X12 tC_X12_look2 1 dd_X12_look2 rfl (by decide) (by decide) rfl (Nat.le_of_ble_eq_true rfl) dX12_advance_250 rfl (fun r_24 σ_23 h => ?_)
      refine f_iadd C dX12_advance_253 rfl ?_
      refine f_bipush C (v := 48) dX12_advance_254 kb48 rfl ?_
      refine f_isub C dX12_advance_256 rfl ?_
      refine f_puti C tF_X12_148 fm_12_17 rfl o101 dX12_advance_257 rfl ?_
      refine f_aload_n C (j := 0) dX12_advance_260 rfl rfl rfl ?_
      refine f_dup C dX12_advance_261 rfl rfl ?_
      refine f_names (fun σ_25 hσ_26 => ?_)
      replace h := h σ_25 hσ_26
      refine f_geti C tF_X12_120 rfl o101 dX12_advance_262 rfl ?_
      refine f_iconst C (v := 1) dX12_advance_265 kc1 rfl ?_
      refine f_iadd C dX12_advance_266 rfl ?_
      refine f_puti C tF_X12_120 fm_12_16 rfl o101 dX12_advance_267 rfl ?_
      refine f_goto C (t := 210) dX12_advance_270 (by decide) ?_
      exact hK210  _ h
def w_X12_advance_166 (K109 : Sto → Prop) (z0 : Int64) (σ : Sto) (P : Sto → Prop) : Prop :=
  ∀ σ_33 : Sto, σ_33 = sl σ 101 19 z0 → K109 (si σ_33 101 16 ((gi σ_33 101 16) + 1))
theorem s_X12_advance_166 {B : Nat} {E : Nat → List (Nat × Value) → List Value → Sto → Prop} {P : Sto → Prop} (C : Cy B E RX12 cX12_advance 2 none 1 21 (Zm (QFv P))) (z0 : Int64) (K109 : Sto → Prop) (hK109 : ∀ (σ : Sto), K109 (σ) → E 109 [(0, .ref (B + 101))] [] σ) (σ : Sto) (h : w_X12_advance_166 K109 z0 σ P) : E 166 [(0, .ref (B + 101))] [.long z0, .ref (B + 101)] σ := by
  unfold w_X12_advance_166 at h
  refine f_putl C tF_X12_135 fm_12_19 rfl o101 dX12_advance_166 rfl ?_
  refine f_aload_n C (j := 0) dX12_advance_169 rfl rfl rfl ?_
  refine f_dup C dX12_advance_170 rfl rfl ?_
  refine f_names (fun σ_33 hσ_34 => ?_)
  replace h := h σ_33 hσ_34
  refine f_geti C tF_X12_120 rfl o101 dX12_advance_171 rfl ?_
  refine f_iconst C (v := 1) dX12_advance_174 kc1 rfl ?_
  refine f_iadd C dX12_advance_175 rfl ?_
  refine f_puti C tF_X12_120 fm_12_16 rfl o101 dX12_advance_176 rfl ?_
  refine f_goto C (t := 109) dX12_advance_179 (by decide) ?_
  exact hK109  _ h
def w_X12_advance_109 (K109 : Sto → Prop) (σ : Sto) (P : Sto → Prop) : Prop :=
  w_X12_look2 (gi σ 101 16) σ (fun r_28 σ_27 => w_X12_isLetter r_28 σ_27 (fun r_30 σ_29 => (if r_30 = 0 then P (si σ_29 101 18 ((gi σ_29 101 16) - (gi σ_29 101 15))) else (if 8 ≤ ((gi σ_29 101 16) - (gi σ_29 101 15)) then w_X12_advance_166 K109 (-1) σ_29 P else w_X12_look2 (gi σ_29 101 16) σ_29 (fun r_36 σ_35 => w_X12_advance_166 K109 ((((gl σ_29 101 19) * 32) + r_36.toInt64) - 96) σ_35 P)))))
theorem s_X12_advance_109 {B : Nat} {E : Nat → List (Nat × Value) → List Value → Sto → Prop} {P : Sto → Prop} (C : Cy B E RX12 cX12_advance 2 none 1 21 (Zm (QFv P))) (K109 : Sto → Prop) (hK109 : ∀ (σ : Sto), K109 (σ) → E 109 [(0, .ref (B + 101))] [] σ) (σ : Sto) (h : w_X12_advance_109 K109 σ P) : E 109 [(0, .ref (B + 101))] [] σ := by
  unfold w_X12_advance_109 at h
  refine f_aload_n C (j := 0) dX12_advance_109 rfl rfl rfl ?_
  refine f_aload_n C (j := 0) dX12_advance_110 rfl rfl rfl ?_
  refine f_geti C tF_X12_120 rfl o101 dX12_advance_111 rfl ?_
  refine f_callVi C (a := 101) (ci := 12) (As := fun B => [.int (gi σ 101 16)]) o101 rfl (c_X12_look2  _ _ _ h) tM_X12_126 tI_X12_look2 tS_X12_look2 tN_X12 tC_X12_look2 1 dd_X12_look2 rfl (by decide) (by decide) rfl (Nat.le_of_ble_eq_true rfl) dX12_advance_114 rfl (fun r_28 σ_27 h => ?_)
  refine f_callSi C (As := fun B => [.int r_28]) (c_X12_isLetter  _ _ _ h) tM_X12_132 tT_X12_isLetter tN_X12 tC_X12_isLetter 1 dd_X12_isLetter rfl (by decide) (by decide) rfl (Nat.le_of_ble_eq_true rfl) dX12_advance_117 rfl (fun r_30 σ_29 h => ?_)
  refine f_if_eq C (t := 182) dX12_advance_120 (by decide) rfl (fun hq_31 => ?_) (fun hq_31 => ?_)
  · replace h := Eq.mp (if_pos hq_31) h
    refine f_aload_n C (j := 0) dX12_advance_182 rfl rfl rfl ?_
    refine f_aload_n C (j := 0) dX12_advance_183 rfl rfl rfl ?_
    refine f_geti C tF_X12_120 rfl o101 dX12_advance_184 rfl ?_
    refine f_aload_n C (j := 0) dX12_advance_187 rfl rfl rfl ?_
    refine f_geti C tF_X12_123 rfl o101 dX12_advance_188 rfl ?_
    refine f_isub C dX12_advance_191 rfl ?_
    refine f_puti C tF_X12_142 fm_12_18 rfl o101 dX12_advance_192 rfl ?_
    refine f_goto C (t := 330) dX12_advance_195 (by decide) ?_
    exact f_vret C dX12_advance_330 h
  · replace h := Eq.mp (if_neg hq_31) h
    refine f_aload_n C (j := 0) dX12_advance_123 rfl rfl rfl ?_
    refine f_aload_n C (j := 0) dX12_advance_124 rfl rfl rfl ?_
    refine f_geti C tF_X12_120 rfl o101 dX12_advance_125 rfl ?_
    refine f_aload_n C (j := 0) dX12_advance_128 rfl rfl rfl ?_
    refine f_geti C tF_X12_123 rfl o101 dX12_advance_129 rfl ?_
    refine f_isub C dX12_advance_132 rfl ?_
    refine f_bipush C (v := 8) dX12_advance_133 kb8 rfl ?_
    refine f_icmp_ge C (t := 163) dX12_advance_135 (by decide) rfl (fun hq_32 => ?_) (fun hq_32 => ?_)
    · replace h := Eq.mp (if_pos hq_32) h
      refine f_ldc2_w C tL_X12_105 dX12_advance_163 rfl ?_
      exact s_X12_advance_166 C _  K109 hK109 _ h
    · replace h := Eq.mp (if_neg hq_32) h
      refine f_aload_n C (j := 0) dX12_advance_138 rfl rfl rfl ?_
      refine f_getl C tF_X12_135 rfl o101 dX12_advance_139 rfl ?_
      refine f_ldc2_w C tL_X12_138 dX12_advance_142 rfl ?_
      refine f_lmul C dX12_advance_145 rfl ?_
      refine f_aload_n C (j := 0) dX12_advance_146 rfl rfl rfl ?_
      refine f_aload_n C (j := 0) dX12_advance_147 rfl rfl rfl ?_
      refine f_geti C tF_X12_120 rfl o101 dX12_advance_148 rfl ?_
      refine f_callVi C (a := 101) (ci := 12) (As := fun B => [.int (gi σ_29 101 16)]) o101 rfl (c_X12_look2  _ _ _ h) tM_X12_126 tI_X12_look2 tS_X12_look2 tN_X12 tC_X12_look2 1 dd_X12_look2 rfl (by decide) (by decide) rfl (Nat.le_of_ble_eq_true rfl) dX12_advance_151 rfl (fun r_36 σ_35 h => ?_)
      refine f_i2l C dX12_advance_154 rfl ?_
      refine f_ladd C dX12_advance_155 rfl ?_
      refine f_ldc2_w C tL_X12_140 dX12_advance_156 rfl ?_
      refine f_lsub C dX12_advance_159 rfl ?_
      refine f_goto C (t := 166) dX12_advance_160 (by decide) ?_
      exact s_X12_advance_166 C _  K109 hK109 _ h
def w_X12_advance_58 (σ : Sto) (P : Sto → Prop) : Prop :=
  ∀ σ_2 : Sto, σ_2 = si σ 101 16 (gi σ 101 15) → (if (gi σ_2 101 15) < (gi σ_2 101 9) then w_X12_look2 (gi σ_2 101 15) σ_2 (fun r_6 σ_5 => w_X12_isLetter r_6 σ_5 (fun r_8 σ_7 => (if r_8 = 0 then w_X12_isDigit r_6 σ_7 (fun r_11 σ_10 => (if r_11 = 0 then w_X12_isSignByte r_6 (si (si σ_10 101 16 ((gi σ_10 101 15) + 1)) 101 17 r_6) (fun r_14 σ_13 => (if r_14 = 0 then P (si σ_13 101 14 4) else P (si σ_13 101 14 3))) else Lp (fun (K : Sto → Prop) s => w_X12_advance_210 K  s P) (si σ_10 101 17 0))) else Lp (fun (K : Sto → Prop) s => w_X12_advance_109 K  s P) (sl (si σ_7 101 14 1) 101 19 0)))) else P (si σ_2 101 14 0))
theorem s_X12_advance_58 {B : Nat} {E : Nat → List (Nat × Value) → List Value → Sto → Prop} {P : Sto → Prop} (C : Cy B E RX12 cX12_advance 2 none 1 21 (Zm (QFv P))) (σ : Sto) (h : w_X12_advance_58 σ P) : E 58 [(0, .ref (B + 101))] [] σ := by
  unfold w_X12_advance_58 at h
  refine f_aload_n C (j := 0) dX12_advance_58 rfl rfl rfl ?_
  refine f_aload_n C (j := 0) dX12_advance_59 rfl rfl rfl ?_
  refine f_geti C tF_X12_123 rfl o101 dX12_advance_60 rfl ?_
  refine f_puti C tF_X12_120 fm_12_16 rfl o101 dX12_advance_63 rfl ?_
  refine f_aload_n C (j := 0) dX12_advance_66 rfl rfl rfl ?_
  refine f_names (fun σ_2 hσ_3 => ?_)
  replace h := h σ_2 hσ_3
  refine f_geti C tF_X12_123 rfl o101 dX12_advance_67 rfl ?_
  refine f_aload_n C (j := 0) dX12_advance_70 rfl rfl rfl ?_
  refine f_geti C tF_X12_117 rfl o101 dX12_advance_71 rfl ?_
  refine f_icmp_lt C (t := 83) dX12_advance_74 (by decide) rfl (fun hq_4 => ?_) (fun hq_4 => ?_)
  · replace h := Eq.mp (if_pos hq_4) h
    refine f_aload_n C (j := 0) dX12_advance_83 rfl rfl rfl ?_
    refine f_aload_n C (j := 0) dX12_advance_84 rfl rfl rfl ?_
    refine f_geti C tF_X12_123 rfl o101 dX12_advance_85 rfl ?_
    refine f_callVi C (a := 101) (ci := 12) (As := fun B => [.int (gi σ_2 101 15)]) o101 rfl (c_X12_look2  _ _ _ h) tM_X12_126 tI_X12_look2 tS_X12_look2 tN_X12 tC_X12_look2 1 dd_X12_look2 rfl (by decide) (by decide) rfl (Nat.le_of_ble_eq_true rfl) dX12_advance_88 rfl (fun r_6 σ_5 h => ?_)
    refine f_istore_n C (lv2 := [(1, .int r_6), (0, .ref (B + 101))]) dX12_advance_91 rfl (by decide) rfl rfl ?_
    refine f_iload_n C (j := 0) dX12_advance_92 rfl rfl rfl ?_
    refine f_callSi C (As := fun B => [.int r_6]) (c_X12_isLetter  _ _ _ h) tM_X12_132 tT_X12_isLetter tN_X12 tC_X12_isLetter 1 dd_X12_isLetter rfl (by decide) (by decide) rfl (Nat.le_of_ble_eq_true rfl) dX12_advance_93 rfl (fun r_8 σ_7 h => ?_)
    refine f_if_eq C (t := 198) dX12_advance_96 (by decide) rfl (fun hq_9 => ?_) (fun hq_9 => ?_)
    · replace h := Eq.mp (if_pos hq_9) h
      refine f_iload_n C (j := 0) dX12_advance_198 rfl rfl rfl ?_
      refine f_callSi C (As := fun B => [.int r_6]) (c_X12_isDigit  _ _ _ h) tM_X12_145 tT_X12_isDigit tN_X12 tC_X12_isDigit 1 dd_X12_isDigit rfl (by decide) (by decide) rfl (Nat.le_of_ble_eq_true rfl) dX12_advance_199 rfl (fun r_11 σ_10 h => ?_)
      refine f_if_eq C (t := 298) dX12_advance_202 (by decide) rfl (fun hq_12 => ?_) (fun hq_12 => ?_)
      · replace h := Eq.mp (if_pos hq_12) h
        refine f_aload_n C (j := 1) dX12_advance_298 rfl rfl rfl ?_
        refine f_aload_n C (j := 1) dX12_advance_299 rfl rfl rfl ?_
        refine f_geti C tF_X12_123 rfl o101 dX12_advance_300 rfl ?_
        refine f_iconst C (v := 1) dX12_advance_303 kc1 rfl ?_
        refine f_iadd C dX12_advance_304 rfl ?_
        refine f_puti C tF_X12_120 fm_12_16 rfl o101 dX12_advance_305 rfl ?_
        refine f_aload_n C (j := 1) dX12_advance_308 rfl rfl rfl ?_
        refine f_iload_n C (j := 0) dX12_advance_309 rfl rfl rfl ?_
        refine f_puti C tF_X12_148 fm_12_17 rfl o101 dX12_advance_310 rfl ?_
        refine f_aload_n C (j := 1) dX12_advance_313 rfl rfl rfl ?_
        refine f_aload_n C (j := 1) dX12_advance_314 rfl rfl rfl ?_
        refine f_iload_n C (j := 0) dX12_advance_315 rfl rfl rfl ?_
        refine f_callVi C (a := 101) (ci := 12) (As := fun B => [.int r_6]) o101 rfl (c_X12_isSignByte  _ _ _ h) tM_X12_151 tI_X12_isSignByte tS_X12_isSignByte tN_X12 tC_X12_isSignByte 1 dd_X12_isSignByte rfl (by decide) (by decide) rfl (Nat.le_of_ble_eq_true rfl) dX12_advance_316 rfl (fun r_14 σ_13 h => ?_)
        refine f_if_eq C (t := 326) dX12_advance_319 (by decide) rfl (fun hq_15 => ?_) (fun hq_15 => ?_)
        · replace h := Eq.mp (if_pos hq_15) h
          refine f_iconst C (v := 4) dX12_advance_326 kc4 rfl ?_
          refine f_puti C tF_X12_129 fm_12_14 rfl o101 dX12_advance_327 rfl ?_
          exact f_vret C dX12_advance_330 h
        · replace h := Eq.mp (if_neg hq_15) h
          refine f_iconst C (v := 3) dX12_advance_322 kc3 rfl ?_
          refine f_goto C (t := 327) dX12_advance_323 (by decide) ?_
          refine f_puti C tF_X12_129 fm_12_14 rfl o101 dX12_advance_327 rfl ?_
          exact f_vret C dX12_advance_330 h
      · replace h := Eq.mp (if_neg hq_12) h
        refine f_aload_n C (j := 1) dX12_advance_205 rfl rfl rfl ?_
        refine f_iconst C (v := 0) dX12_advance_206 kc0 rfl ?_
        refine f_puti C tF_X12_148 fm_12_17 rfl o101 dX12_advance_207 rfl ?_
        refine f_lv C (lv2 := [(0, .ref (B + 101))]) [1] rfl ?_
        exact Lp_sound (fun s : Sto => E 210 [(0, .ref (B + 101))] [] s) h (fun K s hK h => s_X12_advance_210 C  K (fun σ hk => hK σ hk) s h)
    · replace h := Eq.mp (if_neg hq_9) h
      refine f_aload_n C (j := 1) dX12_advance_99 rfl rfl rfl ?_
      refine f_iconst C (v := 1) dX12_advance_100 kc1 rfl ?_
      refine f_puti C tF_X12_129 fm_12_14 rfl o101 dX12_advance_101 rfl ?_
      refine f_aload_n C (j := 1) dX12_advance_104 rfl rfl rfl ?_
      refine f_lconst C (v := 0) dX12_advance_105 (by decide) rfl ?_
      refine f_putl C tF_X12_135 fm_12_19 rfl o101 dX12_advance_106 rfl ?_
      refine f_lv C (lv2 := [(0, .ref (B + 101))]) [1] rfl ?_
      exact Lp_sound (fun s : Sto => E 109 [(0, .ref (B + 101))] [] s) h (fun K s hK h => s_X12_advance_109 C  K (fun σ hk => hK σ hk) s h)
  · replace h := Eq.mp (if_neg hq_4) h
    refine f_aload_n C (j := 0) dX12_advance_77 rfl rfl rfl ?_
    refine f_iconst C (v := 0) dX12_advance_78 kc0 rfl ?_
    refine f_puti C tF_X12_129 fm_12_14 rfl o101 dX12_advance_79 rfl ?_
    exact f_vret C dX12_advance_82 h
def w_X12_advance_8 (K8 : Sto → Prop) (σ : Sto) (P : Sto → Prop) : Prop :=
  (if (gi σ 101 9) ≤ (gi σ 101 15) then w_X12_advance_58 σ P else w_X12_look2 (gi σ 101 15) σ (fun r_38 σ_37 => (if r_38 = 10 then K8 (si σ_37 101 15 ((gi σ_37 101 15) + 1)) else w_X12_look2 (gi σ_37 101 15) σ_37 (fun r_41 σ_40 => (if r_41 = 32 then K8 (si σ_40 101 15 ((gi σ_40 101 15) + 1)) else w_X12_advance_58 σ_40 P)))))
theorem s_X12_advance_8 {B : Nat} {E : Nat → List (Nat × Value) → List Value → Sto → Prop} {P : Sto → Prop} (C : Cy B E RX12 cX12_advance 2 none 1 21 (Zm (QFv P))) (K8 : Sto → Prop) (hK8 : ∀ (σ : Sto), K8 (σ) → E 8 [(0, .ref (B + 101))] [] σ) (σ : Sto) (h : w_X12_advance_8 K8 σ P) : E 8 [(0, .ref (B + 101))] [] σ := by
  unfold w_X12_advance_8 at h
  refine f_aload_n C (j := 0) dX12_advance_8 rfl rfl rfl ?_
  refine f_geti C tF_X12_123 rfl o101 dX12_advance_9 rfl ?_
  refine f_aload_n C (j := 0) dX12_advance_12 rfl rfl rfl ?_
  refine f_geti C tF_X12_117 rfl o101 dX12_advance_13 rfl ?_
  refine f_icmp_ge C (t := 58) dX12_advance_16 (by decide) rfl (fun hq_1 => ?_) (fun hq_1 => ?_)
  · replace h := Eq.mp (if_pos hq_1) h
    exact s_X12_advance_58 C  _ h
  · replace h := Eq.mp (if_neg hq_1) h
    refine f_aload_n C (j := 0) dX12_advance_19 rfl rfl rfl ?_
    refine f_aload_n C (j := 0) dX12_advance_20 rfl rfl rfl ?_
    refine f_geti C tF_X12_123 rfl o101 dX12_advance_21 rfl ?_
    refine f_callVi C (a := 101) (ci := 12) (As := fun B => [.int (gi σ 101 15)]) o101 rfl (c_X12_look2  _ _ _ h) tM_X12_126 tI_X12_look2 tS_X12_look2 tN_X12 tC_X12_look2 1 dd_X12_look2 rfl (by decide) (by decide) rfl (Nat.le_of_ble_eq_true rfl) dX12_advance_24 rfl (fun r_38 σ_37 h => ?_)
    refine f_bipush C (v := 10) dX12_advance_27 kb10 rfl ?_
    refine f_icmp_eq C (t := 45) dX12_advance_29 (by decide) rfl (fun hq_39 => ?_) (fun hq_39 => ?_)
    · replace h := Eq.mp (if_pos hq_39) h
      refine f_aload_n C (j := 0) dX12_advance_45 rfl rfl rfl ?_
      refine f_dup C dX12_advance_46 rfl rfl ?_
      refine f_geti C tF_X12_123 rfl o101 dX12_advance_47 rfl ?_
      refine f_iconst C (v := 1) dX12_advance_50 kc1 rfl ?_
      refine f_iadd C dX12_advance_51 rfl ?_
      refine f_puti C tF_X12_123 fm_12_15 rfl o101 dX12_advance_52 rfl ?_
      refine f_goto C (t := 8) dX12_advance_55 (by decide) ?_
      exact hK8  _ h
    · replace h := Eq.mp (if_neg hq_39) h
      refine f_aload_n C (j := 0) dX12_advance_32 rfl rfl rfl ?_
      refine f_aload_n C (j := 0) dX12_advance_33 rfl rfl rfl ?_
      refine f_geti C tF_X12_123 rfl o101 dX12_advance_34 rfl ?_
      refine f_callVi C (a := 101) (ci := 12) (As := fun B => [.int (gi σ_37 101 15)]) o101 rfl (c_X12_look2  _ _ _ h) tM_X12_126 tI_X12_look2 tS_X12_look2 tN_X12 tC_X12_look2 1 dd_X12_look2 rfl (by decide) (by decide) rfl (Nat.le_of_ble_eq_true rfl) dX12_advance_37 rfl (fun r_41 σ_40 h => ?_)
      refine f_bipush C (v := 32) dX12_advance_40 kb32 rfl ?_
      refine f_icmp_ne C (t := 58) dX12_advance_42 (by decide) rfl (fun hq_42 => ?_) (fun hq_42 => ?_)
      · replace h := Eq.mp (if_neg hq_42) h
        exact s_X12_advance_58 C  _ h
      · replace h := Eq.mp (if_pos hq_42) h
        refine f_aload_n C (j := 0) dX12_advance_45 rfl rfl rfl ?_
        refine f_dup C dX12_advance_46 rfl rfl ?_
        refine f_geti C tF_X12_123 rfl o101 dX12_advance_47 rfl ?_
        refine f_iconst C (v := 1) dX12_advance_50 kc1 rfl ?_
        refine f_iadd C dX12_advance_51 rfl ?_
        refine f_puti C tF_X12_123 fm_12_15 rfl o101 dX12_advance_52 rfl ?_
        refine f_goto C (t := 8) dX12_advance_55 (by decide) ?_
        exact hK8  _ h
def w_X12_advance (σ : Sto) (P : Sto → Prop) : Prop :=
  Lp (fun (K : Sto → Prop) s => w_X12_advance_8 K  s P) (si σ 101 15 (gi σ 101 16))
theorem s_X12_advance {B : Nat} {E : Nat → List (Nat × Value) → List Value → Sto → Prop} {P : Sto → Prop} (C : Cy B E RX12 cX12_advance 2 none 1 21 (Zm (QFv P))) (σ : Sto) (h : w_X12_advance σ P) : E 0 [(0, .ref (B + 101))] [] σ := by
  unfold w_X12_advance at h
  refine f_aload_n C (j := 0) dX12_advance_0 rfl rfl rfl ?_
  refine f_aload_n C (j := 0) dX12_advance_1 rfl rfl rfl ?_
  refine f_geti C tF_X12_120 rfl o101 dX12_advance_2 rfl ?_
  refine f_puti C tF_X12_123 fm_12_15 rfl o101 dX12_advance_5 rfl ?_
  exact Lp_sound (fun s : Sto => E 8 [(0, .ref (B + 101))] [] s) h (fun K s hK h => s_X12_advance_8 C  K (fun σ hk => hK σ hk) s h)
theorem c_X12_advance (σ : Sto) (P : Sto → Prop) (h : w_X12_advance σ P) : Ct yX12_advance cX12_advance 2 none 1 21 (fun B => [.ref (B + 101)]) σ (QFv P) := Ct.of (by decide) (fun _ => Nat.le_of_ble_eq_true rfl) (fun B E C => s_X12_advance C σ h)
def w_X12_isSign (x1 : Int32) (σ : Sto) (P : Int32 → Sto → Prop) : Prop :=
  (if (gi σ 101 14) = 3 then (if (gi σ 101 17) = x1 then P 1 σ else P 0 σ) else P 0 σ)
theorem s_X12_isSign {B : Nat} {E : Nat → List (Nat × Value) → List Value → Sto → Prop} {P : Int32 → Sto → Prop} (C : Cy B E RX12 cX12_isSign 2 (some .boolean) 0 0 (Zm (QFi P))) (x1 : Int32) (σ : Sto) (h : w_X12_isSign x1 σ P) : E 0 [(0, .ref (B + 101)), (1, .int x1)] [] σ := by
  unfold w_X12_isSign at h
  refine f_aload_n C (j := 0) dX12_isSign_0 rfl rfl rfl ?_
  refine f_geti C tF_X12_129 rfl o101 dX12_isSign_1 rfl ?_
  refine f_iconst C (v := 3) dX12_isSign_4 kc3 rfl ?_
  refine f_icmp_ne C (t := 20) dX12_isSign_5 (by decide) rfl (fun hq_1 => ?_) (fun hq_1 => ?_)
  · replace h := Eq.mp (if_neg hq_1) h
    refine f_iconst C (v := 0) dX12_isSign_20 kc0 rfl ?_
    exact f_zret C (Or.inl rfl) dX12_isSign_21 h
  · replace h := Eq.mp (if_pos hq_1) h
    refine f_aload_n C (j := 0) dX12_isSign_8 rfl rfl rfl ?_
    refine f_geti C tF_X12_148 rfl o101 dX12_isSign_9 rfl ?_
    refine f_iload_n C (j := 1) dX12_isSign_12 rfl rfl rfl ?_
    refine f_icmp_ne C (t := 20) dX12_isSign_13 (by decide) rfl (fun hq_2 => ?_) (fun hq_2 => ?_)
    · replace h := Eq.mp (if_neg hq_2) h
      refine f_iconst C (v := 0) dX12_isSign_20 kc0 rfl ?_
      exact f_zret C (Or.inl rfl) dX12_isSign_21 h
    · replace h := Eq.mp (if_pos hq_2) h
      refine f_iconst C (v := 1) dX12_isSign_16 kc1 rfl ?_
      refine f_goto C (t := 21) dX12_isSign_17 (by decide) ?_
      exact f_zret C (Or.inr rfl) dX12_isSign_21 h
theorem c_X12_isSign (x1 : Int32) (σ : Sto) (P : Int32 → Sto → Prop) (h : w_X12_isSign x1 σ P) : Ct yX12_isSign cX12_isSign 2 (some .boolean) 0 0 (fun B => [.ref (B + 101), .int x1]) σ (QFi P) := Ct.of (by decide) (fun _ => Nat.le_of_ble_eq_true rfl) (fun B E C => s_X12_isSign C x1 σ h)
def w_X12_spelled_91 (x5 : Int32) (z0 : Int64) (σ : Sto) (P : Int64 → Sto → Prop) : Prop :=
  (if x5 ≤ 0 then P z0 σ else P (((z0 * 32) + x5.toInt64) - 96) σ)
theorem s_X12_spelled_91 {B : Nat} {E : Nat → List (Nat × Value) → List Value → Sto → Prop} {P : Int64 → Sto → Prop} (C : Cy B E RX12 cX12_spelled 8 (some .long) 0 0 (Zm (QFl P))) (x5 : Int32) (z0 : Int64) (σ : Sto) (h : w_X12_spelled_91 x5 z0 σ P) : E 91 [(5, .int x5)] [.long z0] σ := by
  unfold w_X12_spelled_91 at h
  refine f_lstore C (lv2 := [(6, .long z0), (5, .int x5)]) dX12_spelled_91 (by decide) rfl rfl ?_
  refine f_iload C (j := 1) dX12_spelled_93 rfl rfl ?_
  refine f_if_le C (t := 115) dX12_spelled_95 (by decide) rfl (fun hq_6 => ?_) (fun hq_6 => ?_)
  · replace h := Eq.mp (if_pos hq_6) h
    refine f_lload C (j := 0) dX12_spelled_115 rfl rfl ?_
    exact f_lret C dX12_spelled_117 h
  · replace h := Eq.mp (if_neg hq_6) h
    refine f_lload C (j := 0) dX12_spelled_98 rfl rfl ?_
    refine f_ldc2_w C tL_X12_138 dX12_spelled_100 rfl ?_
    refine f_lmul C dX12_spelled_103 rfl ?_
    refine f_iload C (j := 1) dX12_spelled_104 rfl rfl ?_
    refine f_i2l C dX12_spelled_106 rfl ?_
    refine f_ladd C dX12_spelled_107 rfl ?_
    refine f_ldc2_w C tL_X12_140 dX12_spelled_108 rfl ?_
    refine f_lsub C dX12_spelled_111 rfl ?_
    refine f_goto C (t := 117) dX12_spelled_112 (by decide) ?_
    exact f_lret C dX12_spelled_117 h
def w_X12_spelled_65 (x4 : Int32) (x5 : Int32) (z0 : Int64) (σ : Sto) (P : Int64 → Sto → Prop) : Prop :=
  (if x4 ≤ 0 then w_X12_spelled_91 x5 z0 σ P else w_X12_spelled_91 x5 (((z0 * 32) + x4.toInt64) - 96) σ P)
theorem s_X12_spelled_65 {B : Nat} {E : Nat → List (Nat × Value) → List Value → Sto → Prop} {P : Int64 → Sto → Prop} (C : Cy B E RX12 cX12_spelled 8 (some .long) 0 0 (Zm (QFl P))) (x4 : Int32) (x5 : Int32) (z0 : Int64) (σ : Sto) (h : w_X12_spelled_65 x4 x5 z0 σ P) : E 65 [(4, .int x4), (5, .int x5)] [.long z0] σ := by
  unfold w_X12_spelled_65 at h
  refine f_lstore C (lv2 := [(6, .long z0), (4, .int x4), (5, .int x5)]) dX12_spelled_65 (by decide) rfl rfl ?_
  refine f_iload C (j := 1) dX12_spelled_67 rfl rfl ?_
  refine f_if_le C (t := 89) dX12_spelled_69 (by decide) rfl (fun hq_5 => ?_) (fun hq_5 => ?_)
  · replace h := Eq.mp (if_pos hq_5) h
    refine f_lload C (j := 0) dX12_spelled_89 rfl rfl ?_
    refine f_lv C (lv2 := [(5, .int x5)]) [2] rfl ?_
    exact s_X12_spelled_91 C _ _  _ h
  · replace h := Eq.mp (if_neg hq_5) h
    refine f_lload C (j := 0) dX12_spelled_72 rfl rfl ?_
    refine f_ldc2_w C tL_X12_138 dX12_spelled_74 rfl ?_
    refine f_lmul C dX12_spelled_77 rfl ?_
    refine f_iload C (j := 1) dX12_spelled_78 rfl rfl ?_
    refine f_i2l C dX12_spelled_80 rfl ?_
    refine f_ladd C dX12_spelled_81 rfl ?_
    refine f_ldc2_w C tL_X12_140 dX12_spelled_82 rfl ?_
    refine f_lsub C dX12_spelled_85 rfl ?_
    refine f_goto C (t := 91) dX12_spelled_86 (by decide) ?_
    refine f_lv C (lv2 := [(5, .int x5)]) [2] rfl ?_
    exact s_X12_spelled_91 C _ _  _ h
def w_X12_spelled_41 (x3 : Int32) (x4 : Int32) (x5 : Int32) (z0 : Int64) (σ : Sto) (P : Int64 → Sto → Prop) : Prop :=
  (if x3 ≤ 0 then w_X12_spelled_65 x4 x5 z0 σ P else w_X12_spelled_65 x4 x5 (((z0 * 32) + x3.toInt64) - 96) σ P)
theorem s_X12_spelled_41 {B : Nat} {E : Nat → List (Nat × Value) → List Value → Sto → Prop} {P : Int64 → Sto → Prop} (C : Cy B E RX12 cX12_spelled 8 (some .long) 0 0 (Zm (QFl P))) (x3 : Int32) (x4 : Int32) (x5 : Int32) (z0 : Int64) (σ : Sto) (h : w_X12_spelled_41 x3 x4 x5 z0 σ P) : E 41 [(3, .int x3), (4, .int x4), (5, .int x5)] [.long z0] σ := by
  unfold w_X12_spelled_41 at h
  refine f_lstore C (lv2 := [(6, .long z0), (3, .int x3), (4, .int x4), (5, .int x5)]) dX12_spelled_41 (by decide) rfl rfl ?_
  refine f_iload_n C (j := 1) dX12_spelled_43 rfl rfl rfl ?_
  refine f_if_le C (t := 63) dX12_spelled_44 (by decide) rfl (fun hq_4 => ?_) (fun hq_4 => ?_)
  · replace h := Eq.mp (if_pos hq_4) h
    refine f_lload C (j := 0) dX12_spelled_63 rfl rfl ?_
    refine f_lv C (lv2 := [(4, .int x4), (5, .int x5)]) [2, 3] rfl ?_
    exact s_X12_spelled_65 C _ _ _  _ h
  · replace h := Eq.mp (if_neg hq_4) h
    refine f_lload C (j := 0) dX12_spelled_47 rfl rfl ?_
    refine f_ldc2_w C tL_X12_138 dX12_spelled_49 rfl ?_
    refine f_lmul C dX12_spelled_52 rfl ?_
    refine f_iload_n C (j := 1) dX12_spelled_53 rfl rfl rfl ?_
    refine f_i2l C dX12_spelled_54 rfl ?_
    refine f_ladd C dX12_spelled_55 rfl ?_
    refine f_ldc2_w C tL_X12_140 dX12_spelled_56 rfl ?_
    refine f_lsub C dX12_spelled_59 rfl ?_
    refine f_goto C (t := 65) dX12_spelled_60 (by decide) ?_
    refine f_lv C (lv2 := [(4, .int x4), (5, .int x5)]) [2, 3] rfl ?_
    exact s_X12_spelled_65 C _ _ _  _ h
def w_X12_spelled (x0 : Int32) (x1 : Int32) (x2 : Int32) (x3 : Int32) (x4 : Int32) (x5 : Int32) (σ : Sto) (P : Int64 → Sto → Prop) : Prop :=
  ∀ x6_1 : Int64, x6_1 = (((x0.toInt64 - 96) * 32) + x1.toInt64) - 96 → (if x2 ≤ 0 then w_X12_spelled_41 x3 x4 x5 x6_1 σ P else w_X12_spelled_41 x3 x4 x5 (((x6_1 * 32) + x2.toInt64) - 96) σ P)
theorem s_X12_spelled {B : Nat} {E : Nat → List (Nat × Value) → List Value → Sto → Prop} {P : Int64 → Sto → Prop} (C : Cy B E RX12 cX12_spelled 8 (some .long) 0 0 (Zm (QFl P))) (x0 : Int32) (x1 : Int32) (x2 : Int32) (x3 : Int32) (x4 : Int32) (x5 : Int32) (σ : Sto) (h : w_X12_spelled x0 x1 x2 x3 x4 x5 σ P) : E 0 [(0, .int x0), (1, .int x1), (2, .int x2), (3, .int x3), (4, .int x4), (5, .int x5)] [] σ := by
  unfold w_X12_spelled at h
  refine f_iload_n C (j := 0) dX12_spelled_0 rfl rfl rfl ?_
  refine f_i2l C dX12_spelled_1 rfl ?_
  refine f_ldc2_w C tL_X12_140 dX12_spelled_2 rfl ?_
  refine f_lsub C dX12_spelled_5 rfl ?_
  refine f_ldc2_w C tL_X12_138 dX12_spelled_6 rfl ?_
  refine f_lmul C dX12_spelled_9 rfl ?_
  refine f_iload_n C (j := 1) dX12_spelled_10 rfl rfl rfl ?_
  refine f_i2l C dX12_spelled_11 rfl ?_
  refine f_ladd C dX12_spelled_12 rfl ?_
  refine f_ldc2_w C tL_X12_140 dX12_spelled_13 rfl ?_
  refine f_lsub C dX12_spelled_16 rfl ?_
  refine f_namel (fun x6_1 hx_2 => ?_)
  replace h := h x6_1 hx_2
  refine f_lstore C (lv2 := [(6, .long x6_1), (0, .int x0), (1, .int x1), (2, .int x2), (3, .int x3), (4, .int x4), (5, .int x5)]) dX12_spelled_17 (by decide) rfl rfl ?_
  refine f_iload_n C (j := 3) dX12_spelled_19 rfl rfl rfl ?_
  refine f_if_le C (t := 39) dX12_spelled_20 (by decide) rfl (fun hq_3 => ?_) (fun hq_3 => ?_)
  · replace h := Eq.mp (if_pos hq_3) h
    refine f_lload C (j := 0) dX12_spelled_39 rfl rfl ?_
    refine f_lv C (lv2 := [(3, .int x3), (4, .int x4), (5, .int x5)]) [4, 5, 6] rfl ?_
    exact s_X12_spelled_41 C _ _ _ _  _ h
  · replace h := Eq.mp (if_neg hq_3) h
    refine f_lload C (j := 0) dX12_spelled_23 rfl rfl ?_
    refine f_ldc2_w C tL_X12_138 dX12_spelled_25 rfl ?_
    refine f_lmul C dX12_spelled_28 rfl ?_
    refine f_iload_n C (j := 3) dX12_spelled_29 rfl rfl rfl ?_
    refine f_i2l C dX12_spelled_30 rfl ?_
    refine f_ladd C dX12_spelled_31 rfl ?_
    refine f_ldc2_w C tL_X12_140 dX12_spelled_32 rfl ?_
    refine f_lsub C dX12_spelled_35 rfl ?_
    refine f_goto C (t := 41) dX12_spelled_36 (by decide) ?_
    refine f_lv C (lv2 := [(3, .int x3), (4, .int x4), (5, .int x5)]) [4, 5, 6] rfl ?_
    exact s_X12_spelled_41 C _ _ _ _  _ h
theorem c_X12_spelled (x0 : Int32) (x1 : Int32) (x2 : Int32) (x3 : Int32) (x4 : Int32) (x5 : Int32) (σ : Sto) (P : Int64 → Sto → Prop) (h : w_X12_spelled x0 x1 x2 x3 x4 x5 σ P) : Ct yX12_spelled cX12_spelled 8 (some .long) 0 0 (fun B => [.int x0, .int x1, .int x2, .int x3, .int x4, .int x5]) σ (QFl P) := Ct.of (by decide) (fun _ => Nat.le_of_ble_eq_true rfl) (fun B E C => s_X12_spelled C x0 x1 x2 x3 x4 x5 σ h)
def w_X12_isWord (x1 : Int64) (σ : Sto) (P : Int32 → Sto → Prop) : Prop :=
  (if (gi σ 101 14) = 1 then (if (lg_cmp (gl σ 101 19) x1) = 0 then P 1 σ else P 0 σ) else P 0 σ)
theorem s_X12_isWord {B : Nat} {E : Nat → List (Nat × Value) → List Value → Sto → Prop} {P : Int32 → Sto → Prop} (C : Cy B E RX12 cX12_isWord 3 (some .boolean) 0 0 (Zm (QFi P))) (x1 : Int64) (σ : Sto) (h : w_X12_isWord x1 σ P) : E 0 [(0, .ref (B + 101)), (1, .long x1)] [] σ := by
  unfold w_X12_isWord at h
  refine f_aload_n C (j := 0) dX12_isWord_0 rfl rfl rfl ?_
  refine f_geti C tF_X12_129 rfl o101 dX12_isWord_1 rfl ?_
  refine f_iconst C (v := 1) dX12_isWord_4 kc1 rfl ?_
  refine f_icmp_ne C (t := 21) dX12_isWord_5 (by decide) rfl (fun hq_1 => ?_) (fun hq_1 => ?_)
  · replace h := Eq.mp (if_neg hq_1) h
    refine f_iconst C (v := 0) dX12_isWord_21 kc0 rfl ?_
    exact f_zret C (Or.inl rfl) dX12_isWord_22 h
  · replace h := Eq.mp (if_pos hq_1) h
    refine f_aload_n C (j := 0) dX12_isWord_8 rfl rfl rfl ?_
    refine f_getl C tF_X12_135 rfl o101 dX12_isWord_9 rfl ?_
    refine f_lload_n C (j := 1) dX12_isWord_12 rfl rfl rfl ?_
    refine f_lcmp C dX12_isWord_13 rfl ?_
    refine f_if_ne C (t := 21) dX12_isWord_14 (by decide) rfl (fun hq_2 => ?_) (fun hq_2 => ?_)
    · replace h := Eq.mp (if_neg hq_2) h
      refine f_iconst C (v := 0) dX12_isWord_21 kc0 rfl ?_
      exact f_zret C (Or.inl rfl) dX12_isWord_22 h
    · replace h := Eq.mp (if_pos hq_2) h
      refine f_iconst C (v := 1) dX12_isWord_17 kc1 rfl ?_
      refine f_goto C (t := 22) dX12_isWord_18 (by decide) ?_
      exact f_zret C (Or.inr rfl) dX12_isWord_22 h
theorem c_X12_isWord (x1 : Int64) (σ : Sto) (P : Int32 → Sto → Prop) (h : w_X12_isWord x1 σ P) : Ct yX12_isWord cX12_isWord 3 (some .boolean) 0 0 (fun B => [.ref (B + 101), .long x1]) σ (QFi P) := Ct.of (by decide) (fun _ => Nat.le_of_ble_eq_true rfl) (fun B E C => s_X12_isWord C x1 σ h)
def w_X12_isThing (σ : Sto) (P : Int32 → Sto → Prop) : Prop :=
  w_X12_spelled 116 104 105 110 103 0 σ (fun r_2 σ_1 => w_X12_isWord r_2 σ_1 (fun r_4 σ_3 => (r_4 = 0 ∨ r_4 = 1) ∧ P r_4 σ_3))
theorem s_X12_isThing {B : Nat} {E : Nat → List (Nat × Value) → List Value → Sto → Prop} {P : Int32 → Sto → Prop} (C : Cy B E RX12 cX12_isThing 1 (some .boolean) 1 27 (Zm (QFi P))) (σ : Sto) (h : w_X12_isThing σ P) : E 0 [(0, .ref (B + 101))] [] σ := by
  unfold w_X12_isThing at h
  refine f_aload_n C (j := 0) dX12_isThing_0 rfl rfl rfl ?_
  refine f_bipush C (v := 116) dX12_isThing_1 kb116 rfl ?_
  refine f_bipush C (v := 104) dX12_isThing_3 kb104 rfl ?_
  refine f_bipush C (v := 105) dX12_isThing_5 kb105 rfl ?_
  refine f_bipush C (v := 110) dX12_isThing_7 kb110 rfl ?_
  refine f_bipush C (v := 103) dX12_isThing_9 kb103 rfl ?_
  refine f_iconst C (v := 0) dX12_isThing_11 kc0 rfl ?_
  refine f_callSl C (As := fun B => [.int 116, .int 104, .int 105, .int 110, .int 103, .int 0]) (c_X12_spelled  _ _ _ _ _ _ _ _ h) tM_X12_154 tT_X12_spelled tN_X12 tC_X12_spelled 6 dd_X12_spelled rfl (by decide) (by decide) rfl (Nat.le_of_ble_eq_true rfl) dX12_isThing_12 rfl (fun r_2 σ_1 h => ?_)
  refine f_callVi C (a := 101) (ci := 12) (As := fun B => [.long r_2]) o101 rfl (c_X12_isWord  _ _ _ h) tM_X12_158 tI_X12_isWord tS_X12_isWord tN_X12 tC_X12_isWord 1 dd_X12_isWord rfl (by decide) (by decide) rfl (Nat.le_of_ble_eq_true rfl) dX12_isThing_15 rfl (fun r_4 σ_3 h => ?_)
  obtain ⟨hb_5, h⟩ := h
  exact f_zret C hb_5 dX12_isThing_18 h
theorem c_X12_isThing (σ : Sto) (P : Int32 → Sto → Prop) (h : w_X12_isThing σ P) : Ct yX12_isThing cX12_isThing 1 (some .boolean) 1 27 (fun B => [.ref (B + 101)]) σ (QFi P) := Ct.of (by decide) (fun _ => Nat.le_of_ble_eq_true rfl) (fun B E C => s_X12_isThing C σ h)
def w_X12_isWorth (σ : Sto) (P : Int32 → Sto → Prop) : Prop :=
  w_X12_spelled 119 111 114 116 104 0 σ (fun r_2 σ_1 => w_X12_isWord r_2 σ_1 (fun r_4 σ_3 => (r_4 = 0 ∨ r_4 = 1) ∧ P r_4 σ_3))
theorem s_X12_isWorth {B : Nat} {E : Nat → List (Nat × Value) → List Value → Sto → Prop} {P : Int32 → Sto → Prop} (C : Cy B E RX12 cX12_isWorth 1 (some .boolean) 1 27 (Zm (QFi P))) (σ : Sto) (h : w_X12_isWorth σ P) : E 0 [(0, .ref (B + 101))] [] σ := by
  unfold w_X12_isWorth at h
  refine f_aload_n C (j := 0) dX12_isWorth_0 rfl rfl rfl ?_
  refine f_bipush C (v := 119) dX12_isWorth_1 kb119 rfl ?_
  refine f_bipush C (v := 111) dX12_isWorth_3 kb111 rfl ?_
  refine f_bipush C (v := 114) dX12_isWorth_5 kb114 rfl ?_
  refine f_bipush C (v := 116) dX12_isWorth_7 kb116 rfl ?_
  refine f_bipush C (v := 104) dX12_isWorth_9 kb104 rfl ?_
  refine f_iconst C (v := 0) dX12_isWorth_11 kc0 rfl ?_
  refine f_callSl C (As := fun B => [.int 119, .int 111, .int 114, .int 116, .int 104, .int 0]) (c_X12_spelled  _ _ _ _ _ _ _ _ h) tM_X12_154 tT_X12_spelled tN_X12 tC_X12_spelled 6 dd_X12_spelled rfl (by decide) (by decide) rfl (Nat.le_of_ble_eq_true rfl) dX12_isWorth_12 rfl (fun r_2 σ_1 h => ?_)
  refine f_callVi C (a := 101) (ci := 12) (As := fun B => [.long r_2]) o101 rfl (c_X12_isWord  _ _ _ h) tM_X12_158 tI_X12_isWord tS_X12_isWord tN_X12 tC_X12_isWord 1 dd_X12_isWord rfl (by decide) (by decide) rfl (Nat.le_of_ble_eq_true rfl) dX12_isWorth_15 rfl (fun r_4 σ_3 h => ?_)
  obtain ⟨hb_5, h⟩ := h
  exact f_zret C hb_5 dX12_isWorth_18 h
theorem c_X12_isWorth (σ : Sto) (P : Int32 → Sto → Prop) (h : w_X12_isWorth σ P) : Ct yX12_isWorth cX12_isWorth 1 (some .boolean) 1 27 (fun B => [.ref (B + 101)]) σ (QFi P) := Ct.of (by decide) (fun _ => Nat.le_of_ble_eq_true rfl) (fun B E C => s_X12_isWorth C σ h)
def w_X12_isExemptWord (σ : Sto) (P : Int32 → Sto → Prop) : Prop :=
  w_X12_spelled 101 120 101 109 112 116 σ (fun r_2 σ_1 => w_X12_isWord r_2 σ_1 (fun r_4 σ_3 => (r_4 = 0 ∨ r_4 = 1) ∧ P r_4 σ_3))
theorem s_X12_isExemptWord {B : Nat} {E : Nat → List (Nat × Value) → List Value → Sto → Prop} {P : Int32 → Sto → Prop} (C : Cy B E RX12 cX12_isExemptWord 1 (some .boolean) 1 27 (Zm (QFi P))) (σ : Sto) (h : w_X12_isExemptWord σ P) : E 0 [(0, .ref (B + 101))] [] σ := by
  unfold w_X12_isExemptWord at h
  refine f_aload_n C (j := 0) dX12_isExemptWord_0 rfl rfl rfl ?_
  refine f_bipush C (v := 101) dX12_isExemptWord_1 kb101 rfl ?_
  refine f_bipush C (v := 120) dX12_isExemptWord_3 kb120 rfl ?_
  refine f_bipush C (v := 101) dX12_isExemptWord_5 kb101 rfl ?_
  refine f_bipush C (v := 109) dX12_isExemptWord_7 kb109 rfl ?_
  refine f_bipush C (v := 112) dX12_isExemptWord_9 kb112 rfl ?_
  refine f_bipush C (v := 116) dX12_isExemptWord_11 kb116 rfl ?_
  refine f_callSl C (As := fun B => [.int 101, .int 120, .int 101, .int 109, .int 112, .int 116]) (c_X12_spelled  _ _ _ _ _ _ _ _ h) tM_X12_154 tT_X12_spelled tN_X12 tC_X12_spelled 6 dd_X12_spelled rfl (by decide) (by decide) rfl (Nat.le_of_ble_eq_true rfl) dX12_isExemptWord_13 rfl (fun r_2 σ_1 h => ?_)
  refine f_callVi C (a := 101) (ci := 12) (As := fun B => [.long r_2]) o101 rfl (c_X12_isWord  _ _ _ h) tM_X12_158 tI_X12_isWord tS_X12_isWord tN_X12 tC_X12_isWord 1 dd_X12_isWord rfl (by decide) (by decide) rfl (Nat.le_of_ble_eq_true rfl) dX12_isExemptWord_16 rfl (fun r_4 σ_3 h => ?_)
  obtain ⟨hb_5, h⟩ := h
  exact f_zret C hb_5 dX12_isExemptWord_19 h
theorem c_X12_isExemptWord (σ : Sto) (P : Int32 → Sto → Prop) (h : w_X12_isExemptWord σ P) : Ct yX12_isExemptWord cX12_isExemptWord 1 (some .boolean) 1 27 (fun B => [.ref (B + 101)]) σ (QFi P) := Ct.of (by decide) (fun _ => Nat.le_of_ble_eq_true rfl) (fun B E C => s_X12_isExemptWord C σ h)
def w_X12_isMakes (σ : Sto) (P : Int32 → Sto → Prop) : Prop :=
  w_X12_spelled 109 97 107 101 115 0 σ (fun r_2 σ_1 => w_X12_isWord r_2 σ_1 (fun r_4 σ_3 => (r_4 = 0 ∨ r_4 = 1) ∧ P r_4 σ_3))
theorem s_X12_isMakes {B : Nat} {E : Nat → List (Nat × Value) → List Value → Sto → Prop} {P : Int32 → Sto → Prop} (C : Cy B E RX12 cX12_isMakes 1 (some .boolean) 1 27 (Zm (QFi P))) (σ : Sto) (h : w_X12_isMakes σ P) : E 0 [(0, .ref (B + 101))] [] σ := by
  unfold w_X12_isMakes at h
  refine f_aload_n C (j := 0) dX12_isMakes_0 rfl rfl rfl ?_
  refine f_bipush C (v := 109) dX12_isMakes_1 kb109 rfl ?_
  refine f_bipush C (v := 97) dX12_isMakes_3 kb97 rfl ?_
  refine f_bipush C (v := 107) dX12_isMakes_5 kb107 rfl ?_
  refine f_bipush C (v := 101) dX12_isMakes_7 kb101 rfl ?_
  refine f_bipush C (v := 115) dX12_isMakes_9 kb115 rfl ?_
  refine f_iconst C (v := 0) dX12_isMakes_11 kc0 rfl ?_
  refine f_callSl C (As := fun B => [.int 109, .int 97, .int 107, .int 101, .int 115, .int 0]) (c_X12_spelled  _ _ _ _ _ _ _ _ h) tM_X12_154 tT_X12_spelled tN_X12 tC_X12_spelled 6 dd_X12_spelled rfl (by decide) (by decide) rfl (Nat.le_of_ble_eq_true rfl) dX12_isMakes_12 rfl (fun r_2 σ_1 h => ?_)
  refine f_callVi C (a := 101) (ci := 12) (As := fun B => [.long r_2]) o101 rfl (c_X12_isWord  _ _ _ h) tM_X12_158 tI_X12_isWord tS_X12_isWord tN_X12 tC_X12_isWord 1 dd_X12_isWord rfl (by decide) (by decide) rfl (Nat.le_of_ble_eq_true rfl) dX12_isMakes_15 rfl (fun r_4 σ_3 h => ?_)
  obtain ⟨hb_5, h⟩ := h
  exact f_zret C hb_5 dX12_isMakes_18 h
theorem c_X12_isMakes (σ : Sto) (P : Int32 → Sto → Prop) (h : w_X12_isMakes σ P) : Ct yX12_isMakes cX12_isMakes 1 (some .boolean) 1 27 (fun B => [.ref (B + 101)]) σ (QFi P) := Ct.of (by decide) (fun _ => Nat.le_of_ble_eq_true rfl) (fun B E C => s_X12_isMakes C σ h)
def w_X12_isFrom (σ : Sto) (P : Int32 → Sto → Prop) : Prop :=
  w_X12_spelled 102 114 111 109 0 0 σ (fun r_2 σ_1 => w_X12_isWord r_2 σ_1 (fun r_4 σ_3 => (r_4 = 0 ∨ r_4 = 1) ∧ P r_4 σ_3))
theorem s_X12_isFrom {B : Nat} {E : Nat → List (Nat × Value) → List Value → Sto → Prop} {P : Int32 → Sto → Prop} (C : Cy B E RX12 cX12_isFrom 1 (some .boolean) 1 27 (Zm (QFi P))) (σ : Sto) (h : w_X12_isFrom σ P) : E 0 [(0, .ref (B + 101))] [] σ := by
  unfold w_X12_isFrom at h
  refine f_aload_n C (j := 0) dX12_isFrom_0 rfl rfl rfl ?_
  refine f_bipush C (v := 102) dX12_isFrom_1 kb102 rfl ?_
  refine f_bipush C (v := 114) dX12_isFrom_3 kb114 rfl ?_
  refine f_bipush C (v := 111) dX12_isFrom_5 kb111 rfl ?_
  refine f_bipush C (v := 109) dX12_isFrom_7 kb109 rfl ?_
  refine f_iconst C (v := 0) dX12_isFrom_9 kc0 rfl ?_
  refine f_iconst C (v := 0) dX12_isFrom_10 kc0 rfl ?_
  refine f_callSl C (As := fun B => [.int 102, .int 114, .int 111, .int 109, .int 0, .int 0]) (c_X12_spelled  _ _ _ _ _ _ _ _ h) tM_X12_154 tT_X12_spelled tN_X12 tC_X12_spelled 6 dd_X12_spelled rfl (by decide) (by decide) rfl (Nat.le_of_ble_eq_true rfl) dX12_isFrom_11 rfl (fun r_2 σ_1 h => ?_)
  refine f_callVi C (a := 101) (ci := 12) (As := fun B => [.long r_2]) o101 rfl (c_X12_isWord  _ _ _ h) tM_X12_158 tI_X12_isWord tS_X12_isWord tN_X12 tC_X12_isWord 1 dd_X12_isWord rfl (by decide) (by decide) rfl (Nat.le_of_ble_eq_true rfl) dX12_isFrom_14 rfl (fun r_4 σ_3 h => ?_)
  obtain ⟨hb_5, h⟩ := h
  exact f_zret C hb_5 dX12_isFrom_17 h
theorem c_X12_isFrom (σ : Sto) (P : Int32 → Sto → Prop) (h : w_X12_isFrom σ P) : Ct yX12_isFrom cX12_isFrom 1 (some .boolean) 1 27 (fun B => [.ref (B + 101)]) σ (QFi P) := Ct.of (by decide) (fun _ => Nat.le_of_ble_eq_true rfl) (fun B E C => s_X12_isFrom C σ h)
def w_X12_isWork (σ : Sto) (P : Int32 → Sto → Prop) : Prop :=
  w_X12_spelled 119 111 114 107 0 0 σ (fun r_2 σ_1 => w_X12_isWord r_2 σ_1 (fun r_4 σ_3 => (r_4 = 0 ∨ r_4 = 1) ∧ P r_4 σ_3))
theorem s_X12_isWork {B : Nat} {E : Nat → List (Nat × Value) → List Value → Sto → Prop} {P : Int32 → Sto → Prop} (C : Cy B E RX12 cX12_isWork 1 (some .boolean) 1 27 (Zm (QFi P))) (σ : Sto) (h : w_X12_isWork σ P) : E 0 [(0, .ref (B + 101))] [] σ := by
  unfold w_X12_isWork at h
  refine f_aload_n C (j := 0) dX12_isWork_0 rfl rfl rfl ?_
  refine f_bipush C (v := 119) dX12_isWork_1 kb119 rfl ?_
  refine f_bipush C (v := 111) dX12_isWork_3 kb111 rfl ?_
  refine f_bipush C (v := 114) dX12_isWork_5 kb114 rfl ?_
  refine f_bipush C (v := 107) dX12_isWork_7 kb107 rfl ?_
  refine f_iconst C (v := 0) dX12_isWork_9 kc0 rfl ?_
  refine f_iconst C (v := 0) dX12_isWork_10 kc0 rfl ?_
  refine f_callSl C (As := fun B => [.int 119, .int 111, .int 114, .int 107, .int 0, .int 0]) (c_X12_spelled  _ _ _ _ _ _ _ _ h) tM_X12_154 tT_X12_spelled tN_X12 tC_X12_spelled 6 dd_X12_spelled rfl (by decide) (by decide) rfl (Nat.le_of_ble_eq_true rfl) dX12_isWork_11 rfl (fun r_2 σ_1 h => ?_)
  refine f_callVi C (a := 101) (ci := 12) (As := fun B => [.long r_2]) o101 rfl (c_X12_isWord  _ _ _ h) tM_X12_158 tI_X12_isWord tS_X12_isWord tN_X12 tC_X12_isWord 1 dd_X12_isWord rfl (by decide) (by decide) rfl (Nat.le_of_ble_eq_true rfl) dX12_isWork_14 rfl (fun r_4 σ_3 h => ?_)
  obtain ⟨hb_5, h⟩ := h
  exact f_zret C hb_5 dX12_isWork_17 h
theorem c_X12_isWork (σ : Sto) (P : Int32 → Sto → Prop) (h : w_X12_isWork σ P) : Ct yX12_isWork cX12_isWork 1 (some .boolean) 1 27 (fun B => [.ref (B + 101)]) σ (QFi P) := Ct.of (by decide) (fun _ => Nat.le_of_ble_eq_true rfl) (fun B E C => s_X12_isWork C σ h)
def w_X12_isNeeds (σ : Sto) (P : Int32 → Sto → Prop) : Prop :=
  w_X12_spelled 110 101 101 100 115 0 σ (fun r_2 σ_1 => w_X12_isWord r_2 σ_1 (fun r_4 σ_3 => (r_4 = 0 ∨ r_4 = 1) ∧ P r_4 σ_3))
theorem s_X12_isNeeds {B : Nat} {E : Nat → List (Nat × Value) → List Value → Sto → Prop} {P : Int32 → Sto → Prop} (C : Cy B E RX12 cX12_isNeeds 1 (some .boolean) 1 27 (Zm (QFi P))) (σ : Sto) (h : w_X12_isNeeds σ P) : E 0 [(0, .ref (B + 101))] [] σ := by
  unfold w_X12_isNeeds at h
  refine f_aload_n C (j := 0) dX12_isNeeds_0 rfl rfl rfl ?_
  refine f_bipush C (v := 110) dX12_isNeeds_1 kb110 rfl ?_
  refine f_bipush C (v := 101) dX12_isNeeds_3 kb101 rfl ?_
  refine f_bipush C (v := 101) dX12_isNeeds_5 kb101 rfl ?_
  refine f_bipush C (v := 100) dX12_isNeeds_7 kb100 rfl ?_
  refine f_bipush C (v := 115) dX12_isNeeds_9 kb115 rfl ?_
  refine f_iconst C (v := 0) dX12_isNeeds_11 kc0 rfl ?_
  refine f_callSl C (As := fun B => [.int 110, .int 101, .int 101, .int 100, .int 115, .int 0]) (c_X12_spelled  _ _ _ _ _ _ _ _ h) tM_X12_154 tT_X12_spelled tN_X12 tC_X12_spelled 6 dd_X12_spelled rfl (by decide) (by decide) rfl (Nat.le_of_ble_eq_true rfl) dX12_isNeeds_12 rfl (fun r_2 σ_1 h => ?_)
  refine f_callVi C (a := 101) (ci := 12) (As := fun B => [.long r_2]) o101 rfl (c_X12_isWord  _ _ _ h) tM_X12_158 tI_X12_isWord tS_X12_isWord tN_X12 tC_X12_isWord 1 dd_X12_isWord rfl (by decide) (by decide) rfl (Nat.le_of_ble_eq_true rfl) dX12_isNeeds_15 rfl (fun r_4 σ_3 h => ?_)
  obtain ⟨hb_5, h⟩ := h
  exact f_zret C hb_5 dX12_isNeeds_18 h
theorem c_X12_isNeeds (σ : Sto) (P : Int32 → Sto → Prop) (h : w_X12_isNeeds σ P) : Ct yX12_isNeeds cX12_isNeeds 1 (some .boolean) 1 27 (fun B => [.ref (B + 101)]) σ (QFi P) := Ct.of (by decide) (fun _ => Nat.le_of_ble_eq_true rfl) (fun B E C => s_X12_isNeeds C σ h)
def w_X12_isVoter (σ : Sto) (P : Int32 → Sto → Prop) : Prop :=
  w_X12_spelled 118 111 116 101 114 0 σ (fun r_2 σ_1 => w_X12_isWord r_2 σ_1 (fun r_4 σ_3 => (r_4 = 0 ∨ r_4 = 1) ∧ P r_4 σ_3))
theorem s_X12_isVoter {B : Nat} {E : Nat → List (Nat × Value) → List Value → Sto → Prop} {P : Int32 → Sto → Prop} (C : Cy B E RX12 cX12_isVoter 1 (some .boolean) 1 27 (Zm (QFi P))) (σ : Sto) (h : w_X12_isVoter σ P) : E 0 [(0, .ref (B + 101))] [] σ := by
  unfold w_X12_isVoter at h
  refine f_aload_n C (j := 0) dX12_isVoter_0 rfl rfl rfl ?_
  refine f_bipush C (v := 118) dX12_isVoter_1 kb118 rfl ?_
  refine f_bipush C (v := 111) dX12_isVoter_3 kb111 rfl ?_
  refine f_bipush C (v := 116) dX12_isVoter_5 kb116 rfl ?_
  refine f_bipush C (v := 101) dX12_isVoter_7 kb101 rfl ?_
  refine f_bipush C (v := 114) dX12_isVoter_9 kb114 rfl ?_
  refine f_iconst C (v := 0) dX12_isVoter_11 kc0 rfl ?_
  refine f_callSl C (As := fun B => [.int 118, .int 111, .int 116, .int 101, .int 114, .int 0]) (c_X12_spelled  _ _ _ _ _ _ _ _ h) tM_X12_154 tT_X12_spelled tN_X12 tC_X12_spelled 6 dd_X12_spelled rfl (by decide) (by decide) rfl (Nat.le_of_ble_eq_true rfl) dX12_isVoter_12 rfl (fun r_2 σ_1 h => ?_)
  refine f_callVi C (a := 101) (ci := 12) (As := fun B => [.long r_2]) o101 rfl (c_X12_isWord  _ _ _ h) tM_X12_158 tI_X12_isWord tS_X12_isWord tN_X12 tC_X12_isWord 1 dd_X12_isWord rfl (by decide) (by decide) rfl (Nat.le_of_ble_eq_true rfl) dX12_isVoter_15 rfl (fun r_4 σ_3 h => ?_)
  obtain ⟨hb_5, h⟩ := h
  exact f_zret C hb_5 dX12_isVoter_18 h
theorem c_X12_isVoter (σ : Sto) (P : Int32 → Sto → Prop) (h : w_X12_isVoter σ P) : Ct yX12_isVoter cX12_isVoter 1 (some .boolean) 1 27 (fun B => [.ref (B + 101)]) σ (QFi P) := Ct.of (by decide) (fun _ => Nat.le_of_ble_eq_true rfl) (fun B E C => s_X12_isVoter C σ h)
def w_X12_isHates (σ : Sto) (P : Int32 → Sto → Prop) : Prop :=
  w_X12_spelled 104 97 116 101 115 0 σ (fun r_2 σ_1 => w_X12_isWord r_2 σ_1 (fun r_4 σ_3 => (r_4 = 0 ∨ r_4 = 1) ∧ P r_4 σ_3))
theorem s_X12_isHates {B : Nat} {E : Nat → List (Nat × Value) → List Value → Sto → Prop} {P : Int32 → Sto → Prop} (C : Cy B E RX12 cX12_isHates 1 (some .boolean) 1 27 (Zm (QFi P))) (σ : Sto) (h : w_X12_isHates σ P) : E 0 [(0, .ref (B + 101))] [] σ := by
  unfold w_X12_isHates at h
  refine f_aload_n C (j := 0) dX12_isHates_0 rfl rfl rfl ?_
  refine f_bipush C (v := 104) dX12_isHates_1 kb104 rfl ?_
  refine f_bipush C (v := 97) dX12_isHates_3 kb97 rfl ?_
  refine f_bipush C (v := 116) dX12_isHates_5 kb116 rfl ?_
  refine f_bipush C (v := 101) dX12_isHates_7 kb101 rfl ?_
  refine f_bipush C (v := 115) dX12_isHates_9 kb115 rfl ?_
  refine f_iconst C (v := 0) dX12_isHates_11 kc0 rfl ?_
  refine f_callSl C (As := fun B => [.int 104, .int 97, .int 116, .int 101, .int 115, .int 0]) (c_X12_spelled  _ _ _ _ _ _ _ _ h) tM_X12_154 tT_X12_spelled tN_X12 tC_X12_spelled 6 dd_X12_spelled rfl (by decide) (by decide) rfl (Nat.le_of_ble_eq_true rfl) dX12_isHates_12 rfl (fun r_2 σ_1 h => ?_)
  refine f_callVi C (a := 101) (ci := 12) (As := fun B => [.long r_2]) o101 rfl (c_X12_isWord  _ _ _ h) tM_X12_158 tI_X12_isWord tS_X12_isWord tN_X12 tC_X12_isWord 1 dd_X12_isWord rfl (by decide) (by decide) rfl (Nat.le_of_ble_eq_true rfl) dX12_isHates_15 rfl (fun r_4 σ_3 h => ?_)
  obtain ⟨hb_5, h⟩ := h
  exact f_zret C hb_5 dX12_isHates_18 h
theorem c_X12_isHates (σ : Sto) (P : Int32 → Sto → Prop) (h : w_X12_isHates σ P) : Ct yX12_isHates cX12_isHates 1 (some .boolean) 1 27 (fun B => [.ref (B + 101)]) σ (QFi P) := Ct.of (by decide) (fun _ => Nat.le_of_ble_eq_true rfl) (fun B E C => s_X12_isHates C σ h)
def w_X12_isAhead (σ : Sto) (P : Int32 → Sto → Prop) : Prop :=
  w_X12_spelled 97 104 101 97 100 0 σ (fun r_2 σ_1 => w_X12_isWord r_2 σ_1 (fun r_4 σ_3 => (r_4 = 0 ∨ r_4 = 1) ∧ P r_4 σ_3))
theorem s_X12_isAhead {B : Nat} {E : Nat → List (Nat × Value) → List Value → Sto → Prop} {P : Int32 → Sto → Prop} (C : Cy B E RX12 cX12_isAhead 1 (some .boolean) 1 27 (Zm (QFi P))) (σ : Sto) (h : w_X12_isAhead σ P) : E 0 [(0, .ref (B + 101))] [] σ := by
  unfold w_X12_isAhead at h
  refine f_aload_n C (j := 0) dX12_isAhead_0 rfl rfl rfl ?_
  refine f_bipush C (v := 97) dX12_isAhead_1 kb97 rfl ?_
  refine f_bipush C (v := 104) dX12_isAhead_3 kb104 rfl ?_
  refine f_bipush C (v := 101) dX12_isAhead_5 kb101 rfl ?_
  refine f_bipush C (v := 97) dX12_isAhead_7 kb97 rfl ?_
  refine f_bipush C (v := 100) dX12_isAhead_9 kb100 rfl ?_
  refine f_iconst C (v := 0) dX12_isAhead_11 kc0 rfl ?_
  refine f_callSl C (As := fun B => [.int 97, .int 104, .int 101, .int 97, .int 100, .int 0]) (c_X12_spelled  _ _ _ _ _ _ _ _ h) tM_X12_154 tT_X12_spelled tN_X12 tC_X12_spelled 6 dd_X12_spelled rfl (by decide) (by decide) rfl (Nat.le_of_ble_eq_true rfl) dX12_isAhead_12 rfl (fun r_2 σ_1 h => ?_)
  refine f_callVi C (a := 101) (ci := 12) (As := fun B => [.long r_2]) o101 rfl (c_X12_isWord  _ _ _ h) tM_X12_158 tI_X12_isWord tS_X12_isWord tN_X12 tC_X12_isWord 1 dd_X12_isWord rfl (by decide) (by decide) rfl (Nat.le_of_ble_eq_true rfl) dX12_isAhead_15 rfl (fun r_4 σ_3 h => ?_)
  obtain ⟨hb_5, h⟩ := h
  exact f_zret C hb_5 dX12_isAhead_18 h
theorem c_X12_isAhead (σ : Sto) (P : Int32 → Sto → Prop) (h : w_X12_isAhead σ P) : Ct yX12_isAhead cX12_isAhead 1 (some .boolean) 1 27 (fun B => [.ref (B + 101)]) σ (QFi P) := Ct.of (by decide) (fun _ => Nat.le_of_ble_eq_true rfl) (fun B E C => s_X12_isAhead C σ h)
def w_X12_isLaw (σ : Sto) (P : Int32 → Sto → Prop) : Prop :=
  w_X12_spelled 108 97 119 0 0 0 σ (fun r_2 σ_1 => w_X12_isWord r_2 σ_1 (fun r_4 σ_3 => (r_4 = 0 ∨ r_4 = 1) ∧ P r_4 σ_3))
theorem s_X12_isLaw {B : Nat} {E : Nat → List (Nat × Value) → List Value → Sto → Prop} {P : Int32 → Sto → Prop} (C : Cy B E RX12 cX12_isLaw 1 (some .boolean) 1 27 (Zm (QFi P))) (σ : Sto) (h : w_X12_isLaw σ P) : E 0 [(0, .ref (B + 101))] [] σ := by
  unfold w_X12_isLaw at h
  refine f_aload_n C (j := 0) dX12_isLaw_0 rfl rfl rfl ?_
  refine f_bipush C (v := 108) dX12_isLaw_1 kb108 rfl ?_
  refine f_bipush C (v := 97) dX12_isLaw_3 kb97 rfl ?_
  refine f_bipush C (v := 119) dX12_isLaw_5 kb119 rfl ?_
  refine f_iconst C (v := 0) dX12_isLaw_7 kc0 rfl ?_
  refine f_iconst C (v := 0) dX12_isLaw_8 kc0 rfl ?_
  refine f_iconst C (v := 0) dX12_isLaw_9 kc0 rfl ?_
  refine f_callSl C (As := fun B => [.int 108, .int 97, .int 119, .int 0, .int 0, .int 0]) (c_X12_spelled  _ _ _ _ _ _ _ _ h) tM_X12_154 tT_X12_spelled tN_X12 tC_X12_spelled 6 dd_X12_spelled rfl (by decide) (by decide) rfl (Nat.le_of_ble_eq_true rfl) dX12_isLaw_10 rfl (fun r_2 σ_1 h => ?_)
  refine f_callVi C (a := 101) (ci := 12) (As := fun B => [.long r_2]) o101 rfl (c_X12_isWord  _ _ _ h) tM_X12_158 tI_X12_isWord tS_X12_isWord tN_X12 tC_X12_isWord 1 dd_X12_isWord rfl (by decide) (by decide) rfl (Nat.le_of_ble_eq_true rfl) dX12_isLaw_13 rfl (fun r_4 σ_3 h => ?_)
  obtain ⟨hb_5, h⟩ := h
  exact f_zret C hb_5 dX12_isLaw_16 h
theorem c_X12_isLaw (σ : Sto) (P : Int32 → Sto → Prop) (h : w_X12_isLaw σ P) : Ct yX12_isLaw cX12_isLaw 1 (some .boolean) 1 27 (fun B => [.ref (B + 101)]) σ (QFi P) := Ct.of (by decide) (fun _ => Nat.le_of_ble_eq_true rfl) (fun B E C => s_X12_isLaw C σ h)
def w_X12_stepWord (σ : Sto) (P : Int32 → Sto → Prop) : Prop :=
  w_X12_spelled 121 101 97 114 0 0 σ (fun r_2 σ_1 => w_X12_isWord r_2 σ_1 (fun r_4 σ_3 => (if r_4 = 0 then w_X12_spelled 117 110 109 97 107 101 σ_3 (fun r_7 σ_6 => w_X12_isWord r_7 σ_6 (fun r_9 σ_8 => (if r_9 = 0 then w_X12_spelled 114 101 109 97 107 101 σ_8 (fun r_12 σ_11 => w_X12_isWord r_12 σ_11 (fun r_14 σ_13 => (if r_14 = 0 then w_X12_spelled 115 112 97 114 101 0 σ_13 (fun r_17 σ_16 => w_X12_isWord r_17 σ_16 (fun r_19 σ_18 => (if r_19 = 0 then w_X12_spelled 106 111 107 101 0 0 σ_18 (fun r_22 σ_21 => w_X12_isWord r_22 σ_21 (fun r_24 σ_23 => (if r_24 = 0 then w_X12_spelled 119 104 101 110 0 0 σ_23 (fun r_27 σ_26 => w_X12_isWord r_27 σ_26 (fun r_29 σ_28 => (if r_29 = 0 then w_X12_spelled 108 111 111 112 0 0 σ_28 (fun r_32 σ_31 => w_X12_isWord r_32 σ_31 (fun r_34 σ_33 => (if r_34 = 0 then w_X12_spelled 115 116 111 112 0 0 σ_33 (fun r_37 σ_36 => w_X12_isWord r_37 σ_36 (fun r_39 σ_38 => (if r_39 = 0 then P (-1) σ_38 else P 7 σ_38))) else P 6 σ_33))) else P 5 σ_28))) else P 4 σ_23))) else P 3 σ_18))) else P 2 σ_13))) else P 1 σ_8))) else P 0 σ_3)))
theorem s_X12_stepWord {B : Nat} {E : Nat → List (Nat × Value) → List Value → Sto → Prop} {P : Int32 → Sto → Prop} (C : Cy B E RX12 cX12_stepWord 1 (some .int) 1 27 (Zm (QFi P))) (σ : Sto) (h : w_X12_stepWord σ P) : E 0 [(0, .ref (B + 101))] [] σ := by
  unfold w_X12_stepWord at h
  refine f_aload_n C (j := 0) dX12_stepWord_0 rfl rfl rfl ?_
  refine f_bipush C (v := 121) dX12_stepWord_1 kb121 rfl ?_
  refine f_bipush C (v := 101) dX12_stepWord_3 kb101 rfl ?_
  refine f_bipush C (v := 97) dX12_stepWord_5 kb97 rfl ?_
  refine f_bipush C (v := 114) dX12_stepWord_7 kb114 rfl ?_
  refine f_iconst C (v := 0) dX12_stepWord_9 kc0 rfl ?_
  refine f_iconst C (v := 0) dX12_stepWord_10 kc0 rfl ?_
  refine f_callSl C (As := fun B => [.int 121, .int 101, .int 97, .int 114, .int 0, .int 0]) (c_X12_spelled  _ _ _ _ _ _ _ _ h) tM_X12_154 tT_X12_spelled tN_X12 tC_X12_spelled 6 dd_X12_spelled rfl (by decide) (by decide) rfl (Nat.le_of_ble_eq_true rfl) dX12_stepWord_11 rfl (fun r_2 σ_1 h => ?_)
  refine f_callVi C (a := 101) (ci := 12) (As := fun B => [.long r_2]) o101 rfl (c_X12_isWord  _ _ _ h) tM_X12_158 tI_X12_isWord tS_X12_isWord tN_X12 tC_X12_isWord 1 dd_X12_isWord rfl (by decide) (by decide) rfl (Nat.le_of_ble_eq_true rfl) dX12_stepWord_14 rfl (fun r_4 σ_3 h => ?_)
  refine f_if_eq C (t := 22) dX12_stepWord_17 (by decide) rfl (fun hq_5 => ?_) (fun hq_5 => ?_)
  · replace h := Eq.mp (if_pos hq_5) h
    refine f_aload_n C (j := 0) dX12_stepWord_22 rfl rfl rfl ?_
    refine f_bipush C (v := 117) dX12_stepWord_23 kb117 rfl ?_
    refine f_bipush C (v := 110) dX12_stepWord_25 kb110 rfl ?_
    refine f_bipush C (v := 109) dX12_stepWord_27 kb109 rfl ?_
    refine f_bipush C (v := 97) dX12_stepWord_29 kb97 rfl ?_
    refine f_bipush C (v := 107) dX12_stepWord_31 kb107 rfl ?_
    refine f_bipush C (v := 101) dX12_stepWord_33 kb101 rfl ?_
    refine f_callSl C (As := fun B => [.int 117, .int 110, .int 109, .int 97, .int 107, .int 101]) (c_X12_spelled  _ _ _ _ _ _ _ _ h) tM_X12_154 tT_X12_spelled tN_X12 tC_X12_spelled 6 dd_X12_spelled rfl (by decide) (by decide) rfl (Nat.le_of_ble_eq_true rfl) dX12_stepWord_35 rfl (fun r_7 σ_6 h => ?_)
    refine f_callVi C (a := 101) (ci := 12) (As := fun B => [.long r_7]) o101 rfl (c_X12_isWord  _ _ _ h) tM_X12_158 tI_X12_isWord tS_X12_isWord tN_X12 tC_X12_isWord 1 dd_X12_isWord rfl (by decide) (by decide) rfl (Nat.le_of_ble_eq_true rfl) dX12_stepWord_38 rfl (fun r_9 σ_8 h => ?_)
    refine f_if_eq C (t := 46) dX12_stepWord_41 (by decide) rfl (fun hq_10 => ?_) (fun hq_10 => ?_)
    · replace h := Eq.mp (if_pos hq_10) h
      refine f_aload_n C (j := 0) dX12_stepWord_46 rfl rfl rfl ?_
      refine f_bipush C (v := 114) dX12_stepWord_47 kb114 rfl ?_
      refine f_bipush C (v := 101) dX12_stepWord_49 kb101 rfl ?_
      refine f_bipush C (v := 109) dX12_stepWord_51 kb109 rfl ?_
      refine f_bipush C (v := 97) dX12_stepWord_53 kb97 rfl ?_
      refine f_bipush C (v := 107) dX12_stepWord_55 kb107 rfl ?_
      refine f_bipush C (v := 101) dX12_stepWord_57 kb101 rfl ?_
      refine f_callSl C (As := fun B => [.int 114, .int 101, .int 109, .int 97, .int 107, .int 101]) (c_X12_spelled  _ _ _ _ _ _ _ _ h) tM_X12_154 tT_X12_spelled tN_X12 tC_X12_spelled 6 dd_X12_spelled rfl (by decide) (by decide) rfl (Nat.le_of_ble_eq_true rfl) dX12_stepWord_59 rfl (fun r_12 σ_11 h => ?_)
      refine f_callVi C (a := 101) (ci := 12) (As := fun B => [.long r_12]) o101 rfl (c_X12_isWord  _ _ _ h) tM_X12_158 tI_X12_isWord tS_X12_isWord tN_X12 tC_X12_isWord 1 dd_X12_isWord rfl (by decide) (by decide) rfl (Nat.le_of_ble_eq_true rfl) dX12_stepWord_62 rfl (fun r_14 σ_13 h => ?_)
      refine f_if_eq C (t := 70) dX12_stepWord_65 (by decide) rfl (fun hq_15 => ?_) (fun hq_15 => ?_)
      · replace h := Eq.mp (if_pos hq_15) h
        refine f_aload_n C (j := 0) dX12_stepWord_70 rfl rfl rfl ?_
        refine f_bipush C (v := 115) dX12_stepWord_71 kb115 rfl ?_
        refine f_bipush C (v := 112) dX12_stepWord_73 kb112 rfl ?_
        refine f_bipush C (v := 97) dX12_stepWord_75 kb97 rfl ?_
        refine f_bipush C (v := 114) dX12_stepWord_77 kb114 rfl ?_
        refine f_bipush C (v := 101) dX12_stepWord_79 kb101 rfl ?_
        refine f_iconst C (v := 0) dX12_stepWord_81 kc0 rfl ?_
        refine f_callSl C (As := fun B => [.int 115, .int 112, .int 97, .int 114, .int 101, .int 0]) (c_X12_spelled  _ _ _ _ _ _ _ _ h) tM_X12_154 tT_X12_spelled tN_X12 tC_X12_spelled 6 dd_X12_spelled rfl (by decide) (by decide) rfl (Nat.le_of_ble_eq_true rfl) dX12_stepWord_82 rfl (fun r_17 σ_16 h => ?_)
        refine f_callVi C (a := 101) (ci := 12) (As := fun B => [.long r_17]) o101 rfl (c_X12_isWord  _ _ _ h) tM_X12_158 tI_X12_isWord tS_X12_isWord tN_X12 tC_X12_isWord 1 dd_X12_isWord rfl (by decide) (by decide) rfl (Nat.le_of_ble_eq_true rfl) dX12_stepWord_85 rfl (fun r_19 σ_18 h => ?_)
        refine f_if_eq C (t := 93) dX12_stepWord_88 (by decide) rfl (fun hq_20 => ?_) (fun hq_20 => ?_)
        · replace h := Eq.mp (if_pos hq_20) h
          refine f_aload_n C (j := 0) dX12_stepWord_93 rfl rfl rfl ?_
          refine f_bipush C (v := 106) dX12_stepWord_94 kb106 rfl ?_
          refine f_bipush C (v := 111) dX12_stepWord_96 kb111 rfl ?_
          refine f_bipush C (v := 107) dX12_stepWord_98 kb107 rfl ?_
          refine f_bipush C (v := 101) dX12_stepWord_100 kb101 rfl ?_
          refine f_iconst C (v := 0) dX12_stepWord_102 kc0 rfl ?_
          refine f_iconst C (v := 0) dX12_stepWord_103 kc0 rfl ?_
          refine f_callSl C (As := fun B => [.int 106, .int 111, .int 107, .int 101, .int 0, .int 0]) (c_X12_spelled  _ _ _ _ _ _ _ _ h) tM_X12_154 tT_X12_spelled tN_X12 tC_X12_spelled 6 dd_X12_spelled rfl (by decide) (by decide) rfl (Nat.le_of_ble_eq_true rfl) dX12_stepWord_104 rfl (fun r_22 σ_21 h => ?_)
          refine f_callVi C (a := 101) (ci := 12) (As := fun B => [.long r_22]) o101 rfl (c_X12_isWord  _ _ _ h) tM_X12_158 tI_X12_isWord tS_X12_isWord tN_X12 tC_X12_isWord 1 dd_X12_isWord rfl (by decide) (by decide) rfl (Nat.le_of_ble_eq_true rfl) dX12_stepWord_107 rfl (fun r_24 σ_23 h => ?_)
          refine f_if_eq C (t := 115) dX12_stepWord_110 (by decide) rfl (fun hq_25 => ?_) (fun hq_25 => ?_)
          · replace h := Eq.mp (if_pos hq_25) h
            refine f_aload_n C (j := 0) dX12_stepWord_115 rfl rfl rfl ?_
            refine f_bipush C (v := 119) dX12_stepWord_116 kb119 rfl ?_
            refine f_bipush C (v := 104) dX12_stepWord_118 kb104 rfl ?_
            refine f_bipush C (v := 101) dX12_stepWord_120 kb101 rfl ?_
            refine f_bipush C (v := 110) dX12_stepWord_122 kb110 rfl ?_
            refine f_iconst C (v := 0) dX12_stepWord_124 kc0 rfl ?_
            refine f_iconst C (v := 0) dX12_stepWord_125 kc0 rfl ?_
            refine f_callSl C (As := fun B => [.int 119, .int 104, .int 101, .int 110, .int 0, .int 0]) (c_X12_spelled  _ _ _ _ _ _ _ _ h) tM_X12_154 tT_X12_spelled tN_X12 tC_X12_spelled 6 dd_X12_spelled rfl (by decide) (by decide) rfl (Nat.le_of_ble_eq_true rfl) dX12_stepWord_126 rfl (fun r_27 σ_26 h => ?_)
            refine f_callVi C (a := 101) (ci := 12) (As := fun B => [.long r_27]) o101 rfl (c_X12_isWord  _ _ _ h) tM_X12_158 tI_X12_isWord tS_X12_isWord tN_X12 tC_X12_isWord 1 dd_X12_isWord rfl (by decide) (by decide) rfl (Nat.le_of_ble_eq_true rfl) dX12_stepWord_129 rfl (fun r_29 σ_28 h => ?_)
            refine f_if_eq C (t := 137) dX12_stepWord_132 (by decide) rfl (fun hq_30 => ?_) (fun hq_30 => ?_)
            · replace h := Eq.mp (if_pos hq_30) h
              refine f_aload_n C (j := 0) dX12_stepWord_137 rfl rfl rfl ?_
              refine f_bipush C (v := 108) dX12_stepWord_138 kb108 rfl ?_
              refine f_bipush C (v := 111) dX12_stepWord_140 kb111 rfl ?_
              refine f_bipush C (v := 111) dX12_stepWord_142 kb111 rfl ?_
              refine f_bipush C (v := 112) dX12_stepWord_144 kb112 rfl ?_
              refine f_iconst C (v := 0) dX12_stepWord_146 kc0 rfl ?_
              refine f_iconst C (v := 0) dX12_stepWord_147 kc0 rfl ?_
              refine f_callSl C (As := fun B => [.int 108, .int 111, .int 111, .int 112, .int 0, .int 0]) (c_X12_spelled  _ _ _ _ _ _ _ _ h) tM_X12_154 tT_X12_spelled tN_X12 tC_X12_spelled 6 dd_X12_spelled rfl (by decide) (by decide) rfl (Nat.le_of_ble_eq_true rfl) dX12_stepWord_148 rfl (fun r_32 σ_31 h => ?_)
              refine f_callVi C (a := 101) (ci := 12) (As := fun B => [.long r_32]) o101 rfl (c_X12_isWord  _ _ _ h) tM_X12_158 tI_X12_isWord tS_X12_isWord tN_X12 tC_X12_isWord 1 dd_X12_isWord rfl (by decide) (by decide) rfl (Nat.le_of_ble_eq_true rfl) dX12_stepWord_151 rfl (fun r_34 σ_33 h => ?_)
              refine f_if_eq C (t := 160) dX12_stepWord_154 (by decide) rfl (fun hq_35 => ?_) (fun hq_35 => ?_)
              · replace h := Eq.mp (if_pos hq_35) h
                refine f_aload_n C (j := 0) dX12_stepWord_160 rfl rfl rfl ?_
                refine f_bipush C (v := 115) dX12_stepWord_161 kb115 rfl ?_
                refine f_bipush C (v := 116) dX12_stepWord_163 kb116 rfl ?_
                refine f_bipush C (v := 111) dX12_stepWord_165 kb111 rfl ?_
                refine f_bipush C (v := 112) dX12_stepWord_167 kb112 rfl ?_
                refine f_iconst C (v := 0) dX12_stepWord_169 kc0 rfl ?_
                refine f_iconst C (v := 0) dX12_stepWord_170 kc0 rfl ?_
                refine f_callSl C (As := fun B => [.int 115, .int 116, .int 111, .int 112, .int 0, .int 0]) (c_X12_spelled  _ _ _ _ _ _ _ _ h) tM_X12_154 tT_X12_spelled tN_X12 tC_X12_spelled 6 dd_X12_spelled rfl (by decide) (by decide) rfl (Nat.le_of_ble_eq_true rfl) dX12_stepWord_171 rfl (fun r_37 σ_36 h => ?_)
                refine f_callVi C (a := 101) (ci := 12) (As := fun B => [.long r_37]) o101 rfl (c_X12_isWord  _ _ _ h) tM_X12_158 tI_X12_isWord tS_X12_isWord tN_X12 tC_X12_isWord 1 dd_X12_isWord rfl (by decide) (by decide) rfl (Nat.le_of_ble_eq_true rfl) dX12_stepWord_174 rfl (fun r_39 σ_38 h => ?_)
                refine f_if_eq C (t := 185) dX12_stepWord_177 (by decide) rfl (fun hq_40 => ?_) (fun hq_40 => ?_)
                · replace h := Eq.mp (if_pos hq_40) h
                  refine f_iconst C (v := (-1)) dX12_stepWord_185 kcm1 rfl ?_
                  exact f_iret C dX12_stepWord_186 h
                · replace h := Eq.mp (if_neg hq_40) h
                  refine f_bipush C (v := 7) dX12_stepWord_180 kb7 rfl ?_
                  refine f_goto C (t := 186) dX12_stepWord_182 (by decide) ?_
                  exact f_iret C dX12_stepWord_186 h
              · replace h := Eq.mp (if_neg hq_35) h
                refine f_bipush C (v := 6) dX12_stepWord_157 kb6 rfl ?_
                exact f_iret C dX12_stepWord_159 h
            · replace h := Eq.mp (if_neg hq_30) h
              refine f_iconst C (v := 5) dX12_stepWord_135 kc5 rfl ?_
              exact f_iret C dX12_stepWord_136 h
          · replace h := Eq.mp (if_neg hq_25) h
            refine f_iconst C (v := 4) dX12_stepWord_113 kc4 rfl ?_
            exact f_iret C dX12_stepWord_114 h
        · replace h := Eq.mp (if_neg hq_20) h
          refine f_iconst C (v := 3) dX12_stepWord_91 kc3 rfl ?_
          exact f_iret C dX12_stepWord_92 h
      · replace h := Eq.mp (if_neg hq_15) h
        refine f_iconst C (v := 2) dX12_stepWord_68 kc2 rfl ?_
        exact f_iret C dX12_stepWord_69 h
    · replace h := Eq.mp (if_neg hq_10) h
      refine f_iconst C (v := 1) dX12_stepWord_44 kc1 rfl ?_
      exact f_iret C dX12_stepWord_45 h
  · replace h := Eq.mp (if_neg hq_5) h
    refine f_iconst C (v := 0) dX12_stepWord_20 kc0 rfl ?_
    exact f_iret C dX12_stepWord_21 h
theorem c_X12_stepWord (σ : Sto) (P : Int32 → Sto → Prop) (h : w_X12_stepWord σ P) : Ct yX12_stepWord cX12_stepWord 1 (some .int) 1 27 (fun B => [.ref (B + 101)]) σ (QFi P) := Ct.of (by decide) (fun _ => Nat.le_of_ble_eq_true rfl) (fun B E C => s_X12_stepWord C σ h)
def w_X12_testWord (σ : Sto) (P : Int32 → Sto → Prop) : Prop :=
  w_X12_spelled 115 116 97 110 100 115 σ (fun r_2 σ_1 => w_X12_isWord r_2 σ_1 (fun r_4 σ_3 => (if r_4 = 0 then w_X12_spelled 100 111 110 101 0 0 σ_3 (fun r_7 σ_6 => w_X12_isWord r_7 σ_6 (fun r_9 σ_8 => (if r_9 = 0 then w_X12_spelled 118 111 116 101 115 0 σ_8 (fun r_12 σ_11 => w_X12_isWord r_12 σ_11 (fun r_14 σ_13 => (if r_14 = 0 then P (-1) σ_13 else P 2 σ_13))) else P 1 σ_8))) else P 0 σ_3)))
theorem s_X12_testWord {B : Nat} {E : Nat → List (Nat × Value) → List Value → Sto → Prop} {P : Int32 → Sto → Prop} (C : Cy B E RX12 cX12_testWord 1 (some .int) 1 27 (Zm (QFi P))) (σ : Sto) (h : w_X12_testWord σ P) : E 0 [(0, .ref (B + 101))] [] σ := by
  unfold w_X12_testWord at h
  refine f_aload_n C (j := 0) dX12_testWord_0 rfl rfl rfl ?_
  refine f_bipush C (v := 115) dX12_testWord_1 kb115 rfl ?_
  refine f_bipush C (v := 116) dX12_testWord_3 kb116 rfl ?_
  refine f_bipush C (v := 97) dX12_testWord_5 kb97 rfl ?_
  refine f_bipush C (v := 110) dX12_testWord_7 kb110 rfl ?_
  refine f_bipush C (v := 100) dX12_testWord_9 kb100 rfl ?_
  refine f_bipush C (v := 115) dX12_testWord_11 kb115 rfl ?_
  refine f_callSl C (As := fun B => [.int 115, .int 116, .int 97, .int 110, .int 100, .int 115]) (c_X12_spelled  _ _ _ _ _ _ _ _ h) tM_X12_154 tT_X12_spelled tN_X12 tC_X12_spelled 6 dd_X12_spelled rfl (by decide) (by decide) rfl (Nat.le_of_ble_eq_true rfl) dX12_testWord_13 rfl (fun r_2 σ_1 h => ?_)
  refine f_callVi C (a := 101) (ci := 12) (As := fun B => [.long r_2]) o101 rfl (c_X12_isWord  _ _ _ h) tM_X12_158 tI_X12_isWord tS_X12_isWord tN_X12 tC_X12_isWord 1 dd_X12_isWord rfl (by decide) (by decide) rfl (Nat.le_of_ble_eq_true rfl) dX12_testWord_16 rfl (fun r_4 σ_3 h => ?_)
  refine f_if_eq C (t := 24) dX12_testWord_19 (by decide) rfl (fun hq_5 => ?_) (fun hq_5 => ?_)
  · replace h := Eq.mp (if_pos hq_5) h
    refine f_aload_n C (j := 0) dX12_testWord_24 rfl rfl rfl ?_
    refine f_bipush C (v := 100) dX12_testWord_25 kb100 rfl ?_
    refine f_bipush C (v := 111) dX12_testWord_27 kb111 rfl ?_
    refine f_bipush C (v := 110) dX12_testWord_29 kb110 rfl ?_
    refine f_bipush C (v := 101) dX12_testWord_31 kb101 rfl ?_
    refine f_iconst C (v := 0) dX12_testWord_33 kc0 rfl ?_
    refine f_iconst C (v := 0) dX12_testWord_34 kc0 rfl ?_
    refine f_callSl C (As := fun B => [.int 100, .int 111, .int 110, .int 101, .int 0, .int 0]) (c_X12_spelled  _ _ _ _ _ _ _ _ h) tM_X12_154 tT_X12_spelled tN_X12 tC_X12_spelled 6 dd_X12_spelled rfl (by decide) (by decide) rfl (Nat.le_of_ble_eq_true rfl) dX12_testWord_35 rfl (fun r_7 σ_6 h => ?_)
    refine f_callVi C (a := 101) (ci := 12) (As := fun B => [.long r_7]) o101 rfl (c_X12_isWord  _ _ _ h) tM_X12_158 tI_X12_isWord tS_X12_isWord tN_X12 tC_X12_isWord 1 dd_X12_isWord rfl (by decide) (by decide) rfl (Nat.le_of_ble_eq_true rfl) dX12_testWord_38 rfl (fun r_9 σ_8 h => ?_)
    refine f_if_eq C (t := 46) dX12_testWord_41 (by decide) rfl (fun hq_10 => ?_) (fun hq_10 => ?_)
    · replace h := Eq.mp (if_pos hq_10) h
      refine f_aload_n C (j := 0) dX12_testWord_46 rfl rfl rfl ?_
      refine f_bipush C (v := 118) dX12_testWord_47 kb118 rfl ?_
      refine f_bipush C (v := 111) dX12_testWord_49 kb111 rfl ?_
      refine f_bipush C (v := 116) dX12_testWord_51 kb116 rfl ?_
      refine f_bipush C (v := 101) dX12_testWord_53 kb101 rfl ?_
      refine f_bipush C (v := 115) dX12_testWord_55 kb115 rfl ?_
      refine f_iconst C (v := 0) dX12_testWord_57 kc0 rfl ?_
      refine f_callSl C (As := fun B => [.int 118, .int 111, .int 116, .int 101, .int 115, .int 0]) (c_X12_spelled  _ _ _ _ _ _ _ _ h) tM_X12_154 tT_X12_spelled tN_X12 tC_X12_spelled 6 dd_X12_spelled rfl (by decide) (by decide) rfl (Nat.le_of_ble_eq_true rfl) dX12_testWord_58 rfl (fun r_12 σ_11 h => ?_)
      refine f_callVi C (a := 101) (ci := 12) (As := fun B => [.long r_12]) o101 rfl (c_X12_isWord  _ _ _ h) tM_X12_158 tI_X12_isWord tS_X12_isWord tN_X12 tC_X12_isWord 1 dd_X12_isWord rfl (by decide) (by decide) rfl (Nat.le_of_ble_eq_true rfl) dX12_testWord_61 rfl (fun r_14 σ_13 h => ?_)
      refine f_if_eq C (t := 71) dX12_testWord_64 (by decide) rfl (fun hq_15 => ?_) (fun hq_15 => ?_)
      · replace h := Eq.mp (if_pos hq_15) h
        refine f_iconst C (v := (-1)) dX12_testWord_71 kcm1 rfl ?_
        exact f_iret C dX12_testWord_72 h
      · replace h := Eq.mp (if_neg hq_15) h
        refine f_iconst C (v := 2) dX12_testWord_67 kc2 rfl ?_
        refine f_goto C (t := 72) dX12_testWord_68 (by decide) ?_
        exact f_iret C dX12_testWord_72 h
    · replace h := Eq.mp (if_neg hq_10) h
      refine f_iconst C (v := 1) dX12_testWord_44 kc1 rfl ?_
      exact f_iret C dX12_testWord_45 h
  · replace h := Eq.mp (if_neg hq_5) h
    refine f_iconst C (v := 0) dX12_testWord_22 kc0 rfl ?_
    exact f_iret C dX12_testWord_23 h
theorem c_X12_testWord (σ : Sto) (P : Int32 → Sto → Prop) (h : w_X12_testWord σ P) : Ct yX12_testWord cX12_testWord 1 (some .int) 1 27 (fun B => [.ref (B + 101)]) σ (QFi P) := Ct.of (by decide) (fun _ => Nat.le_of_ble_eq_true rfl) (fun B E C => s_X12_testWord C σ h)
def w_X12_isEnd (σ : Sto) (P : Int32 → Sto → Prop) : Prop :=
  w_X12_spelled 101 110 100 0 0 0 σ (fun r_2 σ_1 => w_X12_isWord r_2 σ_1 (fun r_4 σ_3 => (r_4 = 0 ∨ r_4 = 1) ∧ P r_4 σ_3))
theorem s_X12_isEnd {B : Nat} {E : Nat → List (Nat × Value) → List Value → Sto → Prop} {P : Int32 → Sto → Prop} (C : Cy B E RX12 cX12_isEnd 1 (some .boolean) 1 27 (Zm (QFi P))) (σ : Sto) (h : w_X12_isEnd σ P) : E 0 [(0, .ref (B + 101))] [] σ := by
  unfold w_X12_isEnd at h
  refine f_aload_n C (j := 0) dX12_isEnd_0 rfl rfl rfl ?_
  refine f_bipush C (v := 101) dX12_isEnd_1 kb101 rfl ?_
  refine f_bipush C (v := 110) dX12_isEnd_3 kb110 rfl ?_
  refine f_bipush C (v := 100) dX12_isEnd_5 kb100 rfl ?_
  refine f_iconst C (v := 0) dX12_isEnd_7 kc0 rfl ?_
  refine f_iconst C (v := 0) dX12_isEnd_8 kc0 rfl ?_
  refine f_iconst C (v := 0) dX12_isEnd_9 kc0 rfl ?_
  refine f_callSl C (As := fun B => [.int 101, .int 110, .int 100, .int 0, .int 0, .int 0]) (c_X12_spelled  _ _ _ _ _ _ _ _ h) tM_X12_154 tT_X12_spelled tN_X12 tC_X12_spelled 6 dd_X12_spelled rfl (by decide) (by decide) rfl (Nat.le_of_ble_eq_true rfl) dX12_isEnd_10 rfl (fun r_2 σ_1 h => ?_)
  refine f_callVi C (a := 101) (ci := 12) (As := fun B => [.long r_2]) o101 rfl (c_X12_isWord  _ _ _ h) tM_X12_158 tI_X12_isWord tS_X12_isWord tN_X12 tC_X12_isWord 1 dd_X12_isWord rfl (by decide) (by decide) rfl (Nat.le_of_ble_eq_true rfl) dX12_isEnd_13 rfl (fun r_4 σ_3 h => ?_)
  obtain ⟨hb_5, h⟩ := h
  exact f_zret C hb_5 dX12_isEnd_16 h
theorem c_X12_isEnd (σ : Sto) (P : Int32 → Sto → Prop) (h : w_X12_isEnd σ P) : Ct yX12_isEnd cX12_isEnd 1 (some .boolean) 1 27 (fun B => [.ref (B + 101)]) σ (QFi P) := Ct.of (by decide) (fun _ => Nat.le_of_ble_eq_true rfl) (fun B E C => s_X12_isEnd C σ h)
def w_X12_isKept (σ : Sto) (P : Int32 → Sto → Prop) : Prop :=
  w_X12_isThing σ (fun r_2 σ_1 => (if r_2 = 0 then w_X12_isWorth σ_1 (fun r_5 σ_4 => (if r_5 = 0 then w_X12_isExemptWord σ_4 (fun r_8 σ_7 => (if r_8 = 0 then w_X12_isMakes σ_7 (fun r_11 σ_10 => (if r_11 = 0 then w_X12_isFrom σ_10 (fun r_14 σ_13 => (if r_14 = 0 then w_X12_isWork σ_13 (fun r_17 σ_16 => (if r_17 = 0 then w_X12_isNeeds σ_16 (fun r_20 σ_19 => (if r_20 = 0 then w_X12_isVoter σ_19 (fun r_23 σ_22 => (if r_23 = 0 then w_X12_isHates σ_22 (fun r_26 σ_25 => (if r_26 = 0 then w_X12_isAhead σ_25 (fun r_29 σ_28 => (if r_29 = 0 then w_X12_isLaw σ_28 (fun r_32 σ_31 => (if r_32 = 0 then w_X12_stepWord σ_31 (fun r_35 σ_34 => (if 0 ≤ r_35 then P 1 σ_34 else w_X12_testWord σ_34 (fun r_38 σ_37 => (if 0 ≤ r_38 then P 1 σ_37 else w_X12_isEnd σ_37 (fun r_41 σ_40 => (if r_41 = 0 then P 0 σ_40 else P 1 σ_40)))))) else P 1 σ_31)) else P 1 σ_28)) else P 1 σ_25)) else P 1 σ_22)) else P 1 σ_19)) else P 1 σ_16)) else P 1 σ_13)) else P 1 σ_10)) else P 1 σ_7)) else P 1 σ_4)) else P 1 σ_1))
theorem s_X12_isKept {B : Nat} {E : Nat → List (Nat × Value) → List Value → Sto → Prop} {P : Int32 → Sto → Prop} (C : Cy B E RX12 cX12_isKept 1 (some .boolean) 2 47 (Zm (QFi P))) (σ : Sto) (h : w_X12_isKept σ P) : E 0 [(0, .ref (B + 101))] [] σ := by
  unfold w_X12_isKept at h
  refine f_aload_n C (j := 0) dX12_isKept_0 rfl rfl rfl ?_
  refine f_callVi C (a := 101) (ci := 12) (As := fun B => []) o101 rfl (c_X12_isThing   _ _ h) tM_X12_162 tI_X12_isThing tS_X12_isThing tN_X12 tC_X12_isThing 0 dd_X12_isThing rfl (by decide) (by decide) rfl (Nat.le_of_ble_eq_true rfl) dX12_isKept_1 rfl (fun r_2 σ_1 h => ?_)
  refine f_if_ne C (t := 77) dX12_isKept_4 (by decide) rfl (fun hq_3 => ?_) (fun hq_3 => ?_)
  · replace h := Eq.mp (if_neg hq_3) h
    refine f_iconst C (v := 1) dX12_isKept_77 kc1 rfl ?_
    exact f_zret C (Or.inr rfl) dX12_isKept_78 h
  · replace h := Eq.mp (if_pos hq_3) h
    refine f_aload_n C (j := 0) dX12_isKept_7 rfl rfl rfl ?_
    refine f_callVi C (a := 101) (ci := 12) (As := fun B => []) o101 rfl (c_X12_isWorth   _ _ h) tM_X12_166 tI_X12_isWorth tS_X12_isWorth tN_X12 tC_X12_isWorth 0 dd_X12_isWorth rfl (by decide) (by decide) rfl (Nat.le_of_ble_eq_true rfl) dX12_isKept_8 rfl (fun r_5 σ_4 h => ?_)
    refine f_if_ne C (t := 77) dX12_isKept_11 (by decide) rfl (fun hq_6 => ?_) (fun hq_6 => ?_)
    · replace h := Eq.mp (if_neg hq_6) h
      refine f_iconst C (v := 1) dX12_isKept_77 kc1 rfl ?_
      exact f_zret C (Or.inr rfl) dX12_isKept_78 h
    · replace h := Eq.mp (if_pos hq_6) h
      refine f_aload_n C (j := 0) dX12_isKept_14 rfl rfl rfl ?_
      refine f_callVi C (a := 101) (ci := 12) (As := fun B => []) o101 rfl (c_X12_isExemptWord   _ _ h) tM_X12_169 tI_X12_isExemptWord tS_X12_isExemptWord tN_X12 tC_X12_isExemptWord 0 dd_X12_isExemptWord rfl (by decide) (by decide) rfl (Nat.le_of_ble_eq_true rfl) dX12_isKept_15 rfl (fun r_8 σ_7 h => ?_)
      refine f_if_ne C (t := 77) dX12_isKept_18 (by decide) rfl (fun hq_9 => ?_) (fun hq_9 => ?_)
      · replace h := Eq.mp (if_neg hq_9) h
        refine f_iconst C (v := 1) dX12_isKept_77 kc1 rfl ?_
        exact f_zret C (Or.inr rfl) dX12_isKept_78 h
      · replace h := Eq.mp (if_pos hq_9) h
        refine f_aload_n C (j := 0) dX12_isKept_21 rfl rfl rfl ?_
        refine f_callVi C (a := 101) (ci := 12) (As := fun B => []) o101 rfl (c_X12_isMakes   _ _ h) tM_X12_172 tI_X12_isMakes tS_X12_isMakes tN_X12 tC_X12_isMakes 0 dd_X12_isMakes rfl (by decide) (by decide) rfl (Nat.le_of_ble_eq_true rfl) dX12_isKept_22 rfl (fun r_11 σ_10 h => ?_)
        refine f_if_ne C (t := 77) dX12_isKept_25 (by decide) rfl (fun hq_12 => ?_) (fun hq_12 => ?_)
        · replace h := Eq.mp (if_neg hq_12) h
          refine f_iconst C (v := 1) dX12_isKept_77 kc1 rfl ?_
          exact f_zret C (Or.inr rfl) dX12_isKept_78 h
        · replace h := Eq.mp (if_pos hq_12) h
          refine f_aload_n C (j := 0) dX12_isKept_28 rfl rfl rfl ?_
          refine f_callVi C (a := 101) (ci := 12) (As := fun B => []) o101 rfl (c_X12_isFrom   _ _ h) tM_X12_175 tI_X12_isFrom tS_X12_isFrom tN_X12 tC_X12_isFrom 0 dd_X12_isFrom rfl (by decide) (by decide) rfl (Nat.le_of_ble_eq_true rfl) dX12_isKept_29 rfl (fun r_14 σ_13 h => ?_)
          refine f_if_ne C (t := 77) dX12_isKept_32 (by decide) rfl (fun hq_15 => ?_) (fun hq_15 => ?_)
          · replace h := Eq.mp (if_neg hq_15) h
            refine f_iconst C (v := 1) dX12_isKept_77 kc1 rfl ?_
            exact f_zret C (Or.inr rfl) dX12_isKept_78 h
          · replace h := Eq.mp (if_pos hq_15) h
            refine f_aload_n C (j := 0) dX12_isKept_35 rfl rfl rfl ?_
            refine f_callVi C (a := 101) (ci := 12) (As := fun B => []) o101 rfl (c_X12_isWork   _ _ h) tM_X12_178 tI_X12_isWork tS_X12_isWork tN_X12 tC_X12_isWork 0 dd_X12_isWork rfl (by decide) (by decide) rfl (Nat.le_of_ble_eq_true rfl) dX12_isKept_36 rfl (fun r_17 σ_16 h => ?_)
            refine f_if_ne C (t := 77) dX12_isKept_39 (by decide) rfl (fun hq_18 => ?_) (fun hq_18 => ?_)
            · replace h := Eq.mp (if_neg hq_18) h
              refine f_iconst C (v := 1) dX12_isKept_77 kc1 rfl ?_
              exact f_zret C (Or.inr rfl) dX12_isKept_78 h
            · replace h := Eq.mp (if_pos hq_18) h
              refine f_aload_n C (j := 0) dX12_isKept_42 rfl rfl rfl ?_
              refine f_callVi C (a := 101) (ci := 12) (As := fun B => []) o101 rfl (c_X12_isNeeds   _ _ h) tM_X12_181 tI_X12_isNeeds tS_X12_isNeeds tN_X12 tC_X12_isNeeds 0 dd_X12_isNeeds rfl (by decide) (by decide) rfl (Nat.le_of_ble_eq_true rfl) dX12_isKept_43 rfl (fun r_20 σ_19 h => ?_)
              refine f_if_ne C (t := 77) dX12_isKept_46 (by decide) rfl (fun hq_21 => ?_) (fun hq_21 => ?_)
              · replace h := Eq.mp (if_neg hq_21) h
                refine f_iconst C (v := 1) dX12_isKept_77 kc1 rfl ?_
                exact f_zret C (Or.inr rfl) dX12_isKept_78 h
              · replace h := Eq.mp (if_pos hq_21) h
                refine f_aload_n C (j := 0) dX12_isKept_49 rfl rfl rfl ?_
                refine f_callVi C (a := 101) (ci := 12) (As := fun B => []) o101 rfl (c_X12_isVoter   _ _ h) tM_X12_184 tI_X12_isVoter tS_X12_isVoter tN_X12 tC_X12_isVoter 0 dd_X12_isVoter rfl (by decide) (by decide) rfl (Nat.le_of_ble_eq_true rfl) dX12_isKept_50 rfl (fun r_23 σ_22 h => ?_)
                refine f_if_ne C (t := 77) dX12_isKept_53 (by decide) rfl (fun hq_24 => ?_) (fun hq_24 => ?_)
                · replace h := Eq.mp (if_neg hq_24) h
                  refine f_iconst C (v := 1) dX12_isKept_77 kc1 rfl ?_
                  exact f_zret C (Or.inr rfl) dX12_isKept_78 h
                · replace h := Eq.mp (if_pos hq_24) h
                  refine f_aload_n C (j := 0) dX12_isKept_56 rfl rfl rfl ?_
                  refine f_callVi C (a := 101) (ci := 12) (As := fun B => []) o101 rfl (c_X12_isHates   _ _ h) tM_X12_187 tI_X12_isHates tS_X12_isHates tN_X12 tC_X12_isHates 0 dd_X12_isHates rfl (by decide) (by decide) rfl (Nat.le_of_ble_eq_true rfl) dX12_isKept_57 rfl (fun r_26 σ_25 h => ?_)
                  refine f_if_ne C (t := 77) dX12_isKept_60 (by decide) rfl (fun hq_27 => ?_) (fun hq_27 => ?_)
                  · replace h := Eq.mp (if_neg hq_27) h
                    refine f_iconst C (v := 1) dX12_isKept_77 kc1 rfl ?_
                    exact f_zret C (Or.inr rfl) dX12_isKept_78 h
                  · replace h := Eq.mp (if_pos hq_27) h
                    refine f_aload_n C (j := 0) dX12_isKept_63 rfl rfl rfl ?_
                    refine f_callVi C (a := 101) (ci := 12) (As := fun B => []) o101 rfl (c_X12_isAhead   _ _ h) tM_X12_190 tI_X12_isAhead tS_X12_isAhead tN_X12 tC_X12_isAhead 0 dd_X12_isAhead rfl (by decide) (by decide) rfl (Nat.le_of_ble_eq_true rfl) dX12_isKept_64 rfl (fun r_29 σ_28 h => ?_)
                    refine f_if_ne C (t := 77) dX12_isKept_67 (by decide) rfl (fun hq_30 => ?_) (fun hq_30 => ?_)
                    · replace h := Eq.mp (if_neg hq_30) h
                      refine f_iconst C (v := 1) dX12_isKept_77 kc1 rfl ?_
                      exact f_zret C (Or.inr rfl) dX12_isKept_78 h
                    · replace h := Eq.mp (if_pos hq_30) h
                      refine f_aload_n C (j := 0) dX12_isKept_70 rfl rfl rfl ?_
                      refine f_callVi C (a := 101) (ci := 12) (As := fun B => []) o101 rfl (c_X12_isLaw   _ _ h) tM_X12_193 tI_X12_isLaw tS_X12_isLaw tN_X12 tC_X12_isLaw 0 dd_X12_isLaw rfl (by decide) (by decide) rfl (Nat.le_of_ble_eq_true rfl) dX12_isKept_71 rfl (fun r_32 σ_31 h => ?_)
                      refine f_if_eq C (t := 79) dX12_isKept_74 (by decide) rfl (fun hq_33 => ?_) (fun hq_33 => ?_)
                      · replace h := Eq.mp (if_pos hq_33) h
                        refine f_aload_n C (j := 0) dX12_isKept_79 rfl rfl rfl ?_
                        refine f_callVi C (a := 101) (ci := 12) (As := fun B => []) o101 rfl (c_X12_stepWord   _ _ h) tM_X12_196 tI_X12_stepWord tS_X12_stepWord tN_X12 tC_X12_stepWord 0 dd_X12_stepWord rfl (by decide) (by decide) rfl (Nat.le_of_ble_eq_true rfl) dX12_isKept_80 rfl (fun r_35 σ_34 h => ?_)
                        refine f_if_ge C (t := 100) dX12_isKept_83 (by decide) rfl (fun hq_36 => ?_) (fun hq_36 => ?_)
                        · replace h := Eq.mp (if_pos hq_36) h
                          refine f_iconst C (v := 1) dX12_isKept_100 kc1 rfl ?_
                          refine f_goto C (t := 105) dX12_isKept_101 (by decide) ?_
                          exact f_zret C (Or.inr rfl) dX12_isKept_105 h
                        · replace h := Eq.mp (if_neg hq_36) h
                          refine f_aload_n C (j := 0) dX12_isKept_86 rfl rfl rfl ?_
                          refine f_callVi C (a := 101) (ci := 12) (As := fun B => []) o101 rfl (c_X12_testWord   _ _ h) tM_X12_200 tI_X12_testWord tS_X12_testWord tN_X12 tC_X12_testWord 0 dd_X12_testWord rfl (by decide) (by decide) rfl (Nat.le_of_ble_eq_true rfl) dX12_isKept_87 rfl (fun r_38 σ_37 h => ?_)
                          refine f_if_ge C (t := 100) dX12_isKept_90 (by decide) rfl (fun hq_39 => ?_) (fun hq_39 => ?_)
                          · replace h := Eq.mp (if_pos hq_39) h
                            refine f_iconst C (v := 1) dX12_isKept_100 kc1 rfl ?_
                            refine f_goto C (t := 105) dX12_isKept_101 (by decide) ?_
                            exact f_zret C (Or.inr rfl) dX12_isKept_105 h
                          · replace h := Eq.mp (if_neg hq_39) h
                            refine f_aload_n C (j := 0) dX12_isKept_93 rfl rfl rfl ?_
                            refine f_callVi C (a := 101) (ci := 12) (As := fun B => []) o101 rfl (c_X12_isEnd   _ _ h) tM_X12_203 tI_X12_isEnd tS_X12_isEnd tN_X12 tC_X12_isEnd 0 dd_X12_isEnd rfl (by decide) (by decide) rfl (Nat.le_of_ble_eq_true rfl) dX12_isKept_94 rfl (fun r_41 σ_40 h => ?_)
                            refine f_if_eq C (t := 104) dX12_isKept_97 (by decide) rfl (fun hq_42 => ?_) (fun hq_42 => ?_)
                            · replace h := Eq.mp (if_pos hq_42) h
                              refine f_iconst C (v := 0) dX12_isKept_104 kc0 rfl ?_
                              exact f_zret C (Or.inl rfl) dX12_isKept_105 h
                            · replace h := Eq.mp (if_neg hq_42) h
                              refine f_iconst C (v := 1) dX12_isKept_100 kc1 rfl ?_
                              refine f_goto C (t := 105) dX12_isKept_101 (by decide) ?_
                              exact f_zret C (Or.inr rfl) dX12_isKept_105 h
                      · replace h := Eq.mp (if_neg hq_33) h
                        refine f_iconst C (v := 1) dX12_isKept_77 kc1 rfl ?_
                        exact f_zret C (Or.inr rfl) dX12_isKept_78 h
theorem c_X12_isKept (σ : Sto) (P : Int32 → Sto → Prop) (h : w_X12_isKept σ P) : Ct yX12_isKept cX12_isKept 1 (some .boolean) 2 47 (fun B => [.ref (B + 101)]) σ (QFi P) := Ct.of (by decide) (fun _ => Nat.le_of_ble_eq_true rfl) (fun B E C => s_X12_isKept C σ h)
def w_X12_isName (σ : Sto) (P : Int32 → Sto → Prop) : Prop :=
  (if (gi σ 101 14) = 1 then (if 8 < (gi σ 101 18) then P 0 σ else w_X12_isKept σ (fun r_4 σ_3 => (if r_4 = 0 then P 1 σ_3 else P 0 σ_3))) else P 0 σ)
theorem s_X12_isName {B : Nat} {E : Nat → List (Nat × Value) → List Value → Sto → Prop} {P : Int32 → Sto → Prop} (C : Cy B E RX12 cX12_isName 1 (some .boolean) 3 67 (Zm (QFi P))) (σ : Sto) (h : w_X12_isName σ P) : E 0 [(0, .ref (B + 101))] [] σ := by
  unfold w_X12_isName at h
  refine f_aload_n C (j := 0) dX12_isName_0 rfl rfl rfl ?_
  refine f_geti C tF_X12_129 rfl o101 dX12_isName_1 rfl ?_
  refine f_iconst C (v := 1) dX12_isName_4 kc1 rfl ?_
  refine f_icmp_ne C (t := 28) dX12_isName_5 (by decide) rfl (fun hq_1 => ?_) (fun hq_1 => ?_)
  · replace h := Eq.mp (if_neg hq_1) h
    refine f_iconst C (v := 0) dX12_isName_28 kc0 rfl ?_
    exact f_zret C (Or.inl rfl) dX12_isName_29 h
  · replace h := Eq.mp (if_pos hq_1) h
    refine f_aload_n C (j := 0) dX12_isName_8 rfl rfl rfl ?_
    refine f_geti C tF_X12_142 rfl o101 dX12_isName_9 rfl ?_
    refine f_bipush C (v := 8) dX12_isName_12 kb8 rfl ?_
    refine f_icmp_gt C (t := 28) dX12_isName_14 (by decide) rfl (fun hq_2 => ?_) (fun hq_2 => ?_)
    · replace h := Eq.mp (if_pos hq_2) h
      refine f_iconst C (v := 0) dX12_isName_28 kc0 rfl ?_
      exact f_zret C (Or.inl rfl) dX12_isName_29 h
    · replace h := Eq.mp (if_neg hq_2) h
      refine f_aload_n C (j := 0) dX12_isName_17 rfl rfl rfl ?_
      refine f_callVi C (a := 101) (ci := 12) (As := fun B => []) o101 rfl (c_X12_isKept   _ _ h) tM_X12_206 tI_X12_isKept tS_X12_isKept tN_X12 tC_X12_isKept 0 dd_X12_isKept rfl (by decide) (by decide) rfl (Nat.le_of_ble_eq_true rfl) dX12_isName_18 rfl (fun r_4 σ_3 h => ?_)
      refine f_if_ne C (t := 28) dX12_isName_21 (by decide) rfl (fun hq_5 => ?_) (fun hq_5 => ?_)
      · replace h := Eq.mp (if_neg hq_5) h
        refine f_iconst C (v := 0) dX12_isName_28 kc0 rfl ?_
        exact f_zret C (Or.inl rfl) dX12_isName_29 h
      · replace h := Eq.mp (if_pos hq_5) h
        refine f_iconst C (v := 1) dX12_isName_24 kc1 rfl ?_
        refine f_goto C (t := 29) dX12_isName_25 (by decide) ?_
        exact f_zret C (Or.inr rfl) dX12_isName_29 h
theorem c_X12_isName (σ : Sto) (P : Int32 → Sto → Prop) (h : w_X12_isName σ P) : Ct yX12_isName cX12_isName 1 (some .boolean) 3 67 (fun B => [.ref (B + 101)]) σ (QFi P) := Ct.of (by decide) (fun _ => Nat.le_of_ble_eq_true rfl) (fun B E C => s_X12_isName C σ h)
def w_X12_fail (x1 : Int32) (x2 : Int32) (σ : Sto) (P : Sto → Prop) : Prop :=
  (if (gi σ 101 12) ≤ 0 then P (si (si σ 101 12 x1) 101 13 x2) else P σ)
theorem s_X12_fail {B : Nat} {E : Nat → List (Nat × Value) → List Value → Sto → Prop} {P : Sto → Prop} (C : Cy B E RX12 cX12_fail 3 none 0 0 (Zm (QFv P))) (x1 : Int32) (x2 : Int32) (σ : Sto) (h : w_X12_fail x1 x2 σ P) : E 0 [(0, .ref (B + 101)), (1, .int x1), (2, .int x2)] [] σ := by
  unfold w_X12_fail at h
  refine f_aload_n C (j := 0) dX12_fail_0 rfl rfl rfl ?_
  refine f_geti C tF_X12_209 rfl o101 dX12_fail_1 rfl ?_
  refine f_if_le C (t := 8) dX12_fail_4 (by decide) rfl (fun hq_1 => ?_) (fun hq_1 => ?_)
  · replace h := Eq.mp (if_pos hq_1) h
    refine f_aload_n C (j := 0) dX12_fail_8 rfl rfl rfl ?_
    refine f_iload_n C (j := 1) dX12_fail_9 rfl rfl rfl ?_
    refine f_puti C tF_X12_209 fm_12_12 rfl o101 dX12_fail_10 rfl ?_
    refine f_aload_n C (j := 0) dX12_fail_13 rfl rfl rfl ?_
    refine f_iload_n C (j := 2) dX12_fail_14 rfl rfl rfl ?_
    refine f_puti C tF_X12_212 fm_12_13 rfl o101 dX12_fail_15 rfl ?_
    exact f_vret C dX12_fail_18 h
  · replace h := Eq.mp (if_neg hq_1) h
    exact f_vret C dX12_fail_7 h
theorem c_X12_fail (x1 : Int32) (x2 : Int32) (σ : Sto) (P : Sto → Prop) (h : w_X12_fail x1 x2 σ P) : Ct yX12_fail cX12_fail 3 none 0 0 (fun B => [.ref (B + 101), .int x1, .int x2]) σ (QFv P) := Ct.of (by decide) (fun _ => Nat.le_of_ble_eq_true rfl) (fun B E C => s_X12_fail C x1 x2 σ h)
def w_X12_amiss_14 (z0 : Int32) (σ : Sto) (P : Sto → Prop) : Prop :=
  w_X12_fail z0 (gi σ 101 15) σ (fun σ_2 => P σ_2)
theorem s_X12_amiss_14 {B : Nat} {E : Nat → List (Nat × Value) → List Value → Sto → Prop} {P : Sto → Prop} (C : Cy B E RX12 cX12_amiss 1 none 1 22 (Zm (QFv P))) (z0 : Int32) (σ : Sto) (h : w_X12_amiss_14 z0 σ P) : E 14 [(0, .ref (B + 101))] [.int z0, .ref (B + 101)] σ := by
  unfold w_X12_amiss_14 at h
  refine f_aload_n C (j := 0) dX12_amiss_14 rfl rfl rfl ?_
  refine f_geti C tF_X12_123 rfl o101 dX12_amiss_15 rfl ?_
  refine f_callVv C (a := 101) (ci := 12) (As := fun B => [.int z0, .int (gi σ 101 15)]) o101 rfl (c_X12_fail  _ _ _ _ h) tM_X12_215 tI_X12_fail tS_X12_fail tN_X12 tC_X12_fail 2 dd_X12_fail rfl (by decide) (by decide) rfl (Nat.le_of_ble_eq_true rfl) dX12_amiss_18 rfl (fun σ_2 h => ?_)
  exact f_vret C dX12_amiss_21 h
def w_X12_amiss (σ : Sto) (P : Sto → Prop) : Prop :=
  (if (gi σ 101 14) = 4 then w_X12_amiss_14 1 σ P else w_X12_amiss_14 2 σ P)
theorem s_X12_amiss {B : Nat} {E : Nat → List (Nat × Value) → List Value → Sto → Prop} {P : Sto → Prop} (C : Cy B E RX12 cX12_amiss 1 none 1 22 (Zm (QFv P))) (σ : Sto) (h : w_X12_amiss σ P) : E 0 [(0, .ref (B + 101))] [] σ := by
  unfold w_X12_amiss at h
  refine f_aload_n C (j := 0) dX12_amiss_0 rfl rfl rfl ?_
  refine f_aload_n C (j := 0) dX12_amiss_1 rfl rfl rfl ?_
  refine f_geti C tF_X12_129 rfl o101 dX12_amiss_2 rfl ?_
  refine f_iconst C (v := 4) dX12_amiss_5 kc4 rfl ?_
  refine f_icmp_ne C (t := 13) dX12_amiss_6 (by decide) rfl (fun hq_1 => ?_) (fun hq_1 => ?_)
  · replace h := Eq.mp (if_neg hq_1) h
    refine f_iconst C (v := 2) dX12_amiss_13 kc2 rfl ?_
    exact s_X12_amiss_14 C _  _ h
  · replace h := Eq.mp (if_pos hq_1) h
    refine f_iconst C (v := 1) dX12_amiss_9 kc1 rfl ?_
    refine f_goto C (t := 14) dX12_amiss_10 (by decide) ?_
    exact s_X12_amiss_14 C _  _ h
theorem c_X12_amiss (σ : Sto) (P : Sto → Prop) (h : w_X12_amiss σ P) : Ct yX12_amiss cX12_amiss 1 none 1 22 (fun B => [.ref (B + 101)]) σ (QFv P) := Ct.of (by decide) (fun _ => Nat.le_of_ble_eq_true rfl) (fun B E C => s_X12_amiss C σ h)
def w_X12_must (x1 : Int32) (σ : Sto) (P : Sto → Prop) : Prop :=
  (if (gi σ 101 12) ≤ 0 then (if x1 = 0 then w_X12_amiss σ (fun σ_3 => P σ_3) else w_X12_advance σ (fun σ_5 => P σ_5)) else P σ)
theorem s_X12_must {B : Nat} {E : Nat → List (Nat × Value) → List Value → Sto → Prop} {P : Sto → Prop} (C : Cy B E RX12 cX12_must 2 none 2 42 (Zm (QFv P))) (x1 : Int32) (σ : Sto) (h : w_X12_must x1 σ P) : E 0 [(0, .ref (B + 101)), (1, .int x1)] [] σ := by
  unfold w_X12_must at h
  refine f_aload_n C (j := 0) dX12_must_0 rfl rfl rfl ?_
  refine f_geti C tF_X12_209 rfl o101 dX12_must_1 rfl ?_
  refine f_if_le C (t := 8) dX12_must_4 (by decide) rfl (fun hq_1 => ?_) (fun hq_1 => ?_)
  · replace h := Eq.mp (if_pos hq_1) h
    refine f_iload_n C (j := 1) dX12_must_8 rfl rfl rfl ?_
    refine f_if_eq C (t := 19) dX12_must_9 (by decide) rfl (fun hq_2 => ?_) (fun hq_2 => ?_)
    · replace h := Eq.mp (if_pos hq_2) h
      refine f_aload_n C (j := 0) dX12_must_19 rfl rfl rfl ?_
      refine f_callVv C (a := 101) (ci := 12) (As := fun B => []) o101 rfl (c_X12_amiss   _ _ h) tM_X12_222 tI_X12_amiss tS_X12_amiss tN_X12 tC_X12_amiss 0 dd_X12_amiss rfl (by decide) (by decide) rfl (Nat.le_of_ble_eq_true rfl) dX12_must_20 rfl (fun σ_3 h => ?_)
      exact f_vret C dX12_must_23 h
    · replace h := Eq.mp (if_neg hq_2) h
      refine f_aload_n C (j := 0) dX12_must_12 rfl rfl rfl ?_
      refine f_callVv C (a := 101) (ci := 12) (As := fun B => []) o101 rfl (c_X12_advance   _ _ h) tM_X12_219 tI_X12_advance tS_X12_advance tN_X12 tC_X12_advance 0 dd_X12_advance rfl (by decide) (by decide) rfl (Nat.le_of_ble_eq_true rfl) dX12_must_13 rfl (fun σ_5 h => ?_)
      refine f_goto C (t := 23) dX12_must_16 (by decide) ?_
      exact f_vret C dX12_must_23 h
  · replace h := Eq.mp (if_neg hq_1) h
    exact f_vret C dX12_must_7 h
theorem c_X12_must (x1 : Int32) (σ : Sto) (P : Sto → Prop) (h : w_X12_must x1 σ P) : Ct yX12_must cX12_must 2 none 2 42 (fun B => [.ref (B + 101), .int x1]) σ (QFv P) := Ct.of (by decide) (fun _ => Nat.le_of_ble_eq_true rfl) (fun B E C => s_X12_must C x1 σ h)
def w_X12_count_50 (σ : Sto) (P : Int32 → Sto → Prop) : Prop :=
  (if (gi σ 101 12) ≤ 0 then ∀ x3_4 : Int32, x3_4 = gi σ 101 17 → w_X12_advance σ (fun σ_6 => P x3_4 σ_6) else P 0 σ)
theorem s_X12_count_50 {B : Nat} {E : Nat → List (Nat × Value) → List Value → Sto → Prop} {P : Int32 → Sto → Prop} (C : Cy B E RX12 cX12_count 4 (some .int) 2 42 (Zm (QFi P))) (σ : Sto) (h : w_X12_count_50 σ P) : E 50 [(0, .ref (B + 101))] [] σ := by
  unfold w_X12_count_50 at h
  refine f_aload_n C (j := 0) dX12_count_50 rfl rfl rfl ?_
  refine f_geti C tF_X12_209 rfl o101 dX12_count_51 rfl ?_
  refine f_if_le C (t := 59) dX12_count_54 (by decide) rfl (fun hq_3 => ?_) (fun hq_3 => ?_)
  · replace h := Eq.mp (if_pos hq_3) h
    refine f_aload_n C (j := 0) dX12_count_59 rfl rfl rfl ?_
    refine f_geti C tF_X12_148 rfl o101 dX12_count_60 rfl ?_
    refine f_name (fun x3_4 hx_5 => ?_)
    replace h := h x3_4 hx_5
    refine f_istore_n C (lv2 := [(3, .int x3_4), (0, .ref (B + 101))]) dX12_count_63 rfl (by decide) rfl rfl ?_
    refine f_aload_n C (j := 1) dX12_count_64 rfl rfl rfl ?_
    refine f_callVv C (a := 101) (ci := 12) (As := fun B => []) o101 rfl (c_X12_advance   _ _ h) tM_X12_219 tI_X12_advance tS_X12_advance tN_X12 tC_X12_advance 0 dd_X12_advance rfl (by decide) (by decide) rfl (Nat.le_of_ble_eq_true rfl) dX12_count_65 rfl (fun σ_6 h => ?_)
    refine f_iload_n C (j := 0) dX12_count_68 rfl rfl rfl ?_
    exact f_iret C dX12_count_69 h
  · replace h := Eq.mp (if_neg hq_3) h
    refine f_iconst C (v := 0) dX12_count_57 kc0 rfl ?_
    exact f_iret C dX12_count_58 h
def w_X12_count_19 (x1 : Int32) (x2 : Int32) (σ : Sto) (P : Int32 → Sto → Prop) : Prop :=
  (if (gi σ 101 12) = 0 then w_X12_isIn ((gi σ 101 17).toInt64) x1.toInt64 x2.toInt64 σ (fun r_9 σ_8 => (if r_9 = 0 then w_X12_fail 4 (gi σ_8 101 15) σ_8 (fun σ_11 => w_X12_count_50 σ_11 P) else w_X12_count_50 σ_8 P)) else w_X12_count_50 σ P)
theorem s_X12_count_19 {B : Nat} {E : Nat → List (Nat × Value) → List Value → Sto → Prop} {P : Int32 → Sto → Prop} (C : Cy B E RX12 cX12_count 4 (some .int) 2 42 (Zm (QFi P))) (x1 : Int32) (x2 : Int32) (σ : Sto) (h : w_X12_count_19 x1 x2 σ P) : E 19 [(0, .ref (B + 101)), (1, .int x1), (2, .int x2)] [] σ := by
  unfold w_X12_count_19 at h
  refine f_aload_n C (j := 0) dX12_count_19 rfl rfl rfl ?_
  refine f_geti C tF_X12_209 rfl o101 dX12_count_20 rfl ?_
  refine f_if_ne C (t := 50) dX12_count_23 (by decide) rfl (fun hq_2 => ?_) (fun hq_2 => ?_)
  · replace h := Eq.mp (if_neg hq_2) h
    refine f_lv C (lv2 := [(0, .ref (B + 101))]) [0] rfl ?_
    exact s_X12_count_50 C  _ h
  · replace h := Eq.mp (if_pos hq_2) h
    refine f_aload_n C (j := 0) dX12_count_26 rfl rfl rfl ?_
    refine f_geti C tF_X12_148 rfl o101 dX12_count_27 rfl ?_
    refine f_i2l C dX12_count_30 rfl ?_
    refine f_iload_n C (j := 1) dX12_count_31 rfl rfl rfl ?_
    refine f_i2l C dX12_count_32 rfl ?_
    refine f_iload_n C (j := 2) dX12_count_33 rfl rfl rfl ?_
    refine f_i2l C dX12_count_34 rfl ?_
    refine f_callSi C (As := fun B => [.long ((gi σ 101 17).toInt64), .long x1.toInt64, .long x2.toInt64]) (c_X12_isIn  _ _ _ _ _ h) tM_X12_109 tT_X12_isIn tN_X12 tC_X12_isIn 3 dd_X12_isIn rfl (by decide) (by decide) rfl (Nat.le_of_ble_eq_true rfl) dX12_count_35 rfl (fun r_9 σ_8 h => ?_)
    refine f_if_ne C (t := 50) dX12_count_38 (by decide) rfl (fun hq_10 => ?_) (fun hq_10 => ?_)
    · replace h := Eq.mp (if_neg hq_10) h
      refine f_lv C (lv2 := [(0, .ref (B + 101))]) [0] rfl ?_
      exact s_X12_count_50 C  _ h
    · replace h := Eq.mp (if_pos hq_10) h
      refine f_aload_n C (j := 0) dX12_count_41 rfl rfl rfl ?_
      refine f_iconst C (v := 4) dX12_count_42 kc4 rfl ?_
      refine f_aload_n C (j := 0) dX12_count_43 rfl rfl rfl ?_
      refine f_geti C tF_X12_123 rfl o101 dX12_count_44 rfl ?_
      refine f_callVv C (a := 101) (ci := 12) (As := fun B => [.int 4, .int (gi σ_8 101 15)]) o101 rfl (c_X12_fail  _ _ _ _ h) tM_X12_215 tI_X12_fail tS_X12_fail tN_X12 tC_X12_fail 2 dd_X12_fail rfl (by decide) (by decide) rfl (Nat.le_of_ble_eq_true rfl) dX12_count_47 rfl (fun σ_11 h => ?_)
      refine f_lv C (lv2 := [(0, .ref (B + 101))]) [0] rfl ?_
      exact s_X12_count_50 C  _ h
def w_X12_count (x1 : Int32) (x2 : Int32) (σ : Sto) (P : Int32 → Sto → Prop) : Prop :=
  (if (gi σ 101 12) = 0 then (if (gi σ 101 14) = 2 then w_X12_count_19 x1 x2 σ P else w_X12_amiss σ (fun σ_14 => w_X12_count_19 x1 x2 σ_14 P)) else w_X12_count_19 x1 x2 σ P)
theorem s_X12_count {B : Nat} {E : Nat → List (Nat × Value) → List Value → Sto → Prop} {P : Int32 → Sto → Prop} (C : Cy B E RX12 cX12_count 4 (some .int) 2 42 (Zm (QFi P))) (x1 : Int32) (x2 : Int32) (σ : Sto) (h : w_X12_count x1 x2 σ P) : E 0 [(0, .ref (B + 101)), (1, .int x1), (2, .int x2)] [] σ := by
  unfold w_X12_count at h
  refine f_aload_n C (j := 0) dX12_count_0 rfl rfl rfl ?_
  refine f_geti C tF_X12_209 rfl o101 dX12_count_1 rfl ?_
  refine f_if_ne C (t := 19) dX12_count_4 (by decide) rfl (fun hq_1 => ?_) (fun hq_1 => ?_)
  · replace h := Eq.mp (if_neg hq_1) h
    exact s_X12_count_19 C _ _  _ h
  · replace h := Eq.mp (if_pos hq_1) h
    refine f_aload_n C (j := 0) dX12_count_7 rfl rfl rfl ?_
    refine f_geti C tF_X12_129 rfl o101 dX12_count_8 rfl ?_
    refine f_iconst C (v := 2) dX12_count_11 kc2 rfl ?_
    refine f_icmp_eq C (t := 19) dX12_count_12 (by decide) rfl (fun hq_13 => ?_) (fun hq_13 => ?_)
    · replace h := Eq.mp (if_pos hq_13) h
      exact s_X12_count_19 C _ _  _ h
    · replace h := Eq.mp (if_neg hq_13) h
      refine f_aload_n C (j := 0) dX12_count_15 rfl rfl rfl ?_
      refine f_callVv C (a := 101) (ci := 12) (As := fun B => []) o101 rfl (c_X12_amiss   _ _ h) tM_X12_222 tI_X12_amiss tS_X12_amiss tN_X12 tC_X12_amiss 0 dd_X12_amiss rfl (by decide) (by decide) rfl (Nat.le_of_ble_eq_true rfl) dX12_count_16 rfl (fun σ_14 h => ?_)
      exact s_X12_count_19 C _ _  _ h
theorem c_X12_count (x1 : Int32) (x2 : Int32) (σ : Sto) (P : Int32 → Sto → Prop) (h : w_X12_count x1 x2 σ P) : Ct yX12_count cX12_count 4 (some .int) 2 42 (fun B => [.ref (B + 101), .int x1, .int x2]) σ (QFi P) := Ct.of (by decide) (fun _ => Nat.le_of_ble_eq_true rfl) (fun B E C => s_X12_count C x1 x2 σ h)
def w_X12_lay_2 (K2 : Int32 × Sto → Prop) (x1 : Int32) (x2 : Int32) (σ : Sto) (P : Sto → Prop) : Prop :=
  (if x2 < 0 then P σ else vp_in (gi σ 101 8) 900 ∧ ∀ σ_3 : Sto, σ_3 = si σ 105 (tn (gi σ 101 8)) (vp_nar .byte ((x1 >>> ((8 * x2) &&& 31)).toInt8.toInt32)) → ∀ x2_5 : Int32, x2_5 = x2 + (-1) → K2 (x2_5, si σ_3 101 8 ((gi σ_3 101 8) + 1)))
theorem s_X12_lay_2 {B : Nat} {E : Nat → List (Nat × Value) → List Value → Sto → Prop} {P : Sto → Prop} (C : Cy B E RX12 cX12_lay 3 none 0 0 (Zm (QFv P))) (x1 : Int32) (x2 : Int32) (K2 : Int32 × Sto → Prop) (hK2 : ∀ (x2 : Int32) (σ : Sto), K2 (x2, σ) → E 2 [(0, .ref (B + 101)), (1, .int x1), (2, .int x2)] [] σ) (σ : Sto) (h : w_X12_lay_2 K2 x1 x2 σ P) : E 2 [(0, .ref (B + 101)), (1, .int x1), (2, .int x2)] [] σ := by
  unfold w_X12_lay_2 at h
  refine f_iload_n C (j := 2) dX12_lay_2 rfl rfl rfl ?_
  refine f_if_lt C (t := 38) dX12_lay_3 (by decide) rfl (fun hq_1 => ?_) (fun hq_1 => ?_)
  · replace h := Eq.mp (if_pos hq_1) h
    exact f_vret C dX12_lay_38 h
  · replace h := Eq.mp (if_neg hq_1) h
    refine f_aload_n C (j := 0) dX12_lay_6 rfl rfl rfl ?_
    refine f_getc C tF_X12_24 rfl o101 cs101_7 (by decide) dX12_lay_7 rfl ?_
    refine f_aload_n C (j := 0) dX12_lay_10 rfl rfl rfl ?_
    refine f_geti C tF_X12_225 rfl o101 dX12_lay_11 rfl ?_
    refine f_iload_n C (j := 1) dX12_lay_14 rfl rfl rfl ?_
    refine f_bipush C (v := 8) dX12_lay_15 kb8 rfl ?_
    refine f_iload_n C (j := 2) dX12_lay_17 rfl rfl rfl ?_
    refine f_imul C dX12_lay_18 rfl ?_
    refine f_ishr C dX12_lay_19 rfl ?_
    refine f_i2b C dX12_lay_20 rfl ?_
    obtain ⟨hi_2, h⟩ := h
    refine f_bast C (j := tn (gi σ 101 8)) a105 hi_2 rfl dX12_lay_21 rfl ?_
    refine f_aload_n C (j := 0) dX12_lay_22 rfl rfl rfl ?_
    refine f_dup C dX12_lay_23 rfl rfl ?_
    refine f_names (fun σ_3 hσ_4 => ?_)
    replace h := h σ_3 hσ_4
    refine f_geti C tF_X12_225 rfl o101 dX12_lay_24 rfl ?_
    refine f_iconst C (v := 1) dX12_lay_27 kc1 rfl ?_
    refine f_iadd C dX12_lay_28 rfl ?_
    refine f_puti C tF_X12_225 fm_12_8 rfl o101 dX12_lay_29 rfl ?_
    obtain ⟨x2_5, hx_6⟩ : ∃ y : Int32, y = x2 + (-1) := ⟨_, rfl⟩
    replace h := h x2_5 hx_6
    refine f_iinc C (j := 2) (v := x2_5) (lv2 := [(2, .int x2_5), (0, .ref (B + 101)), (1, .int x1)]) dX12_lay_32 rfl hx_6.symm (by decide) rfl rfl ?_
    refine f_goto C (t := 2) dX12_lay_35 (by decide) ?_
    refine f_lv C (lv2 := [(0, .ref (B + 101)), (1, .int x1), (2, .int x2_5)]) [1, 2, 0] rfl ?_
    exact hK2 _ _ h
def w_X12_lay (x1 : Int32) (σ : Sto) (P : Sto → Prop) : Prop :=
  Lp (fun (K : Int32 × Sto → Prop) s => w_X12_lay_2 K x1 s.1 s.2 P) (3, σ)
theorem s_X12_lay {B : Nat} {E : Nat → List (Nat × Value) → List Value → Sto → Prop} {P : Sto → Prop} (C : Cy B E RX12 cX12_lay 3 none 0 0 (Zm (QFv P))) (x1 : Int32) (σ : Sto) (h : w_X12_lay x1 σ P) : E 0 [(0, .ref (B + 101)), (1, .int x1)] [] σ := by
  unfold w_X12_lay at h
  refine f_iconst C (v := 3) dX12_lay_0 kc3 rfl ?_
  refine f_istore_n C (lv2 := [(2, .int 3), (0, .ref (B + 101)), (1, .int x1)]) dX12_lay_1 rfl (by decide) rfl rfl ?_
  refine f_lv C (lv2 := [(0, .ref (B + 101)), (1, .int x1), (2, .int 3)]) [1, 2, 0] rfl ?_
  exact Lp_sound (fun s : Int32 × Sto => E 2 [(0, .ref (B + 101)), (1, .int x1), (2, .int s.1)] [] s.2) h (fun K s hK h => s_X12_lay_2 C x1 s.1 K (fun x2 σ hk => hK (x2, σ) hk) s.2 h)
theorem c_X12_lay (x1 : Int32) (σ : Sto) (P : Sto → Prop) (h : w_X12_lay x1 σ P) : Ct yX12_lay cX12_lay 3 none 0 0 (fun B => [.ref (B + 101), .int x1]) σ (QFv P) := Ct.of (by decide) (fun _ => Nat.le_of_ble_eq_true rfl) (fun B E C => s_X12_lay C x1 σ h)
def w_X12_feed (x1 : Int32) (x2 : Int32) (x3 : Int32) (x4 : Int32) (x5 : Int32) (σ : Sto) (P : Int32 → Sto → Prop) : Prop :=
  ∀ σ_1 : Sto, σ_1 = si σ 101 1 0 → (if ((gi σ_1 101 8) + 20) ≤ 900 then w_X12_lay x1 σ_1 (fun σ_4 => w_X12_lay x2 σ_4 (fun σ_6 => w_X12_lay x3 σ_6 (fun σ_8 => w_X12_lay x4 σ_8 (fun σ_10 => w_X12_lay x5 σ_10 (fun σ_12 => P (gi σ_12 101 8) σ_12))))) else P (-1) σ_1)
theorem s_X12_feed {B : Nat} {E : Nat → List (Nat × Value) → List Value → Sto → Prop} {P : Int32 → Sto → Prop} (C : Cy B E RX12 cX12_feed 6 (some .int) 1 22 (Zm (QFi P))) (x1 : Int32) (x2 : Int32) (x3 : Int32) (x4 : Int32) (x5 : Int32) (σ : Sto) (h : w_X12_feed x1 x2 x3 x4 x5 σ P) : E 0 [(0, .ref (B + 101)), (1, .int x1), (2, .int x2), (3, .int x3), (4, .int x4), (5, .int x5)] [] σ := by
  unfold w_X12_feed at h
  refine f_aload_n C (j := 0) dX12_feed_0 rfl rfl rfl ?_
  refine f_iconst C (v := 0) dX12_feed_1 kc0 rfl ?_
  refine f_puti C tF_X12_74 fm_12_1 rfl o101 dX12_feed_2 rfl ?_
  refine f_aload_n C (j := 0) dX12_feed_5 rfl rfl rfl ?_
  refine f_names (fun σ_1 hσ_2 => ?_)
  replace h := h σ_1 hσ_2
  refine f_geti C tF_X12_225 rfl o101 dX12_feed_6 rfl ?_
  refine f_bipush C (v := 20) dX12_feed_9 kb20 rfl ?_
  refine f_iadd C dX12_feed_11 rfl ?_
  refine f_sipush C (v := 900) dX12_feed_12 ks900 rfl ?_
  refine f_icmp_le C (t := 20) dX12_feed_15 (by decide) rfl (fun hq_3 => ?_) (fun hq_3 => ?_)
  · replace h := Eq.mp (if_pos hq_3) h
    refine f_aload_n C (j := 0) dX12_feed_20 rfl rfl rfl ?_
    refine f_iload_n C (j := 1) dX12_feed_21 rfl rfl rfl ?_
    refine f_callVv C (a := 101) (ci := 12) (As := fun B => [.int x1]) o101 rfl (c_X12_lay  _ _ _ h) tM_X12_228 tI_X12_lay tS_X12_lay tN_X12 tC_X12_lay 1 dd_X12_lay rfl (by decide) (by decide) rfl (Nat.le_of_ble_eq_true rfl) dX12_feed_22 rfl (fun σ_4 h => ?_)
    refine f_aload_n C (j := 0) dX12_feed_25 rfl rfl rfl ?_
    refine f_iload_n C (j := 2) dX12_feed_26 rfl rfl rfl ?_
    refine f_callVv C (a := 101) (ci := 12) (As := fun B => [.int x2]) o101 rfl (c_X12_lay  _ _ _ h) tM_X12_228 tI_X12_lay tS_X12_lay tN_X12 tC_X12_lay 1 dd_X12_lay rfl (by decide) (by decide) rfl (Nat.le_of_ble_eq_true rfl) dX12_feed_27 rfl (fun σ_6 h => ?_)
    refine f_aload_n C (j := 0) dX12_feed_30 rfl rfl rfl ?_
    refine f_iload_n C (j := 3) dX12_feed_31 rfl rfl rfl ?_
    refine f_callVv C (a := 101) (ci := 12) (As := fun B => [.int x3]) o101 rfl (c_X12_lay  _ _ _ h) tM_X12_228 tI_X12_lay tS_X12_lay tN_X12 tC_X12_lay 1 dd_X12_lay rfl (by decide) (by decide) rfl (Nat.le_of_ble_eq_true rfl) dX12_feed_32 rfl (fun σ_8 h => ?_)
    refine f_aload_n C (j := 0) dX12_feed_35 rfl rfl rfl ?_
    refine f_iload C (j := 4) dX12_feed_36 rfl rfl ?_
    refine f_callVv C (a := 101) (ci := 12) (As := fun B => [.int x4]) o101 rfl (c_X12_lay  _ _ _ h) tM_X12_228 tI_X12_lay tS_X12_lay tN_X12 tC_X12_lay 1 dd_X12_lay rfl (by decide) (by decide) rfl (Nat.le_of_ble_eq_true rfl) dX12_feed_38 rfl (fun σ_10 h => ?_)
    refine f_aload_n C (j := 0) dX12_feed_41 rfl rfl rfl ?_
    refine f_iload C (j := 5) dX12_feed_42 rfl rfl ?_
    refine f_callVv C (a := 101) (ci := 12) (As := fun B => [.int x5]) o101 rfl (c_X12_lay  _ _ _ h) tM_X12_228 tI_X12_lay tS_X12_lay tN_X12 tC_X12_lay 1 dd_X12_lay rfl (by decide) (by decide) rfl (Nat.le_of_ble_eq_true rfl) dX12_feed_44 rfl (fun σ_12 h => ?_)
    refine f_aload_n C (j := 0) dX12_feed_47 rfl rfl rfl ?_
    refine f_geti C tF_X12_225 rfl o101 dX12_feed_48 rfl ?_
    exact f_iret C dX12_feed_51 h
  · replace h := Eq.mp (if_neg hq_3) h
    refine f_iconst C (v := (-1)) dX12_feed_18 kcm1 rfl ?_
    exact f_iret C dX12_feed_19 h
theorem c_X12_feed (x1 : Int32) (x2 : Int32) (x3 : Int32) (x4 : Int32) (x5 : Int32) (σ : Sto) (P : Int32 → Sto → Prop) (h : w_X12_feed x1 x2 x3 x4 x5 σ P) : Ct yX12_feed cX12_feed 6 (some .int) 1 22 (fun B => [.ref (B + 101), .int x1, .int x2, .int x3, .int x4, .int x5]) σ (QFi P) := Ct.of (by decide) (fun _ => Nat.le_of_ble_eq_true rfl) (fun B E C => s_X12_feed C x1 x2 x3 x4 x5 σ h)
def w_X12_starts_17 (σ : Sto) (P : Int32 → Sto → Prop) : Prop :=
  w_X12_no 5 σ (fun r_3 σ_2 => (r_3 = 0 ∨ r_3 = 1) ∧ P r_3 σ_2)
theorem s_X12_starts_17 {B : Nat} {E : Nat → List (Nat × Value) → List Value → Sto → Prop} {P : Int32 → Sto → Prop} (C : Cy B E RX12 cX12_starts 3 (some .boolean) 2 42 (Zm (QFi P))) (σ : Sto) (h : w_X12_starts_17 σ P) : E 17 [(0, .ref (B + 101))] [] σ := by
  unfold w_X12_starts_17 at h
  refine f_aload_n C (j := 0) dX12_starts_17 rfl rfl rfl ?_
  refine f_iconst C (v := 5) dX12_starts_18 kc5 rfl ?_
  refine f_callVi C (a := 101) (ci := 12) (As := fun B => [.int 5]) o101 rfl (c_X12_no  _ _ _ h) tM_X12_89 tI_X12_no tS_X12_no tN_X12 tC_X12_no 1 dd_X12_no rfl (by decide) (by decide) rfl (Nat.le_of_ble_eq_true rfl) dX12_starts_19 rfl (fun r_3 σ_2 h => ?_)
  obtain ⟨hb_4, h⟩ := h
  exact f_zret C hb_4 dX12_starts_22 h
def w_X12_starts (x1 : Int32) (x2 : Int32) (σ : Sto) (P : Int32 → Sto → Prop) : Prop :=
  (if x1 < 0 then w_X12_starts_17 σ P else (if (gi σ 101 8) < x1 then w_X12_starts_17 σ P else (if x1 ≤ x2 then w_X12_advance (si (si (si (si σ 101 9 x1) 101 8 0) 101 16 0) 101 12 0) (fun σ_7 => P 1 σ_7) else w_X12_starts_17 σ P)))
theorem s_X12_starts {B : Nat} {E : Nat → List (Nat × Value) → List Value → Sto → Prop} {P : Int32 → Sto → Prop} (C : Cy B E RX12 cX12_starts 3 (some .boolean) 2 42 (Zm (QFi P))) (x1 : Int32) (x2 : Int32) (σ : Sto) (h : w_X12_starts x1 x2 σ P) : E 0 [(0, .ref (B + 101)), (1, .int x1), (2, .int x2)] [] σ := by
  unfold w_X12_starts at h
  refine f_iload_n C (j := 1) dX12_starts_0 rfl rfl rfl ?_
  refine f_if_lt C (t := 17) dX12_starts_1 (by decide) rfl (fun hq_1 => ?_) (fun hq_1 => ?_)
  · replace h := Eq.mp (if_pos hq_1) h
    refine f_lv C (lv2 := [(0, .ref (B + 101))]) [0] rfl ?_
    exact s_X12_starts_17 C  _ h
  · replace h := Eq.mp (if_neg hq_1) h
    refine f_iload_n C (j := 1) dX12_starts_4 rfl rfl rfl ?_
    refine f_aload_n C (j := 0) dX12_starts_5 rfl rfl rfl ?_
    refine f_geti C tF_X12_225 rfl o101 dX12_starts_6 rfl ?_
    refine f_icmp_gt C (t := 17) dX12_starts_9 (by decide) rfl (fun hq_5 => ?_) (fun hq_5 => ?_)
    · replace h := Eq.mp (if_pos hq_5) h
      refine f_lv C (lv2 := [(0, .ref (B + 101))]) [0] rfl ?_
      exact s_X12_starts_17 C  _ h
    · replace h := Eq.mp (if_neg hq_5) h
      refine f_iload_n C (j := 1) dX12_starts_12 rfl rfl rfl ?_
      refine f_iload_n C (j := 2) dX12_starts_13 rfl rfl rfl ?_
      refine f_icmp_le C (t := 23) dX12_starts_14 (by decide) rfl (fun hq_6 => ?_) (fun hq_6 => ?_)
      · replace h := Eq.mp (if_pos hq_6) h
        refine f_aload_n C (j := 0) dX12_starts_23 rfl rfl rfl ?_
        refine f_iload_n C (j := 1) dX12_starts_24 rfl rfl rfl ?_
        refine f_puti C tF_X12_117 fm_12_9 rfl o101 dX12_starts_25 rfl ?_
        refine f_aload_n C (j := 0) dX12_starts_28 rfl rfl rfl ?_
        refine f_iconst C (v := 0) dX12_starts_29 kc0 rfl ?_
        refine f_puti C tF_X12_225 fm_12_8 rfl o101 dX12_starts_30 rfl ?_
        refine f_aload_n C (j := 0) dX12_starts_33 rfl rfl rfl ?_
        refine f_iconst C (v := 0) dX12_starts_34 kc0 rfl ?_
        refine f_puti C tF_X12_120 fm_12_16 rfl o101 dX12_starts_35 rfl ?_
        refine f_aload_n C (j := 0) dX12_starts_38 rfl rfl rfl ?_
        refine f_iconst C (v := 0) dX12_starts_39 kc0 rfl ?_
        refine f_puti C tF_X12_209 fm_12_12 rfl o101 dX12_starts_40 rfl ?_
        refine f_aload_n C (j := 0) dX12_starts_43 rfl rfl rfl ?_
        refine f_callVv C (a := 101) (ci := 12) (As := fun B => []) o101 rfl (c_X12_advance   _ _ h) tM_X12_219 tI_X12_advance tS_X12_advance tN_X12 tC_X12_advance 0 dd_X12_advance rfl (by decide) (by decide) rfl (Nat.le_of_ble_eq_true rfl) dX12_starts_44 rfl (fun σ_7 h => ?_)
        refine f_iconst C (v := 1) dX12_starts_47 kc1 rfl ?_
        exact f_zret C (Or.inr rfl) dX12_starts_48 h
      · replace h := Eq.mp (if_neg hq_6) h
        refine f_lv C (lv2 := [(0, .ref (B + 101))]) [0] rfl ?_
        exact s_X12_starts_17 C  _ h
theorem c_X12_starts (x1 : Int32) (x2 : Int32) (σ : Sto) (P : Int32 → Sto → Prop) (h : w_X12_starts x1 x2 σ P) : Ct yX12_starts cX12_starts 3 (some .boolean) 2 42 (fun B => [.ref (B + 101), .int x1, .int x2]) σ (QFi P) := Ct.of (by decide) (fun _ => Nat.le_of_ble_eq_true rfl) (fun B E C => s_X12_starts C x1 x2 σ h)
def w_X12_isWell_24 (z0 : Int32) (σ : Sto) (P : Int32 → Sto → Prop) : Prop :=
  ∀ σ_4 : Sto, σ_4 = si σ 101 11 z0 → (if (gi σ_4 101 12) = 0 then P 1 σ_4 else w_X12_no 10 σ_4 (fun r_8 σ_7 => (if r_8 = 0 then P 0 σ_7 else P 1 σ_7)))
theorem s_X12_isWell_24 {B : Nat} {E : Nat → List (Nat × Value) → List Value → Sto → Prop} {P : Int32 → Sto → Prop} (C : Cy B E RX12 cX12_isWell 1 (some .boolean) 1 21 (Zm (QFi P))) (z0 : Int32) (σ : Sto) (h : w_X12_isWell_24 z0 σ P) : E 24 [(0, .ref (B + 101))] [.int z0, .ref (B + 101)] σ := by
  unfold w_X12_isWell_24 at h
  refine f_puti C tF_X12_32 fm_12_11 rfl o101 dX12_isWell_24 rfl ?_
  refine f_aload_n C (j := 0) dX12_isWell_27 rfl rfl rfl ?_
  refine f_names (fun σ_4 hσ_5 => ?_)
  replace h := h σ_4 hσ_5
  refine f_geti C tF_X12_209 rfl o101 dX12_isWell_28 rfl ?_
  refine f_if_eq C (t := 43) dX12_isWell_31 (by decide) rfl (fun hq_6 => ?_) (fun hq_6 => ?_)
  · replace h := Eq.mp (if_pos hq_6) h
    refine f_iconst C (v := 1) dX12_isWell_43 kc1 rfl ?_
    refine f_goto C (t := 48) dX12_isWell_44 (by decide) ?_
    exact f_zret C (Or.inr rfl) dX12_isWell_48 h
  · replace h := Eq.mp (if_neg hq_6) h
    refine f_aload_n C (j := 0) dX12_isWell_34 rfl rfl rfl ?_
    refine f_bipush C (v := 10) dX12_isWell_35 kb10 rfl ?_
    refine f_callVi C (a := 101) (ci := 12) (As := fun B => [.int 10]) o101 rfl (c_X12_no  _ _ _ h) tM_X12_89 tI_X12_no tS_X12_no tN_X12 tC_X12_no 1 dd_X12_no rfl (by decide) (by decide) rfl (Nat.le_of_ble_eq_true rfl) dX12_isWell_37 rfl (fun r_8 σ_7 h => ?_)
    refine f_if_eq C (t := 47) dX12_isWell_40 (by decide) rfl (fun hq_9 => ?_) (fun hq_9 => ?_)
    · replace h := Eq.mp (if_pos hq_9) h
      refine f_iconst C (v := 0) dX12_isWell_47 kc0 rfl ?_
      exact f_zret C (Or.inl rfl) dX12_isWell_48 h
    · replace h := Eq.mp (if_neg hq_9) h
      refine f_iconst C (v := 1) dX12_isWell_43 kc1 rfl ?_
      refine f_goto C (t := 48) dX12_isWell_44 (by decide) ?_
      exact f_zret C (Or.inr rfl) dX12_isWell_48 h
def w_X12_isWell (σ : Sto) (P : Int32 → Sto → Prop) : Prop :=
  ∀ σ_1 : Sto, σ_1 = si σ 101 10 (gi σ 101 12) → (if (gi σ_1 101 12) = 0 then w_X12_isWell_24 (-1) σ_1 P else w_X12_isWell_24 (gi σ_1 101 13) σ_1 P)
theorem s_X12_isWell {B : Nat} {E : Nat → List (Nat × Value) → List Value → Sto → Prop} {P : Int32 → Sto → Prop} (C : Cy B E RX12 cX12_isWell 1 (some .boolean) 1 21 (Zm (QFi P))) (σ : Sto) (h : w_X12_isWell σ P) : E 0 [(0, .ref (B + 101))] [] σ := by
  unfold w_X12_isWell at h
  refine f_aload_n C (j := 0) dX12_isWell_0 rfl rfl rfl ?_
  refine f_aload_n C (j := 0) dX12_isWell_1 rfl rfl rfl ?_
  refine f_geti C tF_X12_209 rfl o101 dX12_isWell_2 rfl ?_
  refine f_puti C tF_X12_28 fm_12_10 rfl o101 dX12_isWell_5 rfl ?_
  refine f_aload_n C (j := 0) dX12_isWell_8 rfl rfl rfl ?_
  refine f_aload_n C (j := 0) dX12_isWell_9 rfl rfl rfl ?_
  refine f_names (fun σ_1 hσ_2 => ?_)
  replace h := h σ_1 hσ_2
  refine f_geti C tF_X12_209 rfl o101 dX12_isWell_10 rfl ?_
  refine f_if_ne C (t := 20) dX12_isWell_13 (by decide) rfl (fun hq_3 => ?_) (fun hq_3 => ?_)
  · replace h := Eq.mp (if_neg hq_3) h
    refine f_aload_n C (j := 0) dX12_isWell_20 rfl rfl rfl ?_
    refine f_geti C tF_X12_212 rfl o101 dX12_isWell_21 rfl ?_
    exact s_X12_isWell_24 C _  _ h
  · replace h := Eq.mp (if_pos hq_3) h
    refine f_iconst C (v := (-1)) dX12_isWell_16 kcm1 rfl ?_
    refine f_goto C (t := 24) dX12_isWell_17 (by decide) ?_
    exact s_X12_isWell_24 C _  _ h
theorem c_X12_isWell (σ : Sto) (P : Int32 → Sto → Prop) (h : w_X12_isWell σ P) : Ct yX12_isWell cX12_isWell 1 (some .boolean) 1 21 (fun B => [.ref (B + 101)]) σ (QFi P) := Ct.of (by decide) (fun _ => Nat.le_of_ble_eq_true rfl) (fun B E C => s_X12_isWell C σ h)
def w_X12_fault (x1 : Int32) (σ : Sto) (P : Int32 → Sto → Prop) : Prop :=
  (if x1 = 0 then ∀ σ_5 : Sto, σ_5 = si σ 101 1 0 → P (gi σ_5 101 10) σ_5 else (if x1 = 1 then ∀ σ_3 : Sto, σ_3 = si σ 101 1 0 → P (gi σ_3 101 11) σ_3 else P (-1) (si σ 101 1 0)))
theorem s_X12_fault {B : Nat} {E : Nat → List (Nat × Value) → List Value → Sto → Prop} {P : Int32 → Sto → Prop} (C : Cy B E RX12 cX12_fault 2 (some .int) 0 0 (Zm (QFi P))) (x1 : Int32) (σ : Sto) (h : w_X12_fault x1 σ P) : E 0 [(0, .ref (B + 101)), (1, .int x1)] [] σ := by
  unfold w_X12_fault at h
  refine f_aload_n C (j := 0) dX12_fault_0 rfl rfl rfl ?_
  refine f_iconst C (v := 0) dX12_fault_1 kc0 rfl ?_
  refine f_puti C tF_X12_74 fm_12_1 rfl o101 dX12_fault_2 rfl ?_
  refine f_iload_n C (j := 1) dX12_fault_5 rfl rfl rfl ?_
  refine f_if_ne C (t := 16) dX12_fault_6 (by decide) rfl (fun hq_1 => ?_) (fun hq_1 => ?_)
  · replace h := Eq.mp (if_neg hq_1) h
    refine f_iload_n C (j := 1) dX12_fault_16 rfl rfl rfl ?_
    refine f_iconst C (v := 1) dX12_fault_17 kc1 rfl ?_
    refine f_icmp_ne C (t := 28) dX12_fault_18 (by decide) rfl (fun hq_2 => ?_) (fun hq_2 => ?_)
    · replace h := Eq.mp (if_neg hq_2) h
      refine f_iconst C (v := (-1)) dX12_fault_28 kcm1 rfl ?_
      exact f_iret C dX12_fault_29 h
    · replace h := Eq.mp (if_pos hq_2) h
      refine f_aload_n C (j := 0) dX12_fault_21 rfl rfl rfl ?_
      refine f_names (fun σ_3 hσ_4 => ?_)
      replace h := h σ_3 hσ_4
      refine f_geti C tF_X12_32 rfl o101 dX12_fault_22 rfl ?_
      refine f_goto C (t := 29) dX12_fault_25 (by decide) ?_
      exact f_iret C dX12_fault_29 h
  · replace h := Eq.mp (if_pos hq_1) h
    refine f_aload_n C (j := 0) dX12_fault_9 rfl rfl rfl ?_
    refine f_names (fun σ_5 hσ_6 => ?_)
    replace h := h σ_5 hσ_6
    refine f_geti C tF_X12_28 rfl o101 dX12_fault_10 rfl ?_
    refine f_goto C (t := 29) dX12_fault_13 (by decide) ?_
    exact f_iret C dX12_fault_29 h
theorem c_X12_fault (x1 : Int32) (σ : Sto) (P : Int32 → Sto → Prop) (h : w_X12_fault x1 σ P) : Ct yX12_fault cX12_fault 2 (some .int) 0 0 (fun B => [.ref (B + 101), .int x1]) σ (QFi P) := Ct.of (by decide) (fun _ => Nat.le_of_ble_eq_true rfl) (fun B E C => s_X12_fault C x1 σ h)
def w_X12_fromOf (x0 : Int32) (σ : Sto) (P : Int32 → Sto → Prop) : Prop :=
  (if x0 = 0 then P 0 σ else (if x0 = 1 then P 12 σ else P 18 σ))
theorem s_X12_fromOf {B : Nat} {E : Nat → List (Nat × Value) → List Value → Sto → Prop} {P : Int32 → Sto → Prop} (C : Cy B E RX12 cX12_fromOf 1 (some .int) 0 0 (Zm (QFi P))) (x0 : Int32) (σ : Sto) (h : w_X12_fromOf x0 σ P) : E 0 [(0, .int x0)] [] σ := by
  unfold w_X12_fromOf at h
  refine f_iload_n C (j := 0) dX12_fromOf_0 rfl rfl rfl ?_
  refine f_if_ne C (t := 8) dX12_fromOf_1 (by decide) rfl (fun hq_1 => ?_) (fun hq_1 => ?_)
  · replace h := Eq.mp (if_neg hq_1) h
    refine f_iload_n C (j := 0) dX12_fromOf_8 rfl rfl rfl ?_
    refine f_iconst C (v := 1) dX12_fromOf_9 kc1 rfl ?_
    refine f_icmp_ne C (t := 18) dX12_fromOf_10 (by decide) rfl (fun hq_2 => ?_) (fun hq_2 => ?_)
    · replace h := Eq.mp (if_neg hq_2) h
      refine f_bipush C (v := 18) dX12_fromOf_18 kb18 rfl ?_
      exact f_iret C dX12_fromOf_20 h
    · replace h := Eq.mp (if_pos hq_2) h
      refine f_bipush C (v := 12) dX12_fromOf_13 kb12 rfl ?_
      refine f_goto C (t := 20) dX12_fromOf_15 (by decide) ?_
      exact f_iret C dX12_fromOf_20 h
  · replace h := Eq.mp (if_pos hq_1) h
    refine f_iconst C (v := 0) dX12_fromOf_4 kc0 rfl ?_
    refine f_goto C (t := 20) dX12_fromOf_5 (by decide) ?_
    exact f_iret C dX12_fromOf_20 h
theorem c_X12_fromOf (x0 : Int32) (σ : Sto) (P : Int32 → Sto → Prop) (h : w_X12_fromOf x0 σ P) : Ct yX12_fromOf cX12_fromOf 1 (some .int) 0 0 (fun B => [.int x0]) σ (QFi P) := Ct.of (by decide) (fun _ => Nat.le_of_ble_eq_true rfl) (fun B E C => s_X12_fromOf C x0 σ h)
def w_X12_manyOf (x0 : Int32) (σ : Sto) (P : Int32 → Sto → Prop) : Prop :=
  (if x0 = 0 then P 0 σ else (if x0 = 1 then P 2 σ else P 3 σ))
theorem s_X12_manyOf {B : Nat} {E : Nat → List (Nat × Value) → List Value → Sto → Prop} {P : Int32 → Sto → Prop} (C : Cy B E RX12 cX12_manyOf 1 (some .int) 0 0 (Zm (QFi P))) (x0 : Int32) (σ : Sto) (h : w_X12_manyOf x0 σ P) : E 0 [(0, .int x0)] [] σ := by
  unfold w_X12_manyOf at h
  refine f_iload_n C (j := 0) dX12_manyOf_0 rfl rfl rfl ?_
  refine f_if_ne C (t := 8) dX12_manyOf_1 (by decide) rfl (fun hq_1 => ?_) (fun hq_1 => ?_)
  · replace h := Eq.mp (if_neg hq_1) h
    refine f_iload_n C (j := 0) dX12_manyOf_8 rfl rfl rfl ?_
    refine f_iconst C (v := 1) dX12_manyOf_9 kc1 rfl ?_
    refine f_icmp_ne C (t := 17) dX12_manyOf_10 (by decide) rfl (fun hq_2 => ?_) (fun hq_2 => ?_)
    · replace h := Eq.mp (if_neg hq_2) h
      refine f_iconst C (v := 3) dX12_manyOf_17 kc3 rfl ?_
      exact f_iret C dX12_manyOf_18 h
    · replace h := Eq.mp (if_pos hq_2) h
      refine f_iconst C (v := 2) dX12_manyOf_13 kc2 rfl ?_
      refine f_goto C (t := 18) dX12_manyOf_14 (by decide) ?_
      exact f_iret C dX12_manyOf_18 h
  · replace h := Eq.mp (if_pos hq_1) h
    refine f_iconst C (v := 0) dX12_manyOf_4 kc0 rfl ?_
    refine f_goto C (t := 18) dX12_manyOf_5 (by decide) ?_
    exact f_iret C dX12_manyOf_18 h
theorem c_X12_manyOf (x0 : Int32) (σ : Sto) (P : Int32 → Sto → Prop) (h : w_X12_manyOf x0 σ P) : Ct yX12_manyOf cX12_manyOf 1 (some .int) 0 0 (fun B => [.int x0]) σ (QFi P) := Ct.of (by decide) (fun _ => Nat.le_of_ble_eq_true rfl) (fun B E C => s_X12_manyOf C x0 σ h)
def w_X12_named_2 (K2 : Int32 × Sto → Prop) (x1 : Int32) (x2 : Int32) (x3 : Int32) (σ : Sto) (P : Int32 → Sto → Prop) : Prop :=
  w_X12_manyOf x2 σ (fun r_2 σ_1 => vp_in ((421 * x1) + r_2) 2105 ∧ (if (gi σ_1 106 (tn ((421 * x1) + r_2))) ≤ x3 then P (-1) σ_1 else w_X12_fromOf x2 σ_1 (fun r_6 σ_5 => vp_in (((24 * x1) + r_6) + x3) 120 ∧ (if (lg_cmp (gl σ_5 108 (tn (((24 * x1) + r_6) + x3))) (gl σ_5 101 19)) = 0 then P x3 σ_5 else ∀ x3_9 : Int32, x3_9 = x3 + 1 → K2 (x3_9, σ_5)))))
theorem s_X12_named_2 {B : Nat} {E : Nat → List (Nat × Value) → List Value → Sto → Prop} {P : Int32 → Sto → Prop} (C : Cy B E RX12 cX12_named 4 (some .int) 1 20 (Zm (QFi P))) (x1 : Int32) (x2 : Int32) (x3 : Int32) (K2 : Int32 × Sto → Prop) (hK2 : ∀ (x3 : Int32) (σ : Sto), K2 (x3, σ) → E 2 [(0, .ref (B + 101)), (1, .int x1), (2, .int x2), (3, .int x3)] [] σ) (σ : Sto) (h : w_X12_named_2 K2 x1 x2 x3 σ P) : E 2 [(0, .ref (B + 101)), (1, .int x1), (2, .int x2), (3, .int x3)] [] σ := by
  unfold w_X12_named_2 at h
  refine f_iload_n C (j := 3) dX12_named_2 rfl rfl rfl ?_
  refine f_aload_n C (j := 0) dX12_named_3 rfl rfl rfl ?_
  refine f_getc C tF_X12_35 rfl o101 cs101_20 (by decide) dX12_named_4 rfl ?_
  refine f_sipush C (v := 421) dX12_named_7 ks421 rfl ?_
  refine f_iload_n C (j := 1) dX12_named_10 rfl rfl rfl ?_
  refine f_imul C dX12_named_11 rfl ?_
  refine f_iload_n C (j := 2) dX12_named_12 rfl rfl rfl ?_
  refine f_callSi C (As := fun B => [.int x2]) (c_X12_manyOf  _ _ _ h) tM_X12_232 tT_X12_manyOf tN_X12 tC_X12_manyOf 1 dd_X12_manyOf rfl (by decide) (by decide) rfl (Nat.le_of_ble_eq_true rfl) dX12_named_13 rfl (fun r_2 σ_1 h => ?_)
  refine f_iadd C dX12_named_16 rfl ?_
  obtain ⟨hi_3, h⟩ := h
  refine f_iald C (j := tn ((421 * x1) + r_2)) a106 hi_3 rfl dX12_named_17 rfl ?_
  refine f_icmp_ge C (t := 53) dX12_named_18 (by decide) rfl (fun hq_4 => ?_) (fun hq_4 => ?_)
  · replace h := Eq.mp (if_pos hq_4) h
    refine f_iconst C (v := (-1)) dX12_named_53 kcm1 rfl ?_
    exact f_iret C dX12_named_54 h
  · replace h := Eq.mp (if_neg hq_4) h
    refine f_aload_n C (j := 0) dX12_named_21 rfl rfl rfl ?_
    refine f_getc C tF_X12_41 rfl o101 cs101_22 (by decide) dX12_named_22 rfl ?_
    refine f_bipush C (v := 24) dX12_named_25 kb24 rfl ?_
    refine f_iload_n C (j := 1) dX12_named_27 rfl rfl rfl ?_
    refine f_imul C dX12_named_28 rfl ?_
    refine f_iload_n C (j := 2) dX12_named_29 rfl rfl rfl ?_
    refine f_callSi C (As := fun B => [.int x2]) (c_X12_fromOf  _ _ _ h) tM_X12_235 tT_X12_fromOf tN_X12 tC_X12_fromOf 1 dd_X12_fromOf rfl (by decide) (by decide) rfl (Nat.le_of_ble_eq_true rfl) dX12_named_30 rfl (fun r_6 σ_5 h => ?_)
    refine f_iadd C dX12_named_33 rfl ?_
    refine f_iload_n C (j := 3) dX12_named_34 rfl rfl rfl ?_
    refine f_iadd C dX12_named_35 rfl ?_
    obtain ⟨hi_7, h⟩ := h
    refine f_lald C (j := tn (((24 * x1) + r_6) + x3)) a108 hi_7 rfl dX12_named_36 rfl ?_
    refine f_aload_n C (j := 0) dX12_named_37 rfl rfl rfl ?_
    refine f_getl C tF_X12_135 rfl o101 dX12_named_38 rfl ?_
    refine f_lcmp C dX12_named_41 rfl ?_
    refine f_if_ne C (t := 47) dX12_named_42 (by decide) rfl (fun hq_8 => ?_) (fun hq_8 => ?_)
    · replace h := Eq.mp (if_neg hq_8) h
      obtain ⟨x3_9, hx_10⟩ : ∃ y : Int32, y = x3 + 1 := ⟨_, rfl⟩
      replace h := h x3_9 hx_10
      refine f_iinc C (j := 3) (v := x3_9) (lv2 := [(3, .int x3_9), (0, .ref (B + 101)), (1, .int x1), (2, .int x2)]) dX12_named_47 rfl hx_10.symm (by decide) rfl rfl ?_
      refine f_goto C (t := 2) dX12_named_50 (by decide) ?_
      refine f_lv C (lv2 := [(0, .ref (B + 101)), (1, .int x1), (2, .int x2), (3, .int x3_9)]) [1, 2, 3, 0] rfl ?_
      exact hK2 _ _ h
    · replace h := Eq.mp (if_pos hq_8) h
      refine f_iload_n C (j := 3) dX12_named_45 rfl rfl rfl ?_
      exact f_iret C dX12_named_46 h
def w_X12_named (x1 : Int32) (x2 : Int32) (σ : Sto) (P : Int32 → Sto → Prop) : Prop :=
  Lp (fun (K : Int32 × Sto → Prop) s => w_X12_named_2 K x1 x2 s.1 s.2 P) (0, σ)
theorem s_X12_named {B : Nat} {E : Nat → List (Nat × Value) → List Value → Sto → Prop} {P : Int32 → Sto → Prop} (C : Cy B E RX12 cX12_named 4 (some .int) 1 20 (Zm (QFi P))) (x1 : Int32) (x2 : Int32) (σ : Sto) (h : w_X12_named x1 x2 σ P) : E 0 [(0, .ref (B + 101)), (1, .int x1), (2, .int x2)] [] σ := by
  unfold w_X12_named at h
  refine f_iconst C (v := 0) dX12_named_0 kc0 rfl ?_
  refine f_istore_n C (lv2 := [(3, .int 0), (0, .ref (B + 101)), (1, .int x1), (2, .int x2)]) dX12_named_1 rfl (by decide) rfl rfl ?_
  refine f_lv C (lv2 := [(0, .ref (B + 101)), (1, .int x1), (2, .int x2), (3, .int 0)]) [1, 2, 3, 0] rfl ?_
  exact Lp_sound (fun s : Int32 × Sto => E 2 [(0, .ref (B + 101)), (1, .int x1), (2, .int x2), (3, .int s.1)] [] s.2) h (fun K s hK h => s_X12_named_2 C x1 x2 s.1 K (fun x3 σ hk => hK (x3, σ) hk) s.2 h)
theorem c_X12_named (x1 : Int32) (x2 : Int32) (σ : Sto) (P : Int32 → Sto → Prop) (h : w_X12_named x1 x2 σ P) : Ct yX12_named cX12_named 4 (some .int) 1 20 (fun B => [.ref (B + 101), .int x1, .int x2]) σ (QFi P) := Ct.of (by decide) (fun _ => Nat.le_of_ble_eq_true rfl) (fun B E C => s_X12_named C x1 x2 σ h)
def w_X12_readNew_96 (x1 : Int32) (x3 : Int32) (σ : Sto) (P : Int32 → Sto → Prop) : Prop :=
  (if (gi σ 101 12) ≤ 0 then w_X12_fromOf x1 σ (fun r_16 σ_15 => vp_in ((96 + r_16) + x3) 120 ∧ w_X12_advance (sl σ_15 108 (tn ((96 + r_16) + x3)) (gl σ_15 101 19)) (fun σ_18 => P x3 σ_18)) else P 0 σ)
theorem s_X12_readNew_96 {B : Nat} {E : Nat → List (Nat × Value) → List Value → Sto → Prop} {P : Int32 → Sto → Prop} (C : Cy B E RX12 cX12_readNew 4 (some .int) 4 87 (Zm (QFi P))) (x1 : Int32) (x3 : Int32) (σ : Sto) (h : w_X12_readNew_96 x1 x3 σ P) : E 96 [(0, .ref (B + 101)), (1, .int x1), (3, .int x3)] [] σ := by
  unfold w_X12_readNew_96 at h
  refine f_aload_n C (j := 0) dX12_readNew_96 rfl rfl rfl ?_
  refine f_geti C tF_X12_209 rfl o101 dX12_readNew_97 rfl ?_
  refine f_if_le C (t := 105) dX12_readNew_100 (by decide) rfl (fun hq_14 => ?_) (fun hq_14 => ?_)
  · replace h := Eq.mp (if_pos hq_14) h
    refine f_aload_n C (j := 0) dX12_readNew_105 rfl rfl rfl ?_
    refine f_getc C tF_X12_41 rfl o101 cs101_22 (by decide) dX12_readNew_106 rfl ?_
    refine f_bipush C (v := 96) dX12_readNew_109 kb96 rfl ?_
    refine f_iload_n C (j := 1) dX12_readNew_111 rfl rfl rfl ?_
    refine f_callSi C (As := fun B => [.int x1]) (c_X12_fromOf  _ _ _ h) tM_X12_235 tT_X12_fromOf tN_X12 tC_X12_fromOf 1 dd_X12_fromOf rfl (by decide) (by decide) rfl (Nat.le_of_ble_eq_true rfl) dX12_readNew_112 rfl (fun r_16 σ_15 h => ?_)
    refine f_iadd C dX12_readNew_115 rfl ?_
    refine f_iload_n C (j := 2) dX12_readNew_116 rfl rfl rfl ?_
    refine f_iadd C dX12_readNew_117 rfl ?_
    refine f_aload_n C (j := 0) dX12_readNew_118 rfl rfl rfl ?_
    refine f_getl C tF_X12_135 rfl o101 dX12_readNew_119 rfl ?_
    obtain ⟨hi_17, h⟩ := h
    refine f_last C (j := tn ((96 + r_16) + x3)) a108 hi_17 rfl dX12_readNew_122 rfl ?_
    refine f_aload_n C (j := 0) dX12_readNew_123 rfl rfl rfl ?_
    refine f_callVv C (a := 101) (ci := 12) (As := fun B => []) o101 rfl (c_X12_advance   _ _ h) tM_X12_219 tI_X12_advance tS_X12_advance tN_X12 tC_X12_advance 0 dd_X12_advance rfl (by decide) (by decide) rfl (Nat.le_of_ble_eq_true rfl) dX12_readNew_124 rfl (fun σ_18 h => ?_)
    refine f_iload_n C (j := 2) dX12_readNew_127 rfl rfl rfl ?_
    exact f_iret C dX12_readNew_128 h
  · replace h := Eq.mp (if_neg hq_14) h
    refine f_iconst C (v := 0) dX12_readNew_103 kc0 rfl ?_
    exact f_iret C dX12_readNew_104 h
def w_X12_readNew_87 (x1 : Int32) (x3 : Int32) (σ : Sto) (P : Int32 → Sto → Prop) : Prop :=
  w_X12_fail 3 (gi σ 101 15) σ (fun σ_23 => w_X12_readNew_96 x1 x3 σ_23 P)
theorem s_X12_readNew_87 {B : Nat} {E : Nat → List (Nat × Value) → List Value → Sto → Prop} {P : Int32 → Sto → Prop} (C : Cy B E RX12 cX12_readNew 4 (some .int) 4 87 (Zm (QFi P))) (x1 : Int32) (x3 : Int32) (σ : Sto) (h : w_X12_readNew_87 x1 x3 σ P) : E 87 [(0, .ref (B + 101)), (1, .int x1), (3, .int x3)] [] σ := by
  unfold w_X12_readNew_87 at h
  refine f_aload_n C (j := 0) dX12_readNew_87 rfl rfl rfl ?_
  refine f_iconst C (v := 3) dX12_readNew_88 kc3 rfl ?_
  refine f_aload_n C (j := 0) dX12_readNew_89 rfl rfl rfl ?_
  refine f_geti C tF_X12_123 rfl o101 dX12_readNew_90 rfl ?_
  refine f_callVv C (a := 101) (ci := 12) (As := fun B => [.int 3, .int (gi σ 101 15)]) o101 rfl (c_X12_fail  _ _ _ _ h) tM_X12_215 tI_X12_fail tS_X12_fail tN_X12 tC_X12_fail 2 dd_X12_fail rfl (by decide) (by decide) rfl (Nat.le_of_ble_eq_true rfl) dX12_readNew_93 rfl (fun σ_23 h => ?_)
  exact s_X12_readNew_96 C _ _  _ h
def w_X12_readNew_53 (x1 : Int32) (x3 : Int32) (σ : Sto) (P : Int32 → Sto → Prop) : Prop :=
  (if (gi σ 101 12) = 0 then w_X12_named 4 0 σ (fun r_21 σ_20 => (if 0 ≤ r_21 then w_X12_readNew_87 x1 x3 σ_20 P else w_X12_named 4 1 σ_20 (fun r_26 σ_25 => (if 0 ≤ r_26 then w_X12_readNew_87 x1 x3 σ_25 P else w_X12_named 4 2 σ_25 (fun r_29 σ_28 => (if r_29 < 0 then w_X12_readNew_96 x1 x3 σ_28 P else w_X12_readNew_87 x1 x3 σ_28 P)))))) else w_X12_readNew_96 x1 x3 σ P)
theorem s_X12_readNew_53 {B : Nat} {E : Nat → List (Nat × Value) → List Value → Sto → Prop} {P : Int32 → Sto → Prop} (C : Cy B E RX12 cX12_readNew 4 (some .int) 4 87 (Zm (QFi P))) (x1 : Int32) (x3 : Int32) (σ : Sto) (h : w_X12_readNew_53 x1 x3 σ P) : E 53 [(0, .ref (B + 101)), (1, .int x1), (3, .int x3)] [] σ := by
  unfold w_X12_readNew_53 at h
  refine f_aload_n C (j := 0) dX12_readNew_53 rfl rfl rfl ?_
  refine f_geti C tF_X12_209 rfl o101 dX12_readNew_54 rfl ?_
  refine f_if_ne C (t := 96) dX12_readNew_57 (by decide) rfl (fun hq_13 => ?_) (fun hq_13 => ?_)
  · replace h := Eq.mp (if_neg hq_13) h
    exact s_X12_readNew_96 C _ _  _ h
  · replace h := Eq.mp (if_pos hq_13) h
    refine f_aload_n C (j := 0) dX12_readNew_60 rfl rfl rfl ?_
    refine f_iconst C (v := 4) dX12_readNew_61 kc4 rfl ?_
    refine f_iconst C (v := 0) dX12_readNew_62 kc0 rfl ?_
    refine f_callVi C (a := 101) (ci := 12) (As := fun B => [.int 4, .int 0]) o101 rfl (c_X12_named  _ _ _ _ h) tM_X12_241 tI_X12_named tS_X12_named tN_X12 tC_X12_named 2 dd_X12_named rfl (by decide) (by decide) rfl (Nat.le_of_ble_eq_true rfl) dX12_readNew_63 rfl (fun r_21 σ_20 h => ?_)
    refine f_if_ge C (t := 87) dX12_readNew_66 (by decide) rfl (fun hq_22 => ?_) (fun hq_22 => ?_)
    · replace h := Eq.mp (if_pos hq_22) h
      exact s_X12_readNew_87 C _ _  _ h
    · replace h := Eq.mp (if_neg hq_22) h
      refine f_aload_n C (j := 0) dX12_readNew_69 rfl rfl rfl ?_
      refine f_iconst C (v := 4) dX12_readNew_70 kc4 rfl ?_
      refine f_iconst C (v := 1) dX12_readNew_71 kc1 rfl ?_
      refine f_callVi C (a := 101) (ci := 12) (As := fun B => [.int 4, .int 1]) o101 rfl (c_X12_named  _ _ _ _ h) tM_X12_241 tI_X12_named tS_X12_named tN_X12 tC_X12_named 2 dd_X12_named rfl (by decide) (by decide) rfl (Nat.le_of_ble_eq_true rfl) dX12_readNew_72 rfl (fun r_26 σ_25 h => ?_)
      refine f_if_ge C (t := 87) dX12_readNew_75 (by decide) rfl (fun hq_27 => ?_) (fun hq_27 => ?_)
      · replace h := Eq.mp (if_pos hq_27) h
        exact s_X12_readNew_87 C _ _  _ h
      · replace h := Eq.mp (if_neg hq_27) h
        refine f_aload_n C (j := 0) dX12_readNew_78 rfl rfl rfl ?_
        refine f_iconst C (v := 4) dX12_readNew_79 kc4 rfl ?_
        refine f_iconst C (v := 2) dX12_readNew_80 kc2 rfl ?_
        refine f_callVi C (a := 101) (ci := 12) (As := fun B => [.int 4, .int 2]) o101 rfl (c_X12_named  _ _ _ _ h) tM_X12_241 tI_X12_named tS_X12_named tN_X12 tC_X12_named 2 dd_X12_named rfl (by decide) (by decide) rfl (Nat.le_of_ble_eq_true rfl) dX12_readNew_81 rfl (fun r_29 σ_28 h => ?_)
        refine f_if_lt C (t := 96) dX12_readNew_84 (by decide) rfl (fun hq_30 => ?_) (fun hq_30 => ?_)
        · replace h := Eq.mp (if_pos hq_30) h
          exact s_X12_readNew_96 C _ _  _ h
        · replace h := Eq.mp (if_neg hq_30) h
          exact s_X12_readNew_87 C _ _  _ h
def w_X12_readNew_29 (x1 : Int32) (x3 : Int32) (σ : Sto) (P : Int32 → Sto → Prop) : Prop :=
  (if (gi σ 101 12) ≤ 0 then w_X12_advance σ (fun σ_8 => w_X12_isName σ_8 (fun r_11 σ_10 => (if r_11 = 0 then w_X12_amiss σ_10 (fun σ_31 => w_X12_readNew_53 x1 x3 σ_31 P) else w_X12_readNew_53 x1 x3 σ_10 P))) else P 0 σ)
theorem s_X12_readNew_29 {B : Nat} {E : Nat → List (Nat × Value) → List Value → Sto → Prop} {P : Int32 → Sto → Prop} (C : Cy B E RX12 cX12_readNew 4 (some .int) 4 87 (Zm (QFi P))) (x1 : Int32) (x3 : Int32) (σ : Sto) (h : w_X12_readNew_29 x1 x3 σ P) : E 29 [(0, .ref (B + 101)), (1, .int x1), (3, .int x3)] [] σ := by
  unfold w_X12_readNew_29 at h
  refine f_aload_n C (j := 0) dX12_readNew_29 rfl rfl rfl ?_
  refine f_geti C tF_X12_209 rfl o101 dX12_readNew_30 rfl ?_
  refine f_if_le C (t := 38) dX12_readNew_33 (by decide) rfl (fun hq_7 => ?_) (fun hq_7 => ?_)
  · replace h := Eq.mp (if_pos hq_7) h
    refine f_aload_n C (j := 0) dX12_readNew_38 rfl rfl rfl ?_
    refine f_callVv C (a := 101) (ci := 12) (As := fun B => []) o101 rfl (c_X12_advance   _ _ h) tM_X12_219 tI_X12_advance tS_X12_advance tN_X12 tC_X12_advance 0 dd_X12_advance rfl (by decide) (by decide) rfl (Nat.le_of_ble_eq_true rfl) dX12_readNew_39 rfl (fun σ_8 h => ?_)
    refine f_aload_n C (j := 0) dX12_readNew_42 rfl rfl rfl ?_
    refine f_callVi C (a := 101) (ci := 12) (As := fun B => []) o101 rfl (c_X12_isName   _ _ h) tM_X12_238 tI_X12_isName tS_X12_isName tN_X12 tC_X12_isName 0 dd_X12_isName rfl (by decide) (by decide) rfl (Nat.le_of_ble_eq_true rfl) dX12_readNew_43 rfl (fun r_11 σ_10 h => ?_)
    refine f_if_ne C (t := 53) dX12_readNew_46 (by decide) rfl (fun hq_12 => ?_) (fun hq_12 => ?_)
    · replace h := Eq.mp (if_neg hq_12) h
      exact s_X12_readNew_53 C _ _  _ h
    · replace h := Eq.mp (if_pos hq_12) h
      refine f_aload_n C (j := 0) dX12_readNew_49 rfl rfl rfl ?_
      refine f_callVv C (a := 101) (ci := 12) (As := fun B => []) o101 rfl (c_X12_amiss   _ _ h) tM_X12_222 tI_X12_amiss tS_X12_amiss tN_X12 tC_X12_amiss 0 dd_X12_amiss rfl (by decide) (by decide) rfl (Nat.le_of_ble_eq_true rfl) dX12_readNew_50 rfl (fun σ_31 h => ?_)
      exact s_X12_readNew_53 C _ _  _ h
  · replace h := Eq.mp (if_neg hq_7) h
    refine f_iconst C (v := 0) dX12_readNew_36 kc0 rfl ?_
    exact f_iret C dX12_readNew_37 h
def w_X12_readNew (x1 : Int32) (x2 : Int32) (σ : Sto) (P : Int32 → Sto → Prop) : Prop :=
  w_X12_manyOf x1 σ (fun r_2 σ_1 => vp_in (1684 + r_2) 2105 ∧ ∀ x3_4 : Int32, x3_4 = gi σ_1 106 (tn (1684 + r_2)) → (if x3_4 = x2 then w_X12_fail 6 (gi σ_1 101 15) σ_1 (fun σ_33 => w_X12_readNew_29 x1 x3_4 σ_33 P) else w_X12_readNew_29 x1 x3_4 σ_1 P))
theorem s_X12_readNew {B : Nat} {E : Nat → List (Nat × Value) → List Value → Sto → Prop} {P : Int32 → Sto → Prop} (C : Cy B E RX12 cX12_readNew 4 (some .int) 4 87 (Zm (QFi P))) (x1 : Int32) (x2 : Int32) (σ : Sto) (h : w_X12_readNew x1 x2 σ P) : E 0 [(0, .ref (B + 101)), (1, .int x1), (2, .int x2)] [] σ := by
  unfold w_X12_readNew at h
  refine f_aload_n C (j := 0) dX12_readNew_0 rfl rfl rfl ?_
  refine f_getc C tF_X12_35 rfl o101 cs101_20 (by decide) dX12_readNew_1 rfl ?_
  refine f_sipush C (v := 1684) dX12_readNew_4 ks1684 rfl ?_
  refine f_iload_n C (j := 1) dX12_readNew_7 rfl rfl rfl ?_
  refine f_callSi C (As := fun B => [.int x1]) (c_X12_manyOf  _ _ _ h) tM_X12_232 tT_X12_manyOf tN_X12 tC_X12_manyOf 1 dd_X12_manyOf rfl (by decide) (by decide) rfl (Nat.le_of_ble_eq_true rfl) dX12_readNew_8 rfl (fun r_2 σ_1 h => ?_)
  refine f_iadd C dX12_readNew_11 rfl ?_
  obtain ⟨hi_3, h⟩ := h
  refine f_iald C (j := tn (1684 + r_2)) a106 hi_3 rfl dX12_readNew_12 rfl ?_
  refine f_name (fun x3_4 hx_5 => ?_)
  replace h := h x3_4 hx_5
  refine f_istore_n C (lv2 := [(3, .int x3_4), (0, .ref (B + 101)), (1, .int x1), (2, .int x2)]) dX12_readNew_13 rfl (by decide) rfl rfl ?_
  refine f_iload_n C (j := 0) dX12_readNew_14 rfl rfl rfl ?_
  refine f_iload_n C (j := 3) dX12_readNew_15 rfl rfl rfl ?_
  refine f_icmp_ne C (t := 29) dX12_readNew_16 (by decide) rfl (fun hq_6 => ?_) (fun hq_6 => ?_)
  · replace h := Eq.mp (if_neg hq_6) h
    refine f_lv C (lv2 := [(0, .ref (B + 101)), (1, .int x1), (3, .int x3_4)]) [1, 2, 0] rfl ?_
    exact s_X12_readNew_29 C _ _  _ h
  · replace h := Eq.mp (if_pos hq_6) h
    refine f_aload_n C (j := 1) dX12_readNew_19 rfl rfl rfl ?_
    refine f_bipush C (v := 6) dX12_readNew_20 kb6 rfl ?_
    refine f_aload_n C (j := 1) dX12_readNew_22 rfl rfl rfl ?_
    refine f_geti C tF_X12_123 rfl o101 dX12_readNew_23 rfl ?_
    refine f_callVv C (a := 101) (ci := 12) (As := fun B => [.int 6, .int (gi σ_1 101 15)]) o101 rfl (c_X12_fail  _ _ _ _ h) tM_X12_215 tI_X12_fail tS_X12_fail tN_X12 tC_X12_fail 2 dd_X12_fail rfl (by decide) (by decide) rfl (Nat.le_of_ble_eq_true rfl) dX12_readNew_26 rfl (fun σ_33 h => ?_)
    refine f_lv C (lv2 := [(0, .ref (B + 101)), (1, .int x1), (3, .int x3_4)]) [1, 2, 0] rfl ?_
    exact s_X12_readNew_29 C _ _  _ h
theorem c_X12_readNew (x1 : Int32) (x2 : Int32) (σ : Sto) (P : Int32 → Sto → Prop) (h : w_X12_readNew x1 x2 σ P) : Ct yX12_readNew cX12_readNew 4 (some .int) 4 87 (fun B => [.ref (B + 101), .int x1, .int x2]) σ (QFi P) := Ct.of (by decide) (fun _ => Nat.le_of_ble_eq_true rfl) (fun B E C => s_X12_readNew C x1 x2 σ h)
def w_X12_readTold_67 (x4 : Int32) (σ : Sto) (P : Int32 → Sto → Prop) : Prop :=
  w_X12_must 1 σ (fun σ_7 => P (if (0 : Int32) < x4 then x4 else (0 : Int32)) σ_7)
theorem s_X12_readTold_67 {B : Nat} {E : Nat → List (Nat × Value) → List Value → Sto → Prop} {P : Int32 → Sto → Prop} (C : Cy B E RX12 cX12_readTold 5 (some .int) 4 87 (Zm (QFi P))) (x4 : Int32) (σ : Sto) (h : w_X12_readTold_67 x4 σ P) : E 67 [(0, .ref (B + 101)), (4, .int x4)] [] σ := by
  unfold w_X12_readTold_67 at h
  refine f_aload_n C (j := 0) dX12_readTold_67 rfl rfl rfl ?_
  refine f_iconst C (v := 1) dX12_readTold_68 kc1 rfl ?_
  refine f_callVv C (a := 101) (ci := 12) (As := fun B => [.int 1]) o101 rfl (c_X12_must  _ _ _ h) tM_X12_244 tI_X12_must tS_X12_must tN_X12 tC_X12_must 1 dd_X12_must rfl (by decide) (by decide) rfl (Nat.le_of_ble_eq_true rfl) dX12_readTold_69 rfl (fun σ_7 h => ?_)
  refine f_iconst C (v := 0) dX12_readTold_72 kc0 rfl ?_
  refine f_iload C (j := 1) dX12_readTold_73 rfl rfl ?_
  refine f_mmax C tM_X12_248 tT_J9_max_7cf53 tN_J9 tC_J9_max_7cf53 (by decide) (by decide) (Nat.le_of_ble_eq_true rfl) dX12_readTold_75 rfl ?_
  exact f_iret C dX12_readTold_78 h
def w_X12_readTold_18 (x1 : Int32) (x2 : Int32) (x3 : Int32) (σ : Sto) (P : Int32 → Sto → Prop) : Prop :=
  (if (gi σ 101 12) ≤ 0 then w_X12_named x1 x2 σ (fun r_4 σ_3 => (if 0 ≤ r_4 then (if r_4 = x3 then w_X12_fail 5 (gi σ_3 101 15) σ_3 (fun σ_9 => w_X12_readTold_67 r_4 σ_9 P) else w_X12_readTold_67 r_4 σ_3 P) else w_X12_fail 3 (gi σ_3 101 15) σ_3 (fun σ_11 => w_X12_readTold_67 r_4 σ_11 P))) else P 0 σ)
theorem s_X12_readTold_18 {B : Nat} {E : Nat → List (Nat × Value) → List Value → Sto → Prop} {P : Int32 → Sto → Prop} (C : Cy B E RX12 cX12_readTold 5 (some .int) 4 87 (Zm (QFi P))) (x1 : Int32) (x2 : Int32) (x3 : Int32) (σ : Sto) (h : w_X12_readTold_18 x1 x2 x3 σ P) : E 18 [(0, .ref (B + 101)), (1, .int x1), (2, .int x2), (3, .int x3)] [] σ := by
  unfold w_X12_readTold_18 at h
  refine f_aload_n C (j := 0) dX12_readTold_18 rfl rfl rfl ?_
  refine f_geti C tF_X12_209 rfl o101 dX12_readTold_19 rfl ?_
  refine f_if_le C (t := 27) dX12_readTold_22 (by decide) rfl (fun hq_2 => ?_) (fun hq_2 => ?_)
  · replace h := Eq.mp (if_pos hq_2) h
    refine f_aload_n C (j := 0) dX12_readTold_27 rfl rfl rfl ?_
    refine f_iload_n C (j := 1) dX12_readTold_28 rfl rfl rfl ?_
    refine f_iload_n C (j := 2) dX12_readTold_29 rfl rfl rfl ?_
    refine f_callVi C (a := 101) (ci := 12) (As := fun B => [.int x1, .int x2]) o101 rfl (c_X12_named  _ _ _ _ h) tM_X12_241 tI_X12_named tS_X12_named tN_X12 tC_X12_named 2 dd_X12_named rfl (by decide) (by decide) rfl (Nat.le_of_ble_eq_true rfl) dX12_readTold_30 rfl (fun r_4 σ_3 h => ?_)
    refine f_istore C (lv2 := [(4, .int r_4), (0, .ref (B + 101)), (1, .int x1), (2, .int x2), (3, .int x3)]) dX12_readTold_33 (by decide) rfl rfl ?_
    refine f_iload C (j := 0) dX12_readTold_35 rfl rfl ?_
    refine f_if_ge C (t := 52) dX12_readTold_37 (by decide) rfl (fun hq_5 => ?_) (fun hq_5 => ?_)
    · replace h := Eq.mp (if_pos hq_5) h
      refine f_iload C (j := 0) dX12_readTold_52 rfl rfl ?_
      refine f_iload_n C (j := 4) dX12_readTold_54 rfl rfl rfl ?_
      refine f_icmp_ne C (t := 67) dX12_readTold_55 (by decide) rfl (fun hq_6 => ?_) (fun hq_6 => ?_)
      · replace h := Eq.mp (if_neg hq_6) h
        refine f_lv C (lv2 := [(0, .ref (B + 101)), (4, .int r_4)]) [1, 0] rfl ?_
        exact s_X12_readTold_67 C _  _ h
      · replace h := Eq.mp (if_pos hq_6) h
        refine f_aload_n C (j := 1) dX12_readTold_58 rfl rfl rfl ?_
        refine f_iconst C (v := 5) dX12_readTold_59 kc5 rfl ?_
        refine f_aload_n C (j := 1) dX12_readTold_60 rfl rfl rfl ?_
        refine f_geti C tF_X12_123 rfl o101 dX12_readTold_61 rfl ?_
        refine f_callVv C (a := 101) (ci := 12) (As := fun B => [.int 5, .int (gi σ_3 101 15)]) o101 rfl (c_X12_fail  _ _ _ _ h) tM_X12_215 tI_X12_fail tS_X12_fail tN_X12 tC_X12_fail 2 dd_X12_fail rfl (by decide) (by decide) rfl (Nat.le_of_ble_eq_true rfl) dX12_readTold_64 rfl (fun σ_9 h => ?_)
        refine f_lv C (lv2 := [(0, .ref (B + 101)), (4, .int r_4)]) [1, 0] rfl ?_
        exact s_X12_readTold_67 C _  _ h
    · replace h := Eq.mp (if_neg hq_5) h
      refine f_aload_n C (j := 1) dX12_readTold_40 rfl rfl rfl ?_
      refine f_iconst C (v := 3) dX12_readTold_41 kc3 rfl ?_
      refine f_aload_n C (j := 1) dX12_readTold_42 rfl rfl rfl ?_
      refine f_geti C tF_X12_123 rfl o101 dX12_readTold_43 rfl ?_
      refine f_callVv C (a := 101) (ci := 12) (As := fun B => [.int 3, .int (gi σ_3 101 15)]) o101 rfl (c_X12_fail  _ _ _ _ h) tM_X12_215 tI_X12_fail tS_X12_fail tN_X12 tC_X12_fail 2 dd_X12_fail rfl (by decide) (by decide) rfl (Nat.le_of_ble_eq_true rfl) dX12_readTold_46 rfl (fun σ_11 h => ?_)
      refine f_goto C (t := 67) dX12_readTold_49 (by decide) ?_
      refine f_lv C (lv2 := [(0, .ref (B + 101)), (4, .int r_4)]) [1, 0] rfl ?_
      exact s_X12_readTold_67 C _  _ h
  · replace h := Eq.mp (if_neg hq_2) h
    refine f_iconst C (v := 0) dX12_readTold_25 kc0 rfl ?_
    exact f_iret C dX12_readTold_26 h
def w_X12_readTold (x1 : Int32) (x2 : Int32) (x3 : Int32) (σ : Sto) (P : Int32 → Sto → Prop) : Prop :=
  (if (gi σ 101 12) = 0 then w_X12_isName σ (fun r_14 σ_13 => (if r_14 = 0 then w_X12_amiss σ_13 (fun σ_16 => w_X12_readTold_18 x1 x2 x3 σ_16 P) else w_X12_readTold_18 x1 x2 x3 σ_13 P)) else w_X12_readTold_18 x1 x2 x3 σ P)
theorem s_X12_readTold {B : Nat} {E : Nat → List (Nat × Value) → List Value → Sto → Prop} {P : Int32 → Sto → Prop} (C : Cy B E RX12 cX12_readTold 5 (some .int) 4 87 (Zm (QFi P))) (x1 : Int32) (x2 : Int32) (x3 : Int32) (σ : Sto) (h : w_X12_readTold x1 x2 x3 σ P) : E 0 [(0, .ref (B + 101)), (1, .int x1), (2, .int x2), (3, .int x3)] [] σ := by
  unfold w_X12_readTold at h
  refine f_aload_n C (j := 0) dX12_readTold_0 rfl rfl rfl ?_
  refine f_geti C tF_X12_209 rfl o101 dX12_readTold_1 rfl ?_
  refine f_if_ne C (t := 18) dX12_readTold_4 (by decide) rfl (fun hq_1 => ?_) (fun hq_1 => ?_)
  · replace h := Eq.mp (if_neg hq_1) h
    exact s_X12_readTold_18 C _ _ _  _ h
  · replace h := Eq.mp (if_pos hq_1) h
    refine f_aload_n C (j := 0) dX12_readTold_7 rfl rfl rfl ?_
    refine f_callVi C (a := 101) (ci := 12) (As := fun B => []) o101 rfl (c_X12_isName   _ _ h) tM_X12_238 tI_X12_isName tS_X12_isName tN_X12 tC_X12_isName 0 dd_X12_isName rfl (by decide) (by decide) rfl (Nat.le_of_ble_eq_true rfl) dX12_readTold_8 rfl (fun r_14 σ_13 h => ?_)
    refine f_if_ne C (t := 18) dX12_readTold_11 (by decide) rfl (fun hq_15 => ?_) (fun hq_15 => ?_)
    · replace h := Eq.mp (if_neg hq_15) h
      exact s_X12_readTold_18 C _ _ _  _ h
    · replace h := Eq.mp (if_pos hq_15) h
      refine f_aload_n C (j := 0) dX12_readTold_14 rfl rfl rfl ?_
      refine f_callVv C (a := 101) (ci := 12) (As := fun B => []) o101 rfl (c_X12_amiss   _ _ h) tM_X12_222 tI_X12_amiss tS_X12_amiss tN_X12 tC_X12_amiss 0 dd_X12_amiss rfl (by decide) (by decide) rfl (Nat.le_of_ble_eq_true rfl) dX12_readTold_15 rfl (fun σ_16 h => ?_)
      exact s_X12_readTold_18 C _ _ _  _ h
theorem c_X12_readTold (x1 : Int32) (x2 : Int32) (x3 : Int32) (σ : Sto) (P : Int32 → Sto → Prop) (h : w_X12_readTold x1 x2 x3 σ P) : Ct yX12_readTold cX12_readTold 5 (some .int) 4 87 (fun B => [.ref (B + 101), .int x1, .int x2, .int x3]) σ (QFi P) := Ct.of (by decide) (fun _ => Nat.le_of_ble_eq_true rfl) (fun B E C => s_X12_readTold C x1 x2 x3 σ h)
def w_X12_readThings_4 (K4 : Int32 × Int32 × Sto → Prop) (x1 : Int32) (x2 : Int32) (x3 : Int32) (σ : Sto) (P : Int32 → Sto → Prop) : Prop :=
  (if (gi σ 101 12) = 0 then (if x3 = 0 then P x2 σ else w_X12_readTold 4 0 x1 σ (fun r_4 σ_3 => ∀ x2_5 : Int32, x2_5 = x2 ||| (1 <<< (r_4 &&& 31)) → (if (gi σ_3 101 14) = 1 then K4 (x2_5, 1, σ_3) else K4 (x2_5, 0, σ_3)))) else P x2 σ)
theorem s_X12_readThings_4 {B : Nat} {E : Nat → List (Nat × Value) → List Value → Sto → Prop} {P : Int32 → Sto → Prop} (C : Cy B E RX12 cX12_readThings 4 (some .int) 5 111 (Zm (QFi P))) (x1 : Int32) (x2 : Int32) (x3 : Int32) (K4 : Int32 × Int32 × Sto → Prop) (hK4 : ∀ (x2 : Int32) (x3 : Int32) (σ : Sto), K4 (x2, x3, σ) → E 4 [(0, .ref (B + 101)), (1, .int x1), (2, .int x2), (3, .int x3)] [] σ) (σ : Sto) (h : w_X12_readThings_4 K4 x1 x2 x3 σ P) : E 4 [(0, .ref (B + 101)), (1, .int x1), (2, .int x2), (3, .int x3)] [] σ := by
  unfold w_X12_readThings_4 at h
  refine f_aload_n C (j := 0) dX12_readThings_4 rfl rfl rfl ?_
  refine f_geti C tF_X12_209 rfl o101 dX12_readThings_5 rfl ?_
  refine f_if_ne C (t := 44) dX12_readThings_8 (by decide) rfl (fun hq_1 => ?_) (fun hq_1 => ?_)
  · replace h := Eq.mp (if_neg hq_1) h
    refine f_iload_n C (j := 2) dX12_readThings_44 rfl rfl rfl ?_
    exact f_iret C dX12_readThings_45 h
  · replace h := Eq.mp (if_pos hq_1) h
    refine f_iload_n C (j := 3) dX12_readThings_11 rfl rfl rfl ?_
    refine f_if_eq C (t := 44) dX12_readThings_12 (by decide) rfl (fun hq_2 => ?_) (fun hq_2 => ?_)
    · replace h := Eq.mp (if_pos hq_2) h
      refine f_iload_n C (j := 2) dX12_readThings_44 rfl rfl rfl ?_
      exact f_iret C dX12_readThings_45 h
    · replace h := Eq.mp (if_neg hq_2) h
      refine f_iload_n C (j := 2) dX12_readThings_15 rfl rfl rfl ?_
      refine f_iconst C (v := 1) dX12_readThings_16 kc1 rfl ?_
      refine f_aload_n C (j := 0) dX12_readThings_17 rfl rfl rfl ?_
      refine f_iconst C (v := 4) dX12_readThings_18 kc4 rfl ?_
      refine f_iconst C (v := 0) dX12_readThings_19 kc0 rfl ?_
      refine f_iload_n C (j := 1) dX12_readThings_20 rfl rfl rfl ?_
      refine f_callVi C (a := 101) (ci := 12) (As := fun B => [.int 4, .int 0, .int x1]) o101 rfl (c_X12_readTold  _ _ _ _ _ h) tM_X12_251 tI_X12_readTold tS_X12_readTold tN_X12 tC_X12_readTold 3 dd_X12_readTold rfl (by decide) (by decide) rfl (Nat.le_of_ble_eq_true rfl) dX12_readThings_21 rfl (fun r_4 σ_3 h => ?_)
      refine f_ishl C dX12_readThings_24 rfl ?_
      refine f_ior C dX12_readThings_25 rfl ?_
      refine f_name (fun x2_5 hx_6 => ?_)
      replace h := h x2_5 hx_6
      refine f_istore_n C (lv2 := [(2, .int x2_5), (0, .ref (B + 101)), (1, .int x1), (3, .int x3)]) dX12_readThings_26 rfl (by decide) rfl rfl ?_
      refine f_aload_n C (j := 1) dX12_readThings_27 rfl rfl rfl ?_
      refine f_geti C tF_X12_129 rfl o101 dX12_readThings_28 rfl ?_
      refine f_iconst C (v := 1) dX12_readThings_31 kc1 rfl ?_
      refine f_icmp_ne C (t := 39) dX12_readThings_32 (by decide) rfl (fun hq_7 => ?_) (fun hq_7 => ?_)
      · replace h := Eq.mp (if_neg hq_7) h
        refine f_iconst C (v := 0) dX12_readThings_39 kc0 rfl ?_
        refine f_istore_n C (lv2 := [(3, .int 0), (2, .int x2_5), (0, .ref (B + 101)), (1, .int x1)]) dX12_readThings_40 rfl (by decide) rfl rfl ?_
        refine f_goto C (t := 4) dX12_readThings_41 (by decide) ?_
        refine f_lv C (lv2 := [(0, .ref (B + 101)), (1, .int x1), (2, .int x2_5), (3, .int 0)]) [2, 3, 1, 0] rfl ?_
        exact hK4 _ _ _ h
      · replace h := Eq.mp (if_pos hq_7) h
        refine f_iconst C (v := 1) dX12_readThings_35 kc1 rfl ?_
        refine f_goto C (t := 40) dX12_readThings_36 (by decide) ?_
        refine f_istore_n C (lv2 := [(3, .int 1), (2, .int x2_5), (0, .ref (B + 101)), (1, .int x1)]) dX12_readThings_40 rfl (by decide) rfl rfl ?_
        refine f_goto C (t := 4) dX12_readThings_41 (by decide) ?_
        refine f_lv C (lv2 := [(0, .ref (B + 101)), (1, .int x1), (2, .int x2_5), (3, .int 1)]) [2, 3, 1, 0] rfl ?_
        exact hK4 _ _ _ h
def w_X12_readThings (x1 : Int32) (σ : Sto) (P : Int32 → Sto → Prop) : Prop :=
  Lp (fun (K : Int32 × Int32 × Sto → Prop) s => w_X12_readThings_4 K x1 s.1 s.2.1 s.2.2 P) (0, 1, σ)
theorem s_X12_readThings {B : Nat} {E : Nat → List (Nat × Value) → List Value → Sto → Prop} {P : Int32 → Sto → Prop} (C : Cy B E RX12 cX12_readThings 4 (some .int) 5 111 (Zm (QFi P))) (x1 : Int32) (σ : Sto) (h : w_X12_readThings x1 σ P) : E 0 [(0, .ref (B + 101)), (1, .int x1)] [] σ := by
  unfold w_X12_readThings at h
  refine f_iconst C (v := 0) dX12_readThings_0 kc0 rfl ?_
  refine f_istore_n C (lv2 := [(2, .int 0), (0, .ref (B + 101)), (1, .int x1)]) dX12_readThings_1 rfl (by decide) rfl rfl ?_
  refine f_iconst C (v := 1) dX12_readThings_2 kc1 rfl ?_
  refine f_istore_n C (lv2 := [(3, .int 1), (2, .int 0), (0, .ref (B + 101)), (1, .int x1)]) dX12_readThings_3 rfl (by decide) rfl rfl ?_
  refine f_lv C (lv2 := [(0, .ref (B + 101)), (1, .int x1), (2, .int 0), (3, .int 1)]) [2, 3, 1, 0] rfl ?_
  exact Lp_sound (fun s : Int32 × Int32 × Sto => E 4 [(0, .ref (B + 101)), (1, .int x1), (2, .int s.1), (3, .int s.2.1)] [] s.2.2) h (fun K s hK h => s_X12_readThings_4 C x1 s.1 s.2.1 K (fun x2 x3 σ hk => hK (x2, x3, σ) hk) s.2.2 h)
theorem c_X12_readThings (x1 : Int32) (σ : Sto) (P : Int32 → Sto → Prop) (h : w_X12_readThings x1 σ P) : Ct yX12_readThings cX12_readThings 4 (some .int) 5 111 (fun B => [.ref (B + 101), .int x1]) σ (QFi P) := Ct.of (by decide) (fun _ => Nat.le_of_ble_eq_true rfl) (fun B E C => s_X12_readThings C x1 σ h)
def w_X12_readThing_86 (σ : Sto) (P : Sto → Prop) : Prop :=
  (if (gi σ 101 12) = 0 then P (si σ 106 1684 ((gi σ 106 1684) + 1)) else P σ)
theorem s_X12_readThing_86 {B : Nat} {E : Nat → List (Nat × Value) → List Value → Sto → Prop} {P : Sto → Prop} (C : Cy B E RX12 cX12_readThing 2 none 5 110 (Zm (QFv P))) (σ : Sto) (h : w_X12_readThing_86 σ P) : E 86 [(0, .ref (B + 101))] [] σ := by
  unfold w_X12_readThing_86 at h
  refine f_aload_n C (j := 0) dX12_readThing_86 rfl rfl rfl ?_
  refine f_geti C tF_X12_209 rfl o101 dX12_readThing_87 rfl ?_
  refine f_if_ne C (t := 105) dX12_readThing_90 (by decide) rfl (fun hq_8 => ?_) (fun hq_8 => ?_)
  · replace h := Eq.mp (if_neg hq_8) h
    exact f_vret C dX12_readThing_105 h
  · replace h := Eq.mp (if_pos hq_8) h
    refine f_aload_n C (j := 0) dX12_readThing_93 rfl rfl rfl ?_
    refine f_getc C tF_X12_35 rfl o101 cs101_20 (by decide) dX12_readThing_94 rfl ?_
    refine f_sipush C (v := 1684) dX12_readThing_97 ks1684 rfl ?_
    refine f_dup2 C dX12_readThing_100 rfl rfl rfl ?_
    refine f_iald C (j := 1684) a106 (vp_lit (by decide)) rfl dX12_readThing_101 rfl ?_
    refine f_iconst C (v := 1) dX12_readThing_102 kc1 rfl ?_
    refine f_iadd C dX12_readThing_103 rfl ?_
    refine f_iast C (j := 1684) a106 (vp_lit (by decide)) rfl dX12_readThing_104 rfl ?_
    exact f_vret C dX12_readThing_105 h
def w_X12_readThing_54 (x1 : Int32) (σ : Sto) (P : Sto → Prop) : Prop :=
  (if (gi σ 101 12) = 0 then w_X12_isExemptWord σ (fun r_10 σ_9 => (if r_10 = 0 then w_X12_readThing_86 σ_9 P else w_X12_advance σ_9 (fun σ_12 => w_X12_readThing_86 (si σ_12 106 1691 ((gi σ_12 106 1691) ||| (1 <<< (x1 &&& 31)))) P))) else w_X12_readThing_86 σ P)
theorem s_X12_readThing_54 {B : Nat} {E : Nat → List (Nat × Value) → List Value → Sto → Prop} {P : Sto → Prop} (C : Cy B E RX12 cX12_readThing 2 none 5 110 (Zm (QFv P))) (x1 : Int32) (σ : Sto) (h : w_X12_readThing_54 x1 σ P) : E 54 [(0, .ref (B + 101)), (1, .int x1)] [] σ := by
  unfold w_X12_readThing_54 at h
  refine f_aload_n C (j := 0) dX12_readThing_54 rfl rfl rfl ?_
  refine f_geti C tF_X12_209 rfl o101 dX12_readThing_55 rfl ?_
  refine f_if_ne C (t := 86) dX12_readThing_58 (by decide) rfl (fun hq_7 => ?_) (fun hq_7 => ?_)
  · replace h := Eq.mp (if_neg hq_7) h
    refine f_lv C (lv2 := [(0, .ref (B + 101))]) [0] rfl ?_
    exact s_X12_readThing_86 C  _ h
  · replace h := Eq.mp (if_pos hq_7) h
    refine f_aload_n C (j := 0) dX12_readThing_61 rfl rfl rfl ?_
    refine f_callVi C (a := 101) (ci := 12) (As := fun B => []) o101 rfl (c_X12_isExemptWord   _ _ h) tM_X12_169 tI_X12_isExemptWord tS_X12_isExemptWord tN_X12 tC_X12_isExemptWord 0 dd_X12_isExemptWord rfl (by decide) (by decide) rfl (Nat.le_of_ble_eq_true rfl) dX12_readThing_62 rfl (fun r_10 σ_9 h => ?_)
    refine f_if_eq C (t := 86) dX12_readThing_65 (by decide) rfl (fun hq_11 => ?_) (fun hq_11 => ?_)
    · replace h := Eq.mp (if_pos hq_11) h
      refine f_lv C (lv2 := [(0, .ref (B + 101))]) [0] rfl ?_
      exact s_X12_readThing_86 C  _ h
    · replace h := Eq.mp (if_neg hq_11) h
      refine f_aload_n C (j := 0) dX12_readThing_68 rfl rfl rfl ?_
      refine f_callVv C (a := 101) (ci := 12) (As := fun B => []) o101 rfl (c_X12_advance   _ _ h) tM_X12_219 tI_X12_advance tS_X12_advance tN_X12 tC_X12_advance 0 dd_X12_advance rfl (by decide) (by decide) rfl (Nat.le_of_ble_eq_true rfl) dX12_readThing_69 rfl (fun σ_12 h => ?_)
      refine f_aload_n C (j := 0) dX12_readThing_72 rfl rfl rfl ?_
      refine f_getc C tF_X12_35 rfl o101 cs101_20 (by decide) dX12_readThing_73 rfl ?_
      refine f_sipush C (v := 1691) dX12_readThing_76 ks1691 rfl ?_
      refine f_dup2 C dX12_readThing_79 rfl rfl rfl ?_
      refine f_iald C (j := 1691) a106 (vp_lit (by decide)) rfl dX12_readThing_80 rfl ?_
      refine f_iconst C (v := 1) dX12_readThing_81 kc1 rfl ?_
      refine f_iload_n C (j := 1) dX12_readThing_82 rfl rfl rfl ?_
      refine f_ishl C dX12_readThing_83 rfl ?_
      refine f_ior C dX12_readThing_84 rfl ?_
      refine f_iast C (j := 1691) a106 (vp_lit (by decide)) rfl dX12_readThing_85 rfl ?_
      refine f_lv C (lv2 := [(0, .ref (B + 101))]) [0] rfl ?_
      exact s_X12_readThing_86 C  _ h
def w_X12_readThing (σ : Sto) (P : Sto → Prop) : Prop :=
  w_X12_readNew 0 12 σ (fun r_2 σ_1 => vp_in (1692 + r_2) 2105 ∧ ∀ σ_4 : Sto, σ_4 = si σ_1 106 (tn (1692 + r_2)) 1 → (if (gi σ_4 101 12) = 0 then w_X12_isWorth σ_4 (fun r_15 σ_14 => (if r_15 = 0 then w_X12_readThing_54 r_2 σ_14 P else w_X12_advance σ_14 (fun σ_17 => w_X12_count 0 99 σ_17 (fun r_20 σ_19 => w_X12_readThing_54 r_2 (si σ_19 106 (tn (1692 + r_2)) r_20) P)))) else w_X12_readThing_54 r_2 σ_4 P))
theorem s_X12_readThing {B : Nat} {E : Nat → List (Nat × Value) → List Value → Sto → Prop} {P : Sto → Prop} (C : Cy B E RX12 cX12_readThing 2 none 5 110 (Zm (QFv P))) (σ : Sto) (h : w_X12_readThing σ P) : E 0 [(0, .ref (B + 101))] [] σ := by
  unfold w_X12_readThing at h
  refine f_aload_n C (j := 0) dX12_readThing_0 rfl rfl rfl ?_
  refine f_iconst C (v := 0) dX12_readThing_1 kc0 rfl ?_
  refine f_bipush C (v := 12) dX12_readThing_2 kb12 rfl ?_
  refine f_callVi C (a := 101) (ci := 12) (As := fun B => [.int 0, .int 12]) o101 rfl (c_X12_readNew  _ _ _ _ h) tM_X12_255 tI_X12_readNew tS_X12_readNew tN_X12 tC_X12_readNew 2 dd_X12_readNew rfl (by decide) (by decide) rfl (Nat.le_of_ble_eq_true rfl) dX12_readThing_4 rfl (fun r_2 σ_1 h => ?_)
  refine f_istore_n C (lv2 := [(1, .int r_2), (0, .ref (B + 101))]) dX12_readThing_7 rfl (by decide) rfl rfl ?_
  refine f_aload_n C (j := 1) dX12_readThing_8 rfl rfl rfl ?_
  refine f_getc C tF_X12_35 rfl o101 cs101_20 (by decide) dX12_readThing_9 rfl ?_
  refine f_sipush C (v := 1692) dX12_readThing_12 ks1692 rfl ?_
  refine f_iload_n C (j := 0) dX12_readThing_15 rfl rfl rfl ?_
  refine f_iadd C dX12_readThing_16 rfl ?_
  refine f_iconst C (v := 1) dX12_readThing_17 kc1 rfl ?_
  obtain ⟨hi_3, h⟩ := h
  refine f_iast C (j := tn (1692 + r_2)) a106 hi_3 rfl dX12_readThing_18 rfl ?_
  refine f_aload_n C (j := 1) dX12_readThing_19 rfl rfl rfl ?_
  refine f_names (fun σ_4 hσ_5 => ?_)
  replace h := h σ_4 hσ_5
  refine f_geti C tF_X12_209 rfl o101 dX12_readThing_20 rfl ?_
  refine f_if_ne C (t := 54) dX12_readThing_23 (by decide) rfl (fun hq_6 => ?_) (fun hq_6 => ?_)
  · replace h := Eq.mp (if_neg hq_6) h
    refine f_lv C (lv2 := [(0, .ref (B + 101)), (1, .int r_2)]) [1, 0] rfl ?_
    exact s_X12_readThing_54 C _  _ h
  · replace h := Eq.mp (if_pos hq_6) h
    refine f_aload_n C (j := 1) dX12_readThing_26 rfl rfl rfl ?_
    refine f_callVi C (a := 101) (ci := 12) (As := fun B => []) o101 rfl (c_X12_isWorth   _ _ h) tM_X12_166 tI_X12_isWorth tS_X12_isWorth tN_X12 tC_X12_isWorth 0 dd_X12_isWorth rfl (by decide) (by decide) rfl (Nat.le_of_ble_eq_true rfl) dX12_readThing_27 rfl (fun r_15 σ_14 h => ?_)
    refine f_if_eq C (t := 54) dX12_readThing_30 (by decide) rfl (fun hq_16 => ?_) (fun hq_16 => ?_)
    · replace h := Eq.mp (if_pos hq_16) h
      refine f_lv C (lv2 := [(0, .ref (B + 101)), (1, .int r_2)]) [1, 0] rfl ?_
      exact s_X12_readThing_54 C _  _ h
    · replace h := Eq.mp (if_neg hq_16) h
      refine f_aload_n C (j := 1) dX12_readThing_33 rfl rfl rfl ?_
      refine f_callVv C (a := 101) (ci := 12) (As := fun B => []) o101 rfl (c_X12_advance   _ _ h) tM_X12_219 tI_X12_advance tS_X12_advance tN_X12 tC_X12_advance 0 dd_X12_advance rfl (by decide) (by decide) rfl (Nat.le_of_ble_eq_true rfl) dX12_readThing_34 rfl (fun σ_17 h => ?_)
      refine f_aload_n C (j := 1) dX12_readThing_37 rfl rfl rfl ?_
      refine f_getc C tF_X12_35 rfl o101 cs101_20 (by decide) dX12_readThing_38 rfl ?_
      refine f_sipush C (v := 1692) dX12_readThing_41 ks1692 rfl ?_
      refine f_iload_n C (j := 0) dX12_readThing_44 rfl rfl rfl ?_
      refine f_iadd C dX12_readThing_45 rfl ?_
      refine f_aload_n C (j := 1) dX12_readThing_46 rfl rfl rfl ?_
      refine f_iconst C (v := 0) dX12_readThing_47 kc0 rfl ?_
      refine f_bipush C (v := 99) dX12_readThing_48 kb99 rfl ?_
      refine f_callVi C (a := 101) (ci := 12) (As := fun B => [.int 0, .int 99]) o101 rfl (c_X12_count  _ _ _ _ h) tM_X12_258 tI_X12_count tS_X12_count tN_X12 tC_X12_count 2 dd_X12_count rfl (by decide) (by decide) rfl (Nat.le_of_ble_eq_true rfl) dX12_readThing_50 rfl (fun r_20 σ_19 h => ?_)
      refine f_iast C (j := tn (1692 + r_2)) a106 hi_3 rfl dX12_readThing_53 rfl ?_
      refine f_lv C (lv2 := [(0, .ref (B + 101)), (1, .int r_2)]) [1, 0] rfl ?_
      exact s_X12_readThing_54 C _  _ h
theorem c_X12_readThing (σ : Sto) (P : Sto → Prop) (h : w_X12_readThing σ P) : Ct yX12_readThing cX12_readThing 2 none 5 110 (fun B => [.ref (B + 101)]) σ (QFv P) := Ct.of (by decide) (fun _ => Nat.le_of_ble_eq_true rfl) (fun B E C => s_X12_readThing C σ h)
def w_X12_readMakes_25 (x1 : Int32) (σ : Sto) (P : Sto → Prop) : Prop :=
  (if (gi σ 101 12) ≤ 0 then w_X12_advance σ (fun σ_5 => w_X12_readTold 4 0 (-1) σ_5 (fun r_8 σ_7 => w_X12_isFrom σ_7 (fun r_10 σ_9 => w_X12_must r_10 σ_9 (fun σ_11 => w_X12_readThings r_8 σ_11 (fun r_14 σ_13 => (if (gi σ_13 101 12) ≤ 0 then vp_in (1704 + x1) 2105 ∧ vp_in (1720 + x1) 2105 ∧ ∀ σ_18 : Sto, σ_18 = si (si σ_13 106 (tn (1704 + x1)) r_8) 106 (tn (1720 + x1)) r_14 → P (si σ_18 106 1685 ((gi σ_18 106 1685) + 1)) else P σ_13)))))) else P σ)
theorem s_X12_readMakes_25 {B : Nat} {E : Nat → List (Nat × Value) → List Value → Sto → Prop} {P : Sto → Prop} (C : Cy B E RX12 cX12_readMakes 4 none 6 134 (Zm (QFv P))) (x1 : Int32) (σ : Sto) (h : w_X12_readMakes_25 x1 σ P) : E 25 [(0, .ref (B + 101)), (1, .int x1)] [] σ := by
  unfold w_X12_readMakes_25 at h
  refine f_aload_n C (j := 0) dX12_readMakes_25 rfl rfl rfl ?_
  refine f_geti C tF_X12_209 rfl o101 dX12_readMakes_26 rfl ?_
  refine f_if_le C (t := 33) dX12_readMakes_29 (by decide) rfl (fun hq_4 => ?_) (fun hq_4 => ?_)
  · replace h := Eq.mp (if_pos hq_4) h
    refine f_aload_n C (j := 0) dX12_readMakes_33 rfl rfl rfl ?_
    refine f_callVv C (a := 101) (ci := 12) (As := fun B => []) o101 rfl (c_X12_advance   _ _ h) tM_X12_219 tI_X12_advance tS_X12_advance tN_X12 tC_X12_advance 0 dd_X12_advance rfl (by decide) (by decide) rfl (Nat.le_of_ble_eq_true rfl) dX12_readMakes_34 rfl (fun σ_5 h => ?_)
    refine f_aload_n C (j := 0) dX12_readMakes_37 rfl rfl rfl ?_
    refine f_iconst C (v := 4) dX12_readMakes_38 kc4 rfl ?_
    refine f_iconst C (v := 0) dX12_readMakes_39 kc0 rfl ?_
    refine f_iconst C (v := (-1)) dX12_readMakes_40 kcm1 rfl ?_
    refine f_callVi C (a := 101) (ci := 12) (As := fun B => [.int 4, .int 0, .int (-1)]) o101 rfl (c_X12_readTold  _ _ _ _ _ h) tM_X12_251 tI_X12_readTold tS_X12_readTold tN_X12 tC_X12_readTold 3 dd_X12_readTold rfl (by decide) (by decide) rfl (Nat.le_of_ble_eq_true rfl) dX12_readMakes_41 rfl (fun r_8 σ_7 h => ?_)
    refine f_istore_n C (lv2 := [(2, .int r_8), (0, .ref (B + 101)), (1, .int x1)]) dX12_readMakes_44 rfl (by decide) rfl rfl ?_
    refine f_aload_n C (j := 1) dX12_readMakes_45 rfl rfl rfl ?_
    refine f_aload_n C (j := 1) dX12_readMakes_46 rfl rfl rfl ?_
    refine f_callVi C (a := 101) (ci := 12) (As := fun B => []) o101 rfl (c_X12_isFrom   _ _ h) tM_X12_175 tI_X12_isFrom tS_X12_isFrom tN_X12 tC_X12_isFrom 0 dd_X12_isFrom rfl (by decide) (by decide) rfl (Nat.le_of_ble_eq_true rfl) dX12_readMakes_47 rfl (fun r_10 σ_9 h => ?_)
    refine f_callVv C (a := 101) (ci := 12) (As := fun B => [.int r_10]) o101 rfl (c_X12_must  _ _ _ h) tM_X12_244 tI_X12_must tS_X12_must tN_X12 tC_X12_must 1 dd_X12_must rfl (by decide) (by decide) rfl (Nat.le_of_ble_eq_true rfl) dX12_readMakes_50 rfl (fun σ_11 h => ?_)
    refine f_aload_n C (j := 1) dX12_readMakes_53 rfl rfl rfl ?_
    refine f_iload_n C (j := 0) dX12_readMakes_54 rfl rfl rfl ?_
    refine f_callVi C (a := 101) (ci := 12) (As := fun B => [.int r_8]) o101 rfl (c_X12_readThings  _ _ _ h) tM_X12_261 tI_X12_readThings tS_X12_readThings tN_X12 tC_X12_readThings 1 dd_X12_readThings rfl (by decide) (by decide) rfl (Nat.le_of_ble_eq_true rfl) dX12_readMakes_55 rfl (fun r_14 σ_13 h => ?_)
    refine f_istore_n C (lv2 := [(3, .int r_14), (2, .int r_8), (0, .ref (B + 101)), (1, .int x1)]) dX12_readMakes_58 rfl (by decide) rfl rfl ?_
    refine f_aload_n C (j := 2) dX12_readMakes_59 rfl rfl rfl ?_
    refine f_geti C tF_X12_209 rfl o101 dX12_readMakes_60 rfl ?_
    refine f_if_le C (t := 67) dX12_readMakes_63 (by decide) rfl (fun hq_15 => ?_) (fun hq_15 => ?_)
    · replace h := Eq.mp (if_pos hq_15) h
      refine f_aload_n C (j := 2) dX12_readMakes_67 rfl rfl rfl ?_
      refine f_getc C tF_X12_35 rfl o101 cs101_20 (by decide) dX12_readMakes_68 rfl ?_
      refine f_sipush C (v := 1704) dX12_readMakes_71 ks1704 rfl ?_
      refine f_iload_n C (j := 3) dX12_readMakes_74 rfl rfl rfl ?_
      refine f_iadd C dX12_readMakes_75 rfl ?_
      refine f_iload_n C (j := 1) dX12_readMakes_76 rfl rfl rfl ?_
      obtain ⟨hi_16, h⟩ := h
      refine f_iast C (j := tn (1704 + x1)) a106 hi_16 rfl dX12_readMakes_77 rfl ?_
      refine f_aload_n C (j := 2) dX12_readMakes_78 rfl rfl rfl ?_
      refine f_getc C tF_X12_35 rfl o101 cs101_20 (by decide) dX12_readMakes_79 rfl ?_
      refine f_sipush C (v := 1720) dX12_readMakes_82 ks1720 rfl ?_
      refine f_iload_n C (j := 3) dX12_readMakes_85 rfl rfl rfl ?_
      refine f_iadd C dX12_readMakes_86 rfl ?_
      refine f_iload_n C (j := 0) dX12_readMakes_87 rfl rfl rfl ?_
      obtain ⟨hi_17, h⟩ := h
      refine f_iast C (j := tn (1720 + x1)) a106 hi_17 rfl dX12_readMakes_88 rfl ?_
      refine f_aload_n C (j := 2) dX12_readMakes_89 rfl rfl rfl ?_
      refine f_getc C tF_X12_35 rfl o101 cs101_20 (by decide) dX12_readMakes_90 rfl ?_
      refine f_sipush C (v := 1685) dX12_readMakes_93 ks1685 rfl ?_
      refine f_dup2 C dX12_readMakes_96 rfl rfl rfl ?_
      refine f_names (fun σ_18 hσ_19 => ?_)
      replace h := h σ_18 hσ_19
      refine f_iald C (j := 1685) a106 (vp_lit (by decide)) rfl dX12_readMakes_97 rfl ?_
      refine f_iconst C (v := 1) dX12_readMakes_98 kc1 rfl ?_
      refine f_iadd C dX12_readMakes_99 rfl ?_
      refine f_iast C (j := 1685) a106 (vp_lit (by decide)) rfl dX12_readMakes_100 rfl ?_
      exact f_vret C dX12_readMakes_101 h
    · replace h := Eq.mp (if_neg hq_15) h
      exact f_vret C dX12_readMakes_66 h
  · replace h := Eq.mp (if_neg hq_4) h
    exact f_vret C dX12_readMakes_32 h
def w_X12_readMakes (σ : Sto) (P : Sto → Prop) : Prop :=
  ∀ x1_1 : Int32, x1_1 = gi σ 106 1685 → (if x1_1 = 16 then w_X12_fail 6 (gi σ 101 15) σ (fun σ_20 => w_X12_readMakes_25 x1_1 σ_20 P) else w_X12_readMakes_25 x1_1 σ P)
theorem s_X12_readMakes {B : Nat} {E : Nat → List (Nat × Value) → List Value → Sto → Prop} {P : Sto → Prop} (C : Cy B E RX12 cX12_readMakes 4 none 6 134 (Zm (QFv P))) (σ : Sto) (h : w_X12_readMakes σ P) : E 0 [(0, .ref (B + 101))] [] σ := by
  unfold w_X12_readMakes at h
  refine f_aload_n C (j := 0) dX12_readMakes_0 rfl rfl rfl ?_
  refine f_getc C tF_X12_35 rfl o101 cs101_20 (by decide) dX12_readMakes_1 rfl ?_
  refine f_sipush C (v := 1685) dX12_readMakes_4 ks1685 rfl ?_
  refine f_iald C (j := 1685) a106 (vp_lit (by decide)) rfl dX12_readMakes_7 rfl ?_
  refine f_name (fun x1_1 hx_2 => ?_)
  replace h := h x1_1 hx_2
  refine f_istore_n C (lv2 := [(1, .int x1_1), (0, .ref (B + 101))]) dX12_readMakes_8 rfl (by decide) rfl rfl ?_
  refine f_iload_n C (j := 0) dX12_readMakes_9 rfl rfl rfl ?_
  refine f_bipush C (v := 16) dX12_readMakes_10 kb16 rfl ?_
  refine f_icmp_ne C (t := 25) dX12_readMakes_12 (by decide) rfl (fun hq_3 => ?_) (fun hq_3 => ?_)
  · replace h := Eq.mp (if_neg hq_3) h
    refine f_lv C (lv2 := [(0, .ref (B + 101)), (1, .int x1_1)]) [1, 0] rfl ?_
    exact s_X12_readMakes_25 C _  _ h
  · replace h := Eq.mp (if_pos hq_3) h
    refine f_aload_n C (j := 1) dX12_readMakes_15 rfl rfl rfl ?_
    refine f_bipush C (v := 6) dX12_readMakes_16 kb6 rfl ?_
    refine f_aload_n C (j := 1) dX12_readMakes_18 rfl rfl rfl ?_
    refine f_geti C tF_X12_123 rfl o101 dX12_readMakes_19 rfl ?_
    refine f_callVv C (a := 101) (ci := 12) (As := fun B => [.int 6, .int (gi σ 101 15)]) o101 rfl (c_X12_fail  _ _ _ _ h) tM_X12_215 tI_X12_fail tS_X12_fail tN_X12 tC_X12_fail 2 dd_X12_fail rfl (by decide) (by decide) rfl (Nat.le_of_ble_eq_true rfl) dX12_readMakes_22 rfl (fun σ_20 h => ?_)
    refine f_lv C (lv2 := [(0, .ref (B + 101)), (1, .int x1_1)]) [1, 0] rfl ?_
    exact s_X12_readMakes_25 C _  _ h
theorem c_X12_readMakes (σ : Sto) (P : Sto → Prop) (h : w_X12_readMakes σ P) : Ct yX12_readMakes cX12_readMakes 4 none 6 134 (fun B => [.ref (B + 101)]) σ (QFv P) := Ct.of (by decide) (fun _ => Nat.le_of_ble_eq_true rfl) (fun B E C => s_X12_readMakes C σ h)
def w_X12_readWork (σ : Sto) (P : Sto → Prop) : Prop :=
  w_X12_readNew 1 6 σ (fun r_2 σ_1 => w_X12_isNeeds σ_1 (fun r_4 σ_3 => w_X12_must r_4 σ_3 (fun σ_5 => w_X12_readThings (-1) σ_5 (fun r_8 σ_7 => (if (gi σ_7 101 12) ≤ 0 then vp_in (1736 + r_2) 2105 ∧ ∀ σ_11 : Sto, σ_11 = si σ_7 106 (tn (1736 + r_2)) r_8 → P (si σ_11 106 1686 ((gi σ_11 106 1686) + 1)) else P σ_7)))))
theorem s_X12_readWork {B : Nat} {E : Nat → List (Nat × Value) → List Value → Sto → Prop} {P : Sto → Prop} (C : Cy B E RX12 cX12_readWork 3 none 6 134 (Zm (QFv P))) (σ : Sto) (h : w_X12_readWork σ P) : E 0 [(0, .ref (B + 101))] [] σ := by
  unfold w_X12_readWork at h
  refine f_aload_n C (j := 0) dX12_readWork_0 rfl rfl rfl ?_
  refine f_iconst C (v := 1) dX12_readWork_1 kc1 rfl ?_
  refine f_bipush C (v := 6) dX12_readWork_2 kb6 rfl ?_
  refine f_callVi C (a := 101) (ci := 12) (As := fun B => [.int 1, .int 6]) o101 rfl (c_X12_readNew  _ _ _ _ h) tM_X12_255 tI_X12_readNew tS_X12_readNew tN_X12 tC_X12_readNew 2 dd_X12_readNew rfl (by decide) (by decide) rfl (Nat.le_of_ble_eq_true rfl) dX12_readWork_4 rfl (fun r_2 σ_1 h => ?_)
  refine f_istore_n C (lv2 := [(1, .int r_2), (0, .ref (B + 101))]) dX12_readWork_7 rfl (by decide) rfl rfl ?_
  refine f_aload_n C (j := 1) dX12_readWork_8 rfl rfl rfl ?_
  refine f_aload_n C (j := 1) dX12_readWork_9 rfl rfl rfl ?_
  refine f_callVi C (a := 101) (ci := 12) (As := fun B => []) o101 rfl (c_X12_isNeeds   _ _ h) tM_X12_181 tI_X12_isNeeds tS_X12_isNeeds tN_X12 tC_X12_isNeeds 0 dd_X12_isNeeds rfl (by decide) (by decide) rfl (Nat.le_of_ble_eq_true rfl) dX12_readWork_10 rfl (fun r_4 σ_3 h => ?_)
  refine f_callVv C (a := 101) (ci := 12) (As := fun B => [.int r_4]) o101 rfl (c_X12_must  _ _ _ h) tM_X12_244 tI_X12_must tS_X12_must tN_X12 tC_X12_must 1 dd_X12_must rfl (by decide) (by decide) rfl (Nat.le_of_ble_eq_true rfl) dX12_readWork_13 rfl (fun σ_5 h => ?_)
  refine f_aload_n C (j := 1) dX12_readWork_16 rfl rfl rfl ?_
  refine f_iconst C (v := (-1)) dX12_readWork_17 kcm1 rfl ?_
  refine f_callVi C (a := 101) (ci := 12) (As := fun B => [.int (-1)]) o101 rfl (c_X12_readThings  _ _ _ h) tM_X12_261 tI_X12_readThings tS_X12_readThings tN_X12 tC_X12_readThings 1 dd_X12_readThings rfl (by decide) (by decide) rfl (Nat.le_of_ble_eq_true rfl) dX12_readWork_18 rfl (fun r_8 σ_7 h => ?_)
  refine f_istore_n C (lv2 := [(2, .int r_8), (1, .int r_2), (0, .ref (B + 101))]) dX12_readWork_21 rfl (by decide) rfl rfl ?_
  refine f_aload_n C (j := 2) dX12_readWork_22 rfl rfl rfl ?_
  refine f_geti C tF_X12_209 rfl o101 dX12_readWork_23 rfl ?_
  refine f_if_le C (t := 30) dX12_readWork_26 (by decide) rfl (fun hq_9 => ?_) (fun hq_9 => ?_)
  · replace h := Eq.mp (if_pos hq_9) h
    refine f_aload_n C (j := 2) dX12_readWork_30 rfl rfl rfl ?_
    refine f_getc C tF_X12_35 rfl o101 cs101_20 (by decide) dX12_readWork_31 rfl ?_
    refine f_sipush C (v := 1736) dX12_readWork_34 ks1736 rfl ?_
    refine f_iload_n C (j := 1) dX12_readWork_37 rfl rfl rfl ?_
    refine f_iadd C dX12_readWork_38 rfl ?_
    refine f_iload_n C (j := 0) dX12_readWork_39 rfl rfl rfl ?_
    obtain ⟨hi_10, h⟩ := h
    refine f_iast C (j := tn (1736 + r_2)) a106 hi_10 rfl dX12_readWork_40 rfl ?_
    refine f_aload_n C (j := 2) dX12_readWork_41 rfl rfl rfl ?_
    refine f_getc C tF_X12_35 rfl o101 cs101_20 (by decide) dX12_readWork_42 rfl ?_
    refine f_sipush C (v := 1686) dX12_readWork_45 ks1686 rfl ?_
    refine f_dup2 C dX12_readWork_48 rfl rfl rfl ?_
    refine f_names (fun σ_11 hσ_12 => ?_)
    replace h := h σ_11 hσ_12
    refine f_iald C (j := 1686) a106 (vp_lit (by decide)) rfl dX12_readWork_49 rfl ?_
    refine f_iconst C (v := 1) dX12_readWork_50 kc1 rfl ?_
    refine f_iadd C dX12_readWork_51 rfl ?_
    refine f_iast C (j := 1686) a106 (vp_lit (by decide)) rfl dX12_readWork_52 rfl ?_
    exact f_vret C dX12_readWork_53 h
  · replace h := Eq.mp (if_neg hq_9) h
    exact f_vret C dX12_readWork_29 h
theorem c_X12_readWork (σ : Sto) (P : Sto → Prop) (h : w_X12_readWork σ P) : Ct yX12_readWork cX12_readWork 3 none 6 134 (fun B => [.ref (B + 101)]) σ (QFv P) := Ct.of (by decide) (fun _ => Nat.le_of_ble_eq_true rfl) (fun B E C => s_X12_readWork C σ h)
