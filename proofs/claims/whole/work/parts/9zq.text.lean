/-! ===== the JDK's own methods over the text ===== -/
theorem tP_cs : Cond.fieldLink RJ0 38 "java/lang/String" "COMPACT_STRINGS" "Z" ∈ tbG := in_1 68 rfl rfl
theorem tP_sio : Cond.fieldLink RJ0 1053 "jdk/internal/util/Preconditions" "SIOOBE_FORMATTER" "Ljava/util/function/BiFunction;" ∈ tbG := in_1 84 rfl rfl
theorem tP_val : Cond.fieldLink RJ0 9 "java/lang/String" "value" "[B" ∈ tbG := in_9 189 rfl rfl
theorem tP_cod : Cond.fieldLink RJ0 15 "java/lang/String" "coder" "B" ∈ tbG := in_9 190 rfl rfl
theorem dJ0_coder_7d493_0 : decode cJ0_coder_7d493 0 = .ok (.getstatic 38, 3) := by decide +kernel
theorem dJ0_coder_7d493_3 : decode cJ0_coder_7d493 3 = .ok (.ifCond .eq 10, 3) := by decide +kernel
theorem dJ0_coder_7d493_6 : decode cJ0_coder_7d493 6 = .ok (.aload_n 0, 1) := by decide +kernel
theorem dJ0_coder_7d493_7 : decode cJ0_coder_7d493 7 = .ok (.getfield 15, 3) := by decide +kernel
theorem dJ0_coder_7d493_10 : decode cJ0_coder_7d493 10 = .ok (.goto 4, 3) := by decide +kernel
theorem dJ0_coder_7d493_13 : decode cJ0_coder_7d493 13 = .ok (.iconst 1, 1) := by decide +kernel
theorem dJ0_coder_7d493_14 : decode cJ0_coder_7d493 14 = .ok (.ireturn, 1) := by decide +kernel
theorem dJ0_isLatin1_aae02_0 : decode cJ0_isLatin1_aae02 0 = .ok (.getstatic 38, 3) := by decide +kernel
theorem dJ0_isLatin1_aae02_3 : decode cJ0_isLatin1_aae02 3 = .ok (.ifCond .eq 14, 3) := by decide +kernel
theorem dJ0_isLatin1_aae02_6 : decode cJ0_isLatin1_aae02 6 = .ok (.aload_n 0, 1) := by decide +kernel
theorem dJ0_isLatin1_aae02_7 : decode cJ0_isLatin1_aae02 7 = .ok (.getfield 15, 3) := by decide +kernel
theorem dJ0_isLatin1_aae02_10 : decode cJ0_isLatin1_aae02 10 = .ok (.ifCond .ne 7, 3) := by decide +kernel
theorem dJ0_isLatin1_aae02_13 : decode cJ0_isLatin1_aae02 13 = .ok (.iconst 1, 1) := by decide +kernel
theorem dJ0_isLatin1_aae02_14 : decode cJ0_isLatin1_aae02 14 = .ok (.goto 4, 3) := by decide +kernel
theorem dJ0_isLatin1_aae02_17 : decode cJ0_isLatin1_aae02 17 = .ok (.iconst 0, 1) := by decide +kernel
theorem dJ0_isLatin1_aae02_18 : decode cJ0_isLatin1_aae02 18 = .ok (.ireturn, 1) := by decide +kernel
theorem dJ0_length_8abf5_0 : decode cJ0_length_8abf5 0 = .ok (.aload_n 0, 1) := by decide +kernel
theorem dJ0_length_8abf5_1 : decode cJ0_length_8abf5 1 = .ok (.getfield 9, 3) := by decide +kernel
theorem dJ0_length_8abf5_4 : decode cJ0_length_8abf5 4 = .ok (.arraylength, 1) := by decide +kernel
theorem dJ0_length_8abf5_5 : decode cJ0_length_8abf5 5 = .ok (.aload_n 0, 1) := by decide +kernel
theorem dJ0_length_8abf5_6 : decode cJ0_length_8abf5 6 = .ok (.invokevirtual 335, 3) := by decide +kernel
theorem dJ0_length_8abf5_9 : decode cJ0_length_8abf5 9 = .ok (.ishr, 1) := by decide +kernel
theorem dJ0_length_8abf5_10 : decode cJ0_length_8abf5 10 = .ok (.ireturn, 1) := by decide +kernel
theorem dJ3_checkIndex_8e157_0 : decode cJ3_checkIndex_8e157 0 = .ok (.iload_n 0, 1) := by decide +kernel
theorem dJ3_checkIndex_8e157_1 : decode cJ3_checkIndex_8e157 1 = .ok (.ifCond .lt 8, 3) := by decide +kernel
theorem dJ3_checkIndex_8e157_4 : decode cJ3_checkIndex_8e157 4 = .ok (.iload_n 0, 1) := by decide +kernel
theorem dJ3_checkIndex_8e157_5 : decode cJ3_checkIndex_8e157 5 = .ok (.iload_n 1, 1) := by decide +kernel
theorem dJ3_checkIndex_8e157_6 : decode cJ3_checkIndex_8e157 6 = .ok (.if_icmp .lt 10, 3) := by decide +kernel
theorem dJ3_checkIndex_8e157_16 : decode cJ3_checkIndex_8e157 16 = .ok (.iload_n 0, 1) := by decide +kernel
theorem dJ3_checkIndex_8e157_17 : decode cJ3_checkIndex_8e157 17 = .ok (.ireturn, 1) := by decide +kernel
theorem dJ0_checkIndex_df160_0 : decode cJ0_checkIndex_df160 0 = .ok (.iload_n 0, 1) := by decide +kernel
theorem dJ0_checkIndex_df160_1 : decode cJ0_checkIndex_df160 1 = .ok (.iload_n 1, 1) := by decide +kernel
theorem dJ0_checkIndex_df160_2 : decode cJ0_checkIndex_df160 2 = .ok (.getstatic 1053, 3) := by decide +kernel
theorem dJ0_checkIndex_df160_5 : decode cJ0_checkIndex_df160 5 = .ok (.invokestatic 1059, 3) := by decide +kernel
theorem dJ0_checkIndex_df160_8 : decode cJ0_checkIndex_df160 8 = .ok (.pop, 1) := by decide +kernel
theorem dJ0_checkIndex_df160_9 : decode cJ0_checkIndex_df160 9 = .ok (.return_, 1) := by decide +kernel
theorem dJ1_charAt_3b067_0 : decode cJ1_charAt_3b067 0 = .ok (.iload_n 1, 1) := by decide +kernel
theorem dJ1_charAt_3b067_1 : decode cJ1_charAt_3b067 1 = .ok (.aload_n 0, 1) := by decide +kernel
theorem dJ1_charAt_3b067_2 : decode cJ1_charAt_3b067 2 = .ok (.arraylength, 1) := by decide +kernel
theorem dJ1_charAt_3b067_3 : decode cJ1_charAt_3b067 3 = .ok (.invokestatic 9, 3) := by decide +kernel
theorem dJ1_charAt_3b067_6 : decode cJ1_charAt_3b067 6 = .ok (.aload_n 0, 1) := by decide +kernel
theorem dJ1_charAt_3b067_7 : decode cJ1_charAt_3b067 7 = .ok (.iload_n 1, 1) := by decide +kernel
theorem dJ1_charAt_3b067_8 : decode cJ1_charAt_3b067 8 = .ok (.baload, 1) := by decide +kernel
theorem dJ1_charAt_3b067_9 : decode cJ1_charAt_3b067 9 = .ok (.sipush 255, 3) := by decide +kernel
theorem dJ1_charAt_3b067_12 : decode cJ1_charAt_3b067 12 = .ok (.iand, 1) := by decide +kernel
theorem dJ1_charAt_3b067_13 : decode cJ1_charAt_3b067 13 = .ok (.i2c, 1) := by decide +kernel
theorem dJ1_charAt_3b067_14 : decode cJ1_charAt_3b067 14 = .ok (.ireturn, 1) := by decide +kernel
theorem dJ0_charAt_5068e_0 : decode cJ0_charAt_5068e 0 = .ok (.aload_n 0, 1) := by decide +kernel
theorem dJ0_charAt_5068e_1 : decode cJ0_charAt_5068e 1 = .ok (.invokevirtual 492, 3) := by decide +kernel
theorem dJ0_charAt_5068e_4 : decode cJ0_charAt_5068e 4 = .ok (.ifCond .eq 12, 3) := by decide +kernel
theorem dJ0_charAt_5068e_7 : decode cJ0_charAt_5068e 7 = .ok (.aload_n 0, 1) := by decide +kernel
theorem dJ0_charAt_5068e_8 : decode cJ0_charAt_5068e 8 = .ok (.getfield 9, 3) := by decide +kernel
theorem dJ0_charAt_5068e_11 : decode cJ0_charAt_5068e 11 = .ok (.iload_n 1, 1) := by decide +kernel
theorem dJ0_charAt_5068e_12 : decode cJ0_charAt_5068e 12 = .ok (.invokestatic 495, 3) := by decide +kernel
theorem dJ0_charAt_5068e_15 : decode cJ0_charAt_5068e 15 = .ok (.ireturn, 1) := by decide +kernel
theorem dq_J0_coder_7d493 : yJ0_coder_7d493.cls ≠ "java/lang/invoke/MethodHandle" ∧ yJ0_coder_7d493.cls ≠ "java/lang/invoke/VarHandle" ∧ (parseMethodDescriptor yJ0_coder_7d493.desc).map (fun d => d.parameters.length) = some 0 := by decide +kernel
theorem dq_J0_isLatin1_aae02 : yJ0_isLatin1_aae02.cls ≠ "java/lang/invoke/MethodHandle" ∧ yJ0_isLatin1_aae02.cls ≠ "java/lang/invoke/VarHandle" ∧ (parseMethodDescriptor yJ0_isLatin1_aae02.desc).map (fun d => d.parameters.length) = some 0 := by decide +kernel
theorem dq_J0_length_8abf5 : yJ0_length_8abf5.cls ≠ "java/lang/invoke/MethodHandle" ∧ yJ0_length_8abf5.cls ≠ "java/lang/invoke/VarHandle" ∧ (parseMethodDescriptor yJ0_length_8abf5.desc).map (fun d => d.parameters.length) = some 0 := by decide +kernel
theorem dq_J3_checkIndex_8e157 : yJ3_checkIndex_8e157.cls ≠ "java/lang/invoke/MethodHandle" ∧ yJ3_checkIndex_8e157.cls ≠ "java/lang/invoke/VarHandle" ∧ (parseMethodDescriptor yJ3_checkIndex_8e157.desc).map (fun d => d.parameters.length) = some 3 := by decide +kernel
theorem dq_J0_checkIndex_df160 : yJ0_checkIndex_df160.cls ≠ "java/lang/invoke/MethodHandle" ∧ yJ0_checkIndex_df160.cls ≠ "java/lang/invoke/VarHandle" ∧ (parseMethodDescriptor yJ0_checkIndex_df160.desc).map (fun d => d.parameters.length) = some 2 := by decide +kernel
theorem dq_J1_charAt_3b067 : yJ1_charAt_3b067.cls ≠ "java/lang/invoke/MethodHandle" ∧ yJ1_charAt_3b067.cls ≠ "java/lang/invoke/VarHandle" ∧ (parseMethodDescriptor yJ1_charAt_3b067.desc).map (fun d => d.parameters.length) = some 2 := by decide +kernel
theorem dq_J0_charAt_5068e : yJ0_charAt_5068e.cls ≠ "java/lang/invoke/MethodHandle" ∧ yJ0_charAt_5068e.cls ≠ "java/lang/invoke/VarHandle" ∧ (parseMethodDescriptor yJ0_charAt_5068e.desc).map (fun d => d.parameters.length) = some 1 := by decide +kernel
theorem q_coder : Cq yJ0_coder_7d493 cJ0_coder_7d493 1 (some .byte) 0 0 (fun tx => [.ref tx.1]) 0 := by
  refine Cq.of (by decide) (fun _ => Nat.le_of_ble_eq_true rfl) (fun B tx E C => ?_)
  show E 0 0 [] 0 [(0, .ref tx.1)] [] Zs
  refine g_cs C tP_cs dJ0_coder_7d493_0 rfl ?_
  refine g_if_eq C (t := 13) dJ0_coder_7d493_3 (by decide) rfl (fun hq => absurd hq (by decide)) (fun _ => ?_)
  refine g_aload_n C (j := 0) dJ0_coder_7d493_6 rfl rfl rfl ?_
  refine g_cod C tP_cod dJ0_coder_7d493_7 rfl ?_
  refine g_goto C (t := 14) dJ0_coder_7d493_10 (by decide) ?_
  exact g_iretq C rfl dJ0_coder_7d493_14
theorem q_isLatin1 : Cq yJ0_isLatin1_aae02 cJ0_isLatin1_aae02 1 (some .boolean) 0 0 (fun tx => [.ref tx.1]) 1 := by
  refine Cq.of (by decide) (fun _ => Nat.le_of_ble_eq_true rfl) (fun B tx E C => ?_)
  show E 0 0 [] 0 [(0, .ref tx.1)] [] Zs
  refine g_cs C tP_cs dJ0_isLatin1_aae02_0 rfl ?_
  refine g_if_eq C (t := 17) dJ0_isLatin1_aae02_3 (by decide) rfl (fun hq => absurd hq (by decide)) (fun _ => ?_)
  refine g_aload_n C (j := 0) dJ0_isLatin1_aae02_6 rfl rfl rfl ?_
  refine g_cod C tP_cod dJ0_isLatin1_aae02_7 rfl ?_
  refine g_if_ne C (t := 17) dJ0_isLatin1_aae02_10 (by decide) rfl (fun hq => absurd rfl hq) (fun _ => ?_)
  refine g_iconst C (v := 1) dJ0_isLatin1_aae02_13 (by decide) rfl ?_
  refine g_goto C (t := 18) dJ0_isLatin1_aae02_14 (by decide) ?_
  exact g_iretq C rfl dJ0_isLatin1_aae02_18
theorem q_length : Cq yJ0_length_8abf5 cJ0_length_8abf5 1 (some .int) 1 20 (fun tx => [.ref tx.1]) 130 := by
  refine Cq.of (by decide) (fun _ => Nat.le_of_ble_eq_true rfl) (fun B tx E C => ?_)
  show E 0 0 [] 0 [(0, .ref tx.1)] [] Zs
  refine g_aload_n C (j := 0) dJ0_length_8abf5_0 rfl rfl rfl ?_
  refine g_val C tP_val dJ0_length_8abf5_1 rfl ?_
  refine g_tlen C dJ0_length_8abf5_4 rfl ?_
  refine g_aload_n C (j := 0) dJ0_length_8abf5_5 rfl rfl rfl ?_
  refine g_callVq C (As := []) q_coder rfl tM_J0_335 tI_J0_coder_7d493 tS_J0_coder_7d493 tN_J0 tC_J0_coder_7d493 0 dq_J0_coder_7d493 rfl (by decide) (by decide) rfl (by decide) (by decide) rfl (Nat.le_of_ble_eq_true rfl) dJ0_length_8abf5_6 rfl ?_
  refine g_ishr C dJ0_length_8abf5_9 rfl ?_
  exact g_iretq C rfl dJ0_length_8abf5_10
theorem q_check {i n : Int32} {v : Value} (h0 : ¬ i < 0) (h1 : i < n) (hv : v = .null ∨ ∃ t, v = .ref t) : Cq yJ3_checkIndex_8e157 cJ3_checkIndex_8e157 3 (some .int) 0 0 (fun _ => [.int i, .int n, v]) i := by
  refine Cq.of (by decide) (fun _ => by rcases hv with rfl | ⟨t, rfl⟩ <;> exact Nat.le_of_ble_eq_true rfl) (fun B tx E C => ?_)
  have hs : lv_args 0 [.int i, .int n, v] = [(0, .int i), (1, .int n), (2, v)] := rfl
  show E 0 0 [] 0 (lv_args 0 [.int i, .int n, v]) [] Zs
  rw [hs]
  refine g_iload_n C (j := 0) dJ3_checkIndex_8e157_0 rfl rfl rfl ?_
  refine g_if_lt C (t := 9) dJ3_checkIndex_8e157_1 (by decide) rfl (fun hq => absurd hq h0) (fun _ => ?_)
  refine g_iload_n C (j := 0) dJ3_checkIndex_8e157_4 rfl rfl rfl ?_
  refine g_iload_n C (j := 1) dJ3_checkIndex_8e157_5 rfl rfl rfl ?_
  refine g_icmp_lt C (t := 16) dJ3_checkIndex_8e157_6 (by decide) rfl (fun _ => ?_) (fun hq => absurd h1 hq)
  refine g_iload_n C (j := 0) dJ3_checkIndex_8e157_16 rfl rfl rfl ?_
  exact g_iretq C rfl dJ3_checkIndex_8e157_17
theorem q_checkS {i n : Int32} (h0 : ¬ i < 0) (h1 : i < n) : Cv yJ0_checkIndex_df160 cJ0_checkIndex_df160 2 1 22 (fun _ => [.int i, .int n]) := by
  refine Cv.of (by decide) (fun _ => Nat.le_of_ble_eq_true rfl) (fun B tx E C => ?_)
  show E 0 0 [] 0 [(0, .int i), (1, .int n)] [] Zs
  refine g_iload_n C (j := 0) dJ0_checkIndex_df160_0 rfl rfl rfl ?_
  refine g_iload_n C (j := 1) dJ0_checkIndex_df160_1 rfl rfl rfl ?_
  refine g_sio C tP_sio dJ0_checkIndex_df160_2 rfl (fun v hv => ?_)
  refine g_callSq C (As := fun _ => [.int i, .int n, v]) (q_check h0 h1 hv) tM_J0_1059 tT_J3_checkIndex_8e157 tN_J3 tC_J3_checkIndex_8e157 3 dq_J3_checkIndex_8e157 rfl (by decide) (by decide) rfl (by decide) (by decide) rfl (Nat.le_of_ble_eq_true rfl) dJ0_checkIndex_df160_5 rfl ?_
  refine g_pop C dJ0_checkIndex_df160_8 rfl rfl ?_
  exact g_vretq C dJ0_checkIndex_df160_9
def kwC (i : Nat) : Int32 := kwByt.getD i 0
theorem kw_b : ∀ i, i < 130 → ((kwC i &&& 255).toUInt32 % 65536).toInt32 = kwC i ∧ narrow .char (.int (kwC i)) = .int (kwC i) := by decide +kernel
theorem q_charAt1 {i : Nat} (hi : i < 130) : Cq yJ1_charAt_3b067 cJ1_charAt_3b067 2 (some .char) 2 43 (fun tx => [.ref tx.2, .int (nI i)]) (kwC i) := by
  refine Cq.of (by decide) (fun _ => Nat.le_of_ble_eq_true rfl) (fun B tx E C => ?_)
  show E 0 0 [] 0 [(0, .ref tx.2), (1, .int (nI i))] [] Zs
  refine g_iload_n C (j := 1) dJ1_charAt_3b067_0 rfl rfl rfl ?_
  refine g_aload_n C (j := 0) dJ1_charAt_3b067_1 rfl rfl rfl ?_
  refine g_tlen C dJ1_charAt_3b067_2 rfl ?_
  refine g_callSv C (As := fun _ => [.int (nI i), .int 130]) (q_checkS (nn0 (by omega)) (by rw [N130, jI_lt (by omega) (by decide)]; exact hi)) tM_J1_9 tT_J0_checkIndex_df160 tN_J0 tC_J0_checkIndex_df160 2 dq_J0_checkIndex_df160 rfl (by decide) (by decide) rfl (by decide) (by decide) rfl (Nat.le_of_ble_eq_true rfl) dJ1_charAt_3b067_3 rfl ?_
  refine g_aload_n C (j := 0) dJ1_charAt_3b067_6 rfl rfl rfl ?_
  refine g_iload_n C (j := 1) dJ1_charAt_3b067_7 rfl rfl rfl ?_
  refine g_tb C (vp_nI hi (by decide)) dJ1_charAt_3b067_8 rfl ?_
  have e1 : kwByt.getD (nI i).toNatClampNeg 0 = kwC i := by
    show kwByt.getD (tn (nI i)) 0 = kwC i
    rw [tn_nI (by omega)]
    rfl
  rw [e1]
  refine g_sipush C (v := 255) dJ1_charAt_3b067_9 (by decide) rfl ?_
  refine g_iand C dJ1_charAt_3b067_12 rfl ?_
  refine g_i2c C (kw_b i hi).1 dJ1_charAt_3b067_13 rfl ?_
  exact g_iretq C (kw_b i hi).2 dJ1_charAt_3b067_14
theorem q_charAt {i : Nat} (hi : i < 130) : Cq yJ0_charAt_5068e cJ0_charAt_5068e 2 (some .char) 3 64 (fun tx => [.ref tx.1, .int (nI i)]) (kwC i) := by
  refine Cq.of (by decide) (fun _ => Nat.le_of_ble_eq_true rfl) (fun B tx E C => ?_)
  show E 0 0 [] 0 [(0, .ref tx.1), (1, .int (nI i))] [] Zs
  refine g_aload_n C (j := 0) dJ0_charAt_5068e_0 rfl rfl rfl ?_
  refine g_callVq C (As := []) q_isLatin1 rfl tM_J0_492 tI_J0_isLatin1_aae02 tS_J0_isLatin1_aae02 tN_J0 tC_J0_isLatin1_aae02 0 dq_J0_isLatin1_aae02 rfl (by decide) (by decide) rfl (by decide) (by decide) rfl (Nat.le_of_ble_eq_true rfl) dJ0_charAt_5068e_1 rfl ?_
  refine g_if_eq C (t := 16) dJ0_charAt_5068e_4 (by decide) rfl (fun hq => absurd hq (by decide)) (fun _ => ?_)
  refine g_aload_n C (j := 0) dJ0_charAt_5068e_7 rfl rfl rfl ?_
  refine g_val C tP_val dJ0_charAt_5068e_8 rfl ?_
  refine g_iload_n C (j := 1) dJ0_charAt_5068e_11 rfl rfl rfl ?_
  refine g_callSq C (As := fun tx => [.ref tx.2, .int (nI i)]) (q_charAt1 hi) tM_J0_495 tT_J1_charAt_3b067 tN_J1 tC_J1_charAt_3b067 2 dq_J1_charAt_3b067 rfl (by decide) (by decide) rfl (by decide) (by decide) rfl (Nat.le_of_ble_eq_true rfl) dJ0_charAt_5068e_12 rfl ?_
  exact g_iretq C (kw_b i hi).2 dJ0_charAt_5068e_15
