/-! ===== Trays, Tokens, Unmade, the law's start ===== -/
def kwR : Nat → Nat → Nat → Int64 → Sto → Sto
  | 0, _, _, _, σ => σ
  | f + 1, i, n, acc, σ => if 130 ≤ i ∨ 23 ≤ n then σ else if kwC i = 32 then kwR f (i + 1) (n + 1) 0 (sl σ 12 n acc) else kwR f (i + 1) n (acc <<< ((5 : Int32).toInt64 &&& 63) ||| (kwC i - 97 + 1).toInt64) σ
theorem zb_kw : ∀ {f i n : Nat} {acc : Int64} {σ : Sto} {m : Nat}, Zb σ m → 12 ≤ m → Zb (kwR f i n acc σ) m
  | 0, _, _, _, _, _, h, _ => h
  | f + 1, i, n, acc, σ, m, h, hm => by
    unfold kwR
    exact if_p2 (P := fun z => Zb z m) (fun _ => h) (fun _ => if_p2 (P := fun z => Zb z m) (fun _ => zb_kw (h.sl hm) hm) (fun _ => zb_kw h hm))
theorem tk_loop {B n0 : Nat} {tx : Nat × Nat} {E : Nat → Nat → List (Nat × Nat) → Nat → List (Nat × Value) → List Value → Sto → Prop} {fr lo mc ms cells slots : Nat} {Zf : ZG} {ks : List (Nat × Nat)} (C : Cz B n0 tx E RX9 cX9_init 6 fr lo mc ms Zf) (h9 : ks[9]? = some (0, 9)) (h11 : ks[11]? = some (2, 23)) (hk : n0 + cells = ks.length) (hcs : cells ≤ mc) (hsl : slots ≤ ms) (hfr : 4 ≤ fr) (hlo : 85 ≤ lo) : ∀ (f i n : Nat) (acc : Int64) (σ : Sto), i ≤ 130 → n ≤ 23 → 130 < i + f → gr σ 10 1 = 12 → E cells slots ks 94 [(0, .ref (B + 10))] [] (kwR f i n acc σ) → E cells slots ks 28 [(4, .int (nI i)), (3, .int (nI n)), (1, .long acc), (0, .ref (B + 10))] [] σ
  | 0, i, n, acc, σ => fun hi hn hf hr k => absurd hf (by omega)
  | f + 1, i, n, acc, σ => fun hi hn hf hr k => by
    refine g_iload C (j := 0) dX9_init_28 rfl rfl ?_
    refine g_ldcS C dX9_init_30 rfl ?_
    refine g_callVq C (As := []) q_length rfl tM_X9_21 tI_J0_length_8abf5 tS_J0_length_8abf5 tN_J0 tC_J0_length_8abf5 0 dq_J0_length_8abf5 rfl (by omega) (by omega) hk hcs hsl rfl (Nat.le_of_ble_eq_true rfl) dX9_init_32 rfl ?_
    refine g_icmp_ge C (t := 94) dX9_init_35 (by decide) rfl (fun hq => ?_) (fun hq => ?_)
    · rw [N130, jI_le (by decide) (by omega)] at hq
      unfold kwR at k
      rw [if_pos (Or.inl hq)] at k
      exact g_lv C [3] rfl k
    rw [N130, jI_le (by decide) (by omega)] at hq
    refine g_iload_n C (j := 1) dX9_init_38 rfl rfl rfl ?_
    refine g_bipush C (v := 23) dX9_init_39 (by decide) rfl ?_
    refine g_icmp_ge C (t := 94) dX9_init_41 (by decide) rfl (fun hq2 => ?_) (fun hq2 => ?_)
    · rw [N23, jI_le (by decide) (by omega)] at hq2
      unfold kwR at k
      rw [if_pos (Or.inr hq2)] at k
      exact g_lv C [3] rfl k
    rw [N23, jI_le (by decide) (by omega)] at hq2
    unfold kwR at k
    rw [if_neg (by omega)] at k
    refine g_ldcS C dX9_init_44 rfl ?_
    refine g_iload C (j := 0) dX9_init_46 rfl rfl ?_
    refine g_callVq C (As := [.int (nI i)]) (q_charAt (i := i) (by omega)) rfl tM_X9_27 tI_J0_charAt_5068e tS_J0_charAt_5068e tN_J0 tC_J0_charAt_5068e 1 dq_J0_charAt_5068e rfl (by omega) (by omega) hk hcs hsl rfl (Nat.le_of_ble_eq_true rfl) dX9_init_48 rfl ?_
    refine g_istore C (i := 5) (lv2 := [(5, .int (kwC i)), (4, .int (nI i)), (3, .int (nI n)), (1, .long acc), (0, .ref (B + 10))]) dX9_init_51 (by decide) rfl rfl ?_
    refine g_iload C (j := 0) dX9_init_53 rfl rfl ?_
    refine g_bipush C (v := 32) dX9_init_55 (by decide) rfl ?_
    refine g_icmp_ne C (t := 75) dX9_init_57 (by decide) rfl (fun hc => ?_) (fun hc => ?_)
    · rw [if_neg hc] at k
      refine g_lload_n C (j := 3) dX9_init_75 rfl rfl rfl ?_
      refine g_iconst C (v := 5) dX9_init_76 (by decide) rfl ?_
      refine g_lshl C dX9_init_77 rfl ?_
      refine g_iload C (j := 0) dX9_init_78 rfl rfl ?_
      refine g_bipush C (v := 97) dX9_init_80 (by decide) rfl ?_
      refine g_isub C dX9_init_82 rfl ?_
      refine g_iconst C (v := 1) dX9_init_83 (by decide) rfl ?_
      refine g_iadd C dX9_init_84 rfl ?_
      refine g_i2l C dX9_init_85 rfl ?_
      refine g_lor C dX9_init_86 rfl ?_
      refine g_lstore_n C (i := 1) (lv2 := [(1, .long (acc <<< ((5 : Int32).toInt64 &&& 63) ||| (kwC i - 97 + 1).toInt64)), (5, .int (kwC i)), (4, .int (nI i)), (3, .int (nI n)), (0, .ref (B + 10))]) dX9_init_87 rfl (by decide) rfl rfl ?_
      refine g_iinc C (i := 4) (j := 2) (v := nI (i + 1)) (lv2 := [(4, .int (nI (i + 1))), (1, .long (acc <<< ((5 : Int32).toInt64 &&& 63) ||| (kwC i - 97 + 1).toInt64)), (5, .int (kwC i)), (3, .int (nI n)), (0, .ref (B + 10))]) dX9_init_88 rfl (by rw [show Int32.ofInt 1 = 1 by decide]; exact jI_inc) (by decide) rfl rfl ?_
      refine g_goto C (t := 28) dX9_init_91 (by decide) ?_
      refine g_lv C (lv2 := [(4, .int (nI (i + 1))), (3, .int (nI n)), (1, .long (acc <<< ((5 : Int32).toInt64 &&& 63) ||| (kwC i - 97 + 1).toInt64)), (0, .ref (B + 10))]) [0, 3, 1, 4] rfl ?_
      exact tk_loop C h9 h11 hk hcs hsl hfr hlo f (i + 1) n _ σ (by omega) hn (by omega) hr k
    · rw [if_pos hc] at k
      refine g_aload_n C (j := 4) dX9_init_60 rfl rfl rfl ?_
      refine g_getr C (i := 9) (b := 12) tF_X9_15 rfl rfl h9 hr (by decide) dX9_init_61 rfl ?_
      refine g_iload_n C (j := 2) dX9_init_64 rfl rfl rfl ?_
      refine g_lload_n C (j := 3) dX9_init_65 rfl rfl rfl ?_
      refine g_last C (i := 11) (n := 23) rfl h11 (vp_nI (by omega) (by decide)) dX9_init_66 rfl ?_
      have e1 : (nI n).toNatClampNeg = n := tn_nI (by omega)
      rw [e1]
      refine g_lconst C (v := 0) dX9_init_67 (by decide) rfl ?_
      refine g_lstore_n C (i := 1) (lv2 := [(1, .long 0), (5, .int (kwC i)), (4, .int (nI i)), (3, .int (nI n)), (0, .ref (B + 10))]) dX9_init_68 rfl (by decide) rfl rfl ?_
      refine g_iinc C (i := 3) (j := 3) (v := nI (n + 1)) (lv2 := [(3, .int (nI (n + 1))), (1, .long 0), (5, .int (kwC i)), (4, .int (nI i)), (0, .ref (B + 10))]) dX9_init_69 rfl (by rw [show Int32.ofInt 1 = 1 by decide]; exact jI_inc) (by decide) rfl rfl ?_
      refine g_goto C (t := 88) dX9_init_72 (by decide) ?_
      refine g_iinc C (i := 4) (j := 3) (v := nI (i + 1)) (lv2 := [(4, .int (nI (i + 1))), (3, .int (nI (n + 1))), (1, .long 0), (5, .int (kwC i)), (0, .ref (B + 10))]) dX9_init_88 rfl (by rw [show Int32.ofInt 1 = 1 by decide]; exact jI_inc) (by decide) rfl rfl ?_
      refine g_goto C (t := 28) dX9_init_91 (by decide) ?_
      refine g_lv C (lv2 := [(4, .int (nI (i + 1))), (3, .int (nI (n + 1))), (1, .long 0), (0, .ref (B + 10))]) [0, 1, 2, 4] rfl ?_
      exact tk_loop C h9 h11 hk hcs hsl hfr hlo f (i + 1) (n + 1) 0 (sl σ 12 n acc) (by omega) (by omega) (by omega) (by rw [gr_sl]; exact hr) k
theorem tO_X10 : Cond.methodLink RX10 3 objectInit ∈ tbG := in_1 35 rfl rfl
theorem tL_X10_11 : Cond.classLink RX10 11 "[[J" ∈ tbG := in_1 36 rfl rfl
theorem tO_X9 : Cond.methodLink RX9 3 objectInit ∈ tbG := in_1 58 rfl rfl
theorem tO_X11 : Cond.methodLink RX11 3 objectInit ∈ tbG := in_1 27 rfl rfl
theorem tL_X11_9 : Cond.classLink RX11 9 RX10 ∈ tbG := in_1 30 rfl rfl
theorem tY_X10 : Cond.instantiable RX10 3 ∈ tbG := in_1 31 rfl rfl
theorem df_10 : ∀ j, j < 3 → defaultValue (fTy 10 j) = dfv (fpl (fTy 10 j)) := by
  intro j hj
  rcases (show j = 0 ∨ j = 1 ∨ j = 2 by omega) with rfl | rfl | rfl <;> rfl
theorem tL_X11_16 : Cond.classLink RX11 16 RX9 ∈ tbG := in_1 53 rfl rfl
theorem tY_X9 : Cond.instantiable RX9 11 ∈ tbG := in_1 54 rfl rfl
theorem df_9 : ∀ j, j < 11 → defaultValue (fTy 9 j) = dfv (fpl (fTy 9 j)) := by
  intro j hj
  rcases (show j = 0 ∨ j = 1 ∨ j = 2 ∨ j = 3 ∨ j = 4 ∨ j = 5 ∨ j = 6 ∨ j = 7 ∨ j = 8 ∨ j = 9 ∨ j = 10 by omega) with rfl | rfl | rfl | rfl | rfl | rfl | rfl | rfl | rfl | rfl | rfl <;> rfl
theorem tL_X11_23 : Cond.classLink RX11 23 RX1 ∈ tbG := in_1 151 rfl rfl
theorem tY_X1 : Cond.instantiable RX1 16 ∈ tbG := in_1 152 rfl rfl
theorem df_1 : ∀ j, j < 16 → defaultValue (fTy 1 j) = dfv (fpl (fTy 1 j)) := by
  intro j hj
  rcases (show j = 0 ∨ j = 1 ∨ j = 2 ∨ j = 3 ∨ j = 4 ∨ j = 5 ∨ j = 6 ∨ j = 7 ∨ j = 8 ∨ j = 9 ∨ j = 10 ∨ j = 11 ∨ j = 12 ∨ j = 13 ∨ j = 14 ∨ j = 15 by omega) with rfl | rfl | rfl | rfl | rfl | rfl | rfl | rfl | rfl | rfl | rfl | rfl | rfl | rfl | rfl | rfl <;> rfl
theorem tL_X11_33 : Cond.classLink RX11 33 RX2 ∈ tbG := in_2 68 rfl rfl
theorem tY_X2 : Cond.instantiable RX2 3 ∈ tbG := in_2 69 rfl rfl
theorem df_2 : ∀ j, j < 3 → defaultValue (fTy 2 j) = dfv (fpl (fTy 2 j)) := by
  intro j hj
  rcases (show j = 0 ∨ j = 1 ∨ j = 2 by omega) with rfl | rfl | rfl <;> rfl
theorem tL_X11_42 : Cond.classLink RX11 42 RX8 ∈ tbG := in_2 84 rfl rfl
theorem tY_X8 : Cond.instantiable RX8 5 ∈ tbG := in_2 85 rfl rfl
theorem df_8 : ∀ j, j < 5 → defaultValue (fTy 8 j) = dfv (fpl (fTy 8 j)) := by
  intro j hj
  rcases (show j = 0 ∨ j = 1 ∨ j = 2 ∨ j = 3 ∨ j = 4 by omega) with rfl | rfl | rfl | rfl | rfl <;> rfl
theorem tL_X11_53 : Cond.classLink RX11 53 RX6 ∈ tbG := in_2 107 rfl rfl
theorem tY_X6 : Cond.instantiable RX6 4 ∈ tbG := in_2 108 rfl rfl
theorem df_6 : ∀ j, j < 4 → defaultValue (fTy 6 j) = dfv (fpl (fTy 6 j)) := by
  intro j hj
  rcases (show j = 0 ∨ j = 1 ∨ j = 2 ∨ j = 3 by omega) with rfl | rfl | rfl | rfl <;> rfl
theorem tL_X11_62 : Cond.classLink RX11 62 RX0 ∈ tbG := in_2 127 rfl rfl
theorem tY_X0 : Cond.instantiable RX0 5 ∈ tbG := in_2 128 rfl rfl
theorem df_0 : ∀ j, j < 5 → defaultValue (fTy 0 j) = dfv (fpl (fTy 0 j)) := by
  intro j hj
  rcases (show j = 0 ∨ j = 1 ∨ j = 2 ∨ j = 3 ∨ j = 4 by omega) with rfl | rfl | rfl | rfl | rfl <;> rfl
theorem tL_X11_71 : Cond.classLink RX11 71 RX5 ∈ tbG := in_2 150 rfl rfl
theorem tY_X5 : Cond.instantiable RX5 7 ∈ tbG := in_2 151 rfl rfl
theorem df_5 : ∀ j, j < 7 → defaultValue (fTy 5 j) = dfv (fpl (fTy 5 j)) := by
  intro j hj
  rcases (show j = 0 ∨ j = 1 ∨ j = 2 ∨ j = 3 ∨ j = 4 ∨ j = 5 ∨ j = 6 by omega) with rfl | rfl | rfl | rfl | rfl | rfl | rfl <;> rfl
theorem tL_X11_80 : Cond.classLink RX11 80 RX4 ∈ tbG := in_2 180 rfl rfl
theorem tY_X4 : Cond.instantiable RX4 4 ∈ tbG := in_2 181 rfl rfl
theorem df_4 : ∀ j, j < 4 → defaultValue (fTy 4 j) = dfv (fpl (fTy 4 j)) := by
  intro j hj
  rcases (show j = 0 ∨ j = 1 ∨ j = 2 ∨ j = 3 by omega) with rfl | rfl | rfl | rfl <;> rfl
theorem tL_X11_89 : Cond.classLink RX11 89 RX3 ∈ tbG := in_2 199 rfl rfl
theorem tY_X3 : Cond.instantiable RX3 6 ∈ tbG := in_2 200 rfl rfl
theorem df_3 : ∀ j, j < 6 → defaultValue (fTy 3 j) = dfv (fpl (fTy 3 j)) := by
  intro j hj
  rcases (show j = 0 ∨ j = 1 ∨ j = 2 ∨ j = 3 ∨ j = 4 ∨ j = 5 by omega) with rfl | rfl | rfl | rfl | rfl | rfl <;> rfl
theorem tL_L_7 : Cond.classLink RL 7 RX11 ∈ tbG := in_1 22 rfl rfl
theorem tY_X11 : Cond.instantiable RX11 20 ∈ tbG := in_1 23 rfl rfl
theorem df_11 : ∀ j, j < 20 → defaultValue (fTy 11 j) = dfv (fpl (fTy 11 j)) := by
  intro j hj
  rcases (show j = 0 ∨ j = 1 ∨ j = 2 ∨ j = 3 ∨ j = 4 ∨ j = 5 ∨ j = 6 ∨ j = 7 ∨ j = 8 ∨ j = 9 ∨ j = 10 ∨ j = 11 ∨ j = 12 ∨ j = 13 ∨ j = 14 ∨ j = 15 ∨ j = 16 ∨ j = 17 ∨ j = 18 ∨ j = 19 by omega) with rfl | rfl | rfl | rfl | rfl | rfl | rfl | rfl | rfl | rfl | rfl | rfl | rfl | rfl | rfl | rfl | rfl | rfl | rfl | rfl <;> rfl
theorem tL_L_10 : Cond.classLink RL 10 RX12 ∈ tbG := in_6 125 rfl rfl
theorem tY_X12 : Cond.instantiable RX12 48 ∈ tbG := in_6 126 rfl rfl
theorem df_12 : ∀ j, j < 48 → defaultValue (fTy 12 j) = dfv (fpl (fTy 12 j)) := by
  intro j hj
  rcases (show j = 0 ∨ j = 1 ∨ j = 2 ∨ j = 3 ∨ j = 4 ∨ j = 5 ∨ j = 6 ∨ j = 7 ∨ j = 8 ∨ j = 9 ∨ j = 10 ∨ j = 11 ∨ j = 12 ∨ j = 13 ∨ j = 14 ∨ j = 15 ∨ j = 16 ∨ j = 17 ∨ j = 18 ∨ j = 19 ∨ j = 20 ∨ j = 21 ∨ j = 22 ∨ j = 23 ∨ j = 24 ∨ j = 25 ∨ j = 26 ∨ j = 27 ∨ j = 28 ∨ j = 29 ∨ j = 30 ∨ j = 31 ∨ j = 32 ∨ j = 33 ∨ j = 34 ∨ j = 35 ∨ j = 36 ∨ j = 37 ∨ j = 38 ∨ j = 39 ∨ j = 40 ∨ j = 41 ∨ j = 42 ∨ j = 43 ∨ j = 44 ∨ j = 45 ∨ j = 46 ∨ j = 47 by omega) with rfl | rfl | rfl | rfl | rfl | rfl | rfl | rfl | rfl | rfl | rfl | rfl | rfl | rfl | rfl | rfl | rfl | rfl | rfl | rfl | rfl | rfl | rfl | rfl | rfl | rfl | rfl | rfl | rfl | rfl | rfl | rfl | rfl | rfl | rfl | rfl | rfl | rfl | rfl | rfl | rfl | rfl | rfl | rfl | rfl | rfl | rfl | rfl <;> rfl
def sJ7 (σ : Sto) : Sto := si (si (si (si σ 9 ((0 : Int32).toNatClampNeg) (-1)) 9 ((1 : Int32).toNatClampNeg) (-1)) 9 ((2 : Int32).toNatClampNeg) (-1)) 9 ((3 : Int32).toNatClampNeg) (-1)
theorem zb_J7 {σ : Sto} {n : Nat} (h : Zb σ n) (hn : 9 ≤ n) : Zb (sJ7 σ) n := (((h.si hn).si hn).si hn).si hn
theorem k_J7 {ks : List (Nat × Nat)} {σ : Sto} (h : ks[8]? = some (1, 4)) : Ci yJ7_fill_53178 cJ7_fill_53178 4 0 0 0 0 (fun B => [.ref (B + 9), .int (-1)]) ks σ ks (fun σ2 => σ2 = sJ7 σ) := by
  refine Ci.of false (by decide) (fun hq => by cases hq) (fun _ => Nat.le_of_ble_eq_true rfl) (fun B tx E C => ?_)
  show E 0 0 ks 0 [(0, .ref (B + 9)), (1, .int (-1))] [] σ
  refine g_iconst C (v := 0) dJ7_fill_53178_0 (by decide) rfl ?_
  refine g_istore_n C (i := 2) (lv2 := [(2, .int 0), (0, .ref (B + 9)), (1, .int (-1))]) dJ7_fill_53178_1 rfl (by decide) rfl rfl ?_
  refine g_aload_n C (j := 1) dJ7_fill_53178_2 rfl rfl rfl ?_
  refine g_alen1 C (i := 8) (n := 4) rfl h dJ7_fill_53178_3 rfl ?_
  refine g_istore_n C (i := 3) (lv2 := [(3, .int 4), (2, .int 0), (0, .ref (B + 9)), (1, .int (-1))]) dJ7_fill_53178_4 rfl (by decide) rfl rfl ?_
  refine g_iload_n C (j := 1) dJ7_fill_53178_5 rfl rfl rfl ?_
  refine g_iload_n C (j := 0) dJ7_fill_53178_6 rfl rfl rfl ?_
  refine g_icmp_ge C (t := 20) dJ7_fill_53178_7 (by decide) rfl (fun hq => absurd hq (by decide)) (fun _ => ?_)
  refine g_aload_n C (j := 2) dJ7_fill_53178_10 rfl rfl rfl ?_
  refine g_iload_n C (j := 1) dJ7_fill_53178_11 rfl rfl rfl ?_
  refine g_iload_n C (j := 3) dJ7_fill_53178_12 rfl rfl rfl ?_
  refine g_iast C (i := 8) (n := 4) rfl h (vp_lit (by decide)) dJ7_fill_53178_13 rfl ?_
  refine g_iinc C (i := 2) (j := 1) (v := 1) (lv2 := [(2, .int 1), (3, .int 4), (0, .ref (B + 9)), (1, .int (-1))]) dJ7_fill_53178_14 rfl (by decide) (by decide) rfl rfl ?_
  refine g_goto C (t := 5) dJ7_fill_53178_17 (by decide) ?_
  refine g_iload_n C (j := 0) dJ7_fill_53178_5 rfl rfl rfl ?_
  refine g_iload_n C (j := 1) dJ7_fill_53178_6 rfl rfl rfl ?_
  refine g_icmp_ge C (t := 20) dJ7_fill_53178_7 (by decide) rfl (fun hq => absurd hq (by decide)) (fun _ => ?_)
  refine g_aload_n C (j := 2) dJ7_fill_53178_10 rfl rfl rfl ?_
  refine g_iload_n C (j := 0) dJ7_fill_53178_11 rfl rfl rfl ?_
  refine g_iload_n C (j := 3) dJ7_fill_53178_12 rfl rfl rfl ?_
  refine g_iast C (i := 8) (n := 4) rfl h (vp_lit (by decide)) dJ7_fill_53178_13 rfl ?_
  refine g_iinc C (i := 2) (j := 0) (v := 2) (lv2 := [(2, .int 2), (3, .int 4), (0, .ref (B + 9)), (1, .int (-1))]) dJ7_fill_53178_14 rfl (by decide) (by decide) rfl rfl ?_
  refine g_goto C (t := 5) dJ7_fill_53178_17 (by decide) ?_
  refine g_iload_n C (j := 0) dJ7_fill_53178_5 rfl rfl rfl ?_
  refine g_iload_n C (j := 1) dJ7_fill_53178_6 rfl rfl rfl ?_
  refine g_icmp_ge C (t := 20) dJ7_fill_53178_7 (by decide) rfl (fun hq => absurd hq (by decide)) (fun _ => ?_)
  refine g_aload_n C (j := 2) dJ7_fill_53178_10 rfl rfl rfl ?_
  refine g_iload_n C (j := 0) dJ7_fill_53178_11 rfl rfl rfl ?_
  refine g_iload_n C (j := 3) dJ7_fill_53178_12 rfl rfl rfl ?_
  refine g_iast C (i := 8) (n := 4) rfl h (vp_lit (by decide)) dJ7_fill_53178_13 rfl ?_
  refine g_iinc C (i := 2) (j := 0) (v := 3) (lv2 := [(2, .int 3), (3, .int 4), (0, .ref (B + 9)), (1, .int (-1))]) dJ7_fill_53178_14 rfl (by decide) (by decide) rfl rfl ?_
  refine g_goto C (t := 5) dJ7_fill_53178_17 (by decide) ?_
  refine g_iload_n C (j := 0) dJ7_fill_53178_5 rfl rfl rfl ?_
  refine g_iload_n C (j := 1) dJ7_fill_53178_6 rfl rfl rfl ?_
  refine g_icmp_ge C (t := 20) dJ7_fill_53178_7 (by decide) rfl (fun hq => absurd hq (by decide)) (fun _ => ?_)
  refine g_aload_n C (j := 2) dJ7_fill_53178_10 rfl rfl rfl ?_
  refine g_iload_n C (j := 0) dJ7_fill_53178_11 rfl rfl rfl ?_
  refine g_iload_n C (j := 3) dJ7_fill_53178_12 rfl rfl rfl ?_
  refine g_iast C (i := 8) (n := 4) rfl h (vp_lit (by decide)) dJ7_fill_53178_13 rfl ?_
  refine g_iinc C (i := 2) (j := 0) (v := 4) (lv2 := [(2, .int 4), (3, .int 4), (0, .ref (B + 9)), (1, .int (-1))]) dJ7_fill_53178_14 rfl (by decide) (by decide) rfl rfl ?_
  refine g_goto C (t := 5) dJ7_fill_53178_17 (by decide) ?_
  refine g_iload_n C (j := 0) dJ7_fill_53178_5 rfl rfl rfl ?_
  refine g_iload_n C (j := 1) dJ7_fill_53178_6 rfl rfl rfl ?_
  refine g_icmp_ge C (t := 20) dJ7_fill_53178_7 (by decide) rfl (fun _ => ?_) (fun hq => absurd (by decide) hq)
  exact g_vret C rfl (Nat.le_refl _) (Nat.le_refl _) rfl dJ7_fill_53178_20 rfl
def sX10 (σ : Sto) : Sto := (sJ7 (sr (sr (sr (sr (sr (sr (sr σ 3 0 4) 3 1 5) 3 2 6) 3 3 7) 2 0 3) 2 1 8) 2 2 9))
theorem zb_X10 {σ : Sto} (h : Zb σ 2) : Zb (sX10 σ) 9 := by
  have hz1 := h.up.up.up.up.up
  have hz2 := Zb.sr (x := 3) (k := 0) (v := 4) hz1 (by omega)
  have hz3 := Zb.sr (x := 3) (k := 1) (v := 5) hz2 (by omega)
  have hz4 := Zb.sr (x := 3) (k := 2) (v := 6) hz3 (by omega)
  have hz5 := Zb.sr (x := 3) (k := 3) (v := 7) hz4 (by omega)
  have hz6 := Zb.sr (x := 2) (k := 0) (v := 3) hz5 (by omega)
  have hz7 := hz6.up
  have hz8 := Zb.sr (x := 2) (k := 1) (v := 8) hz7 (by omega)
  have hz9 := hz8.up
  have hz10 := Zb.sr (x := 2) (k := 2) (v := 9) hz9 (by omega)
  have hz11 := zb_J7 hz10 (by omega)
  exact hz11
theorem k_X10 {σ : Sto} (hz : Zb σ 2) : Ci yX10_init cX10_init 1 2 60 7 252 (fun B => [.ref (B + 2)]) (KS.take 2) σ ((KS.take 9)) (fun σ2 => σ2 = sX10 σ) := by
  refine Ci.of true (by decide) (fun _ => rfl) (fun _ => Nat.le_of_ble_eq_true rfl) (fun B tx E C => ?_)
  show E 0 0 (KS.take 2) 0 [(0, .ref (B + 2))] [] σ
  refine g_aload_n C (j := 0) dX10_init_0 rfl rfl rfl ?_
  refine g_obj C (idx := 3) tO_X10 (Nat.le_of_ble_eq_true rfl) (Nat.le_of_ble_eq_true rfl) dX10_init_1 rfl ?_
  refine g_aload_n C (j := 0) dX10_init_4 rfl rfl rfl ?_
  refine g_iconst C (v := 4) dX10_init_5 (by decide) rfl ?_
  refine g_bipush C (v := 60) dX10_init_6 (by decide) rfl ?_
  refine g_multi C (a := 3) (b1 := 4) (b2 := 5) (b3 := 6) (b4 := 7) tL_X10_11 (by decide +kernel) (by decide +kernel) rfl rfl rfl rfl (fun j _ => hz _ (by omega)) (Nat.le_of_ble_eq_true rfl) (Nat.le_of_ble_eq_true rfl) dX10_init_8 rfl ?_
  refine g_ks (E := E) (ks2 := KS.take 7) (by decide +kernel) ?_
  have hz1 := hz.up.up.up.up.up
  have hz2 := Zb.sr (x := 3) (k := 0) (v := 4) hz1 (by omega)
  have hz3 := Zb.sr (x := 3) (k := 1) (v := 5) hz2 (by omega)
  have hz4 := Zb.sr (x := 3) (k := 2) (v := 6) hz3 (by omega)
  have hz5 := Zb.sr (x := 3) (k := 3) (v := 7) hz4 (by omega)
  refine g_putrF C (i := 1) (b := 3) tF_X10_13 ⟨RX10, TX10, 3, rfl, rfl, rfl⟩ rfl (by decide) rfl (by decide +kernel) dX10_init_12 rfl ?_
  have hz6 := Zb.sr (x := 2) (k := 0) (v := 3) hz5 (by omega)
  refine g_aload_n C (j := 0) dX10_init_15 rfl rfl rfl ?_
  refine g_iconst C (v := 4) dX10_init_16 (by decide) rfl ?_
  refine g_newi C (N := 4) (a := 8) (by decide) (by decide) (Nat.le_of_ble_eq_true rfl) (by decide +kernel) (by decide +kernel) (hz6 _ (by omega)) (Nat.le_of_ble_eq_true rfl) (Nat.le_of_ble_eq_true rfl) dX10_init_17 rfl ?_
  refine g_ks (E := E) (ks2 := KS.take 8) (by decide +kernel) ?_
  have hz7 := hz6.up
  refine g_putrF C (i := 1) (b := 8) tF_X10_16 ⟨RX10, TX10, 3, rfl, rfl, rfl⟩ rfl (by decide) rfl (by decide +kernel) dX10_init_19 rfl ?_
  have hz8 := Zb.sr (x := 2) (k := 1) (v := 8) hz7 (by omega)
  refine g_aload_n C (j := 0) dX10_init_22 rfl rfl rfl ?_
  refine g_iconst C (v := 4) dX10_init_23 (by decide) rfl ?_
  refine g_newi C (N := 4) (a := 9) (by decide) (by decide) (Nat.le_of_ble_eq_true rfl) (by decide +kernel) (by decide +kernel) (hz8 _ (by omega)) (Nat.le_of_ble_eq_true rfl) (Nat.le_of_ble_eq_true rfl) dX10_init_24 rfl ?_
  refine g_ks (E := E) (ks2 := KS.take 9) (by decide +kernel) ?_
  have hz9 := hz8.up
  refine g_putrF C (i := 1) (b := 9) tF_X10_20 ⟨RX10, TX10, 3, rfl, rfl, rfl⟩ rfl (by decide) rfl (by decide +kernel) dX10_init_26 rfl ?_
  have hz10 := Zb.sr (x := 2) (k := 2) (v := 9) hz9 (by omega)
  refine g_aload_n C (j := 0) dX10_init_29 rfl rfl rfl ?_
  refine g_getr C (i := 1) (b := 9) tF_X10_20 rfl rfl (by decide +kernel) rfl (by decide) dX10_init_30 rfl ?_
  refine g_iconst C (v := (-1)) dX10_init_33 (by decide) rfl ?_
  refine g_callSi C (As := fun B => [.ref (B + 9), .int (-1)]) (mc2 := 0) (ms2 := 0) (k_J7 (by decide +kernel)) tM_X10_23 tT_J7_fill_53178 tN_J7 tC_J7_fill_53178 2 dd_J7_fill_53178 rfl (Nat.le_of_ble_eq_true rfl) (Nat.le_of_ble_eq_true rfl) (by decide +kernel) (Nat.le_of_ble_eq_true rfl) (Nat.le_of_ble_eq_true rfl) rfl (Nat.le_of_ble_eq_true rfl) dX10_init_34 rfl (fun σ2 e2 => ?_)
  subst e2
  have hz11 := zb_J7 hz10 (by omega)
  exact g_vret C rfl (Nat.le_of_ble_eq_true rfl) (Nat.le_of_ble_eq_true rfl) (by decide +kernel) dX10_init_37 rfl
def sX9 (σ : Sto) : Sto := (si (si (sl (si (si (si (si (si (si (kwR 131 0 0 0 (sr (sr σ 10 0 11) 10 1 12)) 10 2 0) 10 3 0) 10 4 0) 10 5 0) 10 6 0) 10 7 0) 10 8 0) 10 9 0) 10 10 0)
theorem zb_X9 {σ : Sto} (h : Zb σ 10) : Zb (sX9 σ) 12 := by
  have hz1 := h.up
  have hz2 := Zb.sr (x := 10) (k := 0) (v := 11) hz1 (by omega)
  have hz3 := hz2.up
  have hz4 := Zb.sr (x := 10) (k := 1) (v := 12) hz3 (by omega)
  have hz5 := zb_kw (f := 131) (i := 0) (n := 0) (acc := 0) hz4 (by omega)
  have hz6 := Zb.si (x := 10) (k := 2) (v := 0) hz5 (by omega)
  have hz7 := Zb.si (x := 10) (k := 3) (v := 0) hz6 (by omega)
  have hz8 := Zb.si (x := 10) (k := 4) (v := 0) hz7 (by omega)
  have hz9 := Zb.si (x := 10) (k := 5) (v := 0) hz8 (by omega)
  have hz10 := Zb.si (x := 10) (k := 6) (v := 0) hz9 (by omega)
  have hz11 := Zb.si (x := 10) (k := 7) (v := 0) hz10 (by omega)
  have hz12 := Zb.sl (x := 10) (k := 8) (v := 0) hz11 (by omega)
  have hz13 := Zb.si (x := 10) (k := 9) (v := 0) hz12 (by omega)
  have hz14 := Zb.si (x := 10) (k := 10) (v := 0) hz13 (by omega)
  exact hz14
theorem k_X9 {σ : Sto} (hz : Zb σ 10) : Ci yX9_init cX9_init 6 6 200 2 923 (fun B => [.ref (B + 10)]) (KS.take 10) σ ((KS.take 12)) (fun σ2 => σ2 = sX9 σ) := by
  refine Ci.of true (by decide) (fun _ => rfl) (fun _ => Nat.le_of_ble_eq_true rfl) (fun B tx E C => ?_)
  show E 0 0 (KS.take 10) 0 [(0, .ref (B + 10))] [] σ
  refine g_aload_n C (j := 0) dX9_init_0 rfl rfl rfl ?_
  refine g_obj C (idx := 3) tO_X9 (Nat.le_of_ble_eq_true rfl) (Nat.le_of_ble_eq_true rfl) dX9_init_1 rfl ?_
  refine g_aload_n C (j := 0) dX9_init_4 rfl rfl rfl ?_
  refine g_sipush C (v := 900) dX9_init_5 (by decide) rfl ?_
  refine g_newb C (N := 900) (a := 11) (by decide) (by decide) (Nat.le_of_ble_eq_true rfl) (by decide +kernel) (by decide +kernel) (hz _ (by omega)) (Nat.le_of_ble_eq_true rfl) (Nat.le_of_ble_eq_true rfl) dX9_init_8 rfl ?_
  refine g_ks (E := E) (ks2 := KS.take 11) (by decide +kernel) ?_
  have hz1 := hz.up
  refine g_putrF C (i := 9) (b := 11) tF_X9_11 ⟨RX9, TX9, 11, rfl, rfl, rfl⟩ rfl (by decide) rfl (by decide +kernel) dX9_init_10 rfl ?_
  have hz2 := Zb.sr (x := 10) (k := 0) (v := 11) hz1 (by omega)
  refine g_aload_n C (j := 0) dX9_init_13 rfl rfl rfl ?_
  refine g_bipush C (v := 23) dX9_init_14 (by decide) rfl ?_
  refine g_newl C (N := 23) (a := 12) (by decide) (by decide) (Nat.le_of_ble_eq_true rfl) (by decide +kernel) (by decide +kernel) (hz2 _ (by omega)) (Nat.le_of_ble_eq_true rfl) (Nat.le_of_ble_eq_true rfl) dX9_init_16 rfl ?_
  refine g_ks (E := E) (ks2 := KS.take 12) (by decide +kernel) ?_
  have hz3 := hz2.up
  refine g_putrF C (i := 9) (b := 12) tF_X9_15 ⟨RX9, TX9, 11, rfl, rfl, rfl⟩ rfl (by decide) rfl (by decide +kernel) dX9_init_18 rfl ?_
  have hz4 := Zb.sr (x := 10) (k := 1) (v := 12) hz3 (by omega)
  refine g_lconst C (v := 0) dX9_init_21 (by decide) rfl ?_
  refine g_lstore_n C (i := 1) (lv2 := [(1, .long 0), (0, .ref (B + 10))]) dX9_init_22 rfl (by decide) rfl rfl ?_
  refine g_iconst C (v := 0) dX9_init_23 (by decide) rfl ?_
  refine g_istore_n C (i := 3) (lv2 := [(3, .int 0), (1, .long 0), (0, .ref (B + 10))]) dX9_init_24 rfl (by decide) rfl rfl ?_
  refine g_iconst C (v := 0) dX9_init_25 (by decide) rfl ?_
  refine g_istore C (i := 4) (lv2 := [(4, .int 0), (3, .int 0), (1, .long 0), (0, .ref (B + 10))]) dX9_init_26 (by decide) rfl rfl ?_
  refine tk_loop C (by decide +kernel) (by decide +kernel) (by decide +kernel) (Nat.le_of_ble_eq_true rfl) (Nat.le_of_ble_eq_true rfl) (by decide) (by decide) 131 0 0 0 _ (by decide) (by decide) (by decide) rfl ?_
  have hz5 := zb_kw (f := 131) (i := 0) (n := 0) (acc := 0) hz4 (by omega)
  refine g_aload_n C (j := 0) dX9_init_94 rfl rfl rfl ?_
  refine g_iconst C (v := 0) dX9_init_95 (by decide) rfl ?_
  refine g_puti C (i := 9) tF_X9_31 fm_9_2 rfl rfl (by decide +kernel) dX9_init_96 rfl ?_
  have hz6 := Zb.si (x := 10) (k := 2) (v := 0) hz5 (by omega)
  refine g_aload_n C (j := 0) dX9_init_99 rfl rfl rfl ?_
  refine g_iconst C (v := 0) dX9_init_100 (by decide) rfl ?_
  refine g_puti C (i := 9) tF_X9_35 fm_9_3 rfl rfl (by decide +kernel) dX9_init_101 rfl ?_
  have hz7 := Zb.si (x := 10) (k := 3) (v := 0) hz6 (by omega)
  refine g_aload_n C (j := 0) dX9_init_104 rfl rfl rfl ?_
  refine g_iconst C (v := 0) dX9_init_105 (by decide) rfl ?_
  refine g_puti C (i := 9) tF_X9_37 fm_9_4 rfl rfl (by decide +kernel) dX9_init_106 rfl ?_
  have hz8 := Zb.si (x := 10) (k := 4) (v := 0) hz7 (by omega)
  refine g_aload_n C (j := 0) dX9_init_109 rfl rfl rfl ?_
  refine g_iconst C (v := 0) dX9_init_110 (by decide) rfl ?_
  refine g_puti C (i := 9) tF_X9_40 fm_9_5 rfl rfl (by decide +kernel) dX9_init_111 rfl ?_
  have hz9 := Zb.si (x := 10) (k := 5) (v := 0) hz8 (by omega)
  refine g_aload_n C (j := 0) dX9_init_114 rfl rfl rfl ?_
  refine g_iconst C (v := 0) dX9_init_115 (by decide) rfl ?_
  refine g_puti C (i := 9) tF_X9_43 fm_9_6 rfl rfl (by decide +kernel) dX9_init_116 rfl ?_
  have hz10 := Zb.si (x := 10) (k := 6) (v := 0) hz9 (by omega)
  refine g_aload_n C (j := 0) dX9_init_119 rfl rfl rfl ?_
  refine g_iconst C (v := 0) dX9_init_120 (by decide) rfl ?_
  refine g_puti C (i := 9) tF_X9_46 fm_9_7 rfl rfl (by decide +kernel) dX9_init_121 rfl ?_
  have hz11 := Zb.si (x := 10) (k := 7) (v := 0) hz10 (by omega)
  refine g_aload_n C (j := 0) dX9_init_124 rfl rfl rfl ?_
  refine g_lconst C (v := 0) dX9_init_125 (by decide) rfl ?_
  refine g_putl C (i := 9) tF_X9_49 fm_9_8 rfl rfl (by decide +kernel) dX9_init_126 rfl ?_
  have hz12 := Zb.sl (x := 10) (k := 8) (v := 0) hz11 (by omega)
  refine g_aload_n C (j := 0) dX9_init_129 rfl rfl rfl ?_
  refine g_iconst C (v := 0) dX9_init_130 (by decide) rfl ?_
  refine g_puti C (i := 9) tF_X9_53 fm_9_9 rfl rfl (by decide +kernel) dX9_init_131 rfl ?_
  have hz13 := Zb.si (x := 10) (k := 9) (v := 0) hz12 (by omega)
  refine g_aload_n C (j := 0) dX9_init_134 rfl rfl rfl ?_
  refine g_iconst C (v := 0) dX9_init_135 (by decide) rfl ?_
  refine g_puti C (i := 9) tF_X9_56 fm_9_10 rfl rfl (by decide +kernel) dX9_init_136 rfl ?_
  have hz14 := Zb.si (x := 10) (k := 10) (v := 0) hz13 (by omega)
  exact g_vret C rfl (Nat.le_of_ble_eq_true rfl) (Nat.le_of_ble_eq_true rfl) (by decide +kernel) dX9_init_139 rfl
def sX11 (σ : Sto) : Sto := (si (si (sl (sl (si (si (si (sr (sr (sX3 (sr (sX4 (sr (sX5 (sr (sX0 (sr (sX6 (sr (sX1 73 (sr (sX1 59 (sr (sX1 45 (sr (sr (sX8 (sr (sX2 (sr (sX1 27 (sr (sX1 13 (sr (sX9 (sr (sX10 σ) 1 0 2)) 1 1 10)) 1 11 13)) 1 12 27)) 1 2 41)) 1 3 42) 1 9 44)) 44 ((0 : Int32).toNatClampNeg) 45)) 44 ((1 : Int32).toNatClampNeg) 59)) 44 ((2 : Int32).toNatClampNeg) 73)) 1 4 88)) 1 5 90)) 1 6 93)) 1 7 95)) 1 8 97) 1 10 100) 1 14 0) 1 13 0) 1 15 0) 1 16 0) 1 17 1) 1 18 (-1)) 1 19 (-1))
theorem zb_X11 {σ : Sto} (h : Zb σ 1) : Zb (sX11 σ) 100 := by
  have hz1 := h.up
  have hz2 := zb_X10 hz1
  have hz3 := Zb.sr (x := 1) (k := 0) (v := 2) hz2 (by omega)
  have hz4 := hz3.up
  have hz5 := zb_X9 hz4
  have hz6 := Zb.sr (x := 1) (k := 1) (v := 10) hz5 (by omega)
  have hz7 := hz6.up
  have hz8 := zb_X1 hz7
  have hz9 := Zb.sr (x := 1) (k := 11) (v := 13) hz8 (by omega)
  have hz10 := hz9.up
  have hz11 := zb_X1 hz10
  have hz12 := Zb.sr (x := 1) (k := 12) (v := 27) hz11 (by omega)
  have hz13 := hz12.up
  have hz14 := zb_X2 hz13
  have hz15 := Zb.sr (x := 1) (k := 2) (v := 41) hz14 (by omega)
  have hz16 := hz15.up
  have hz17 := zb_X8 hz16
  have hz18 := Zb.sr (x := 1) (k := 3) (v := 42) hz17 (by omega)
  have hz19 := hz18.up
  have hz20 := Zb.sr (x := 1) (k := 9) (v := 44) hz19 (by omega)
  have hz21 := hz20.up
  have hz22 := zb_X1 hz21
  have hz23 := Zb.sr (x := 44) (k := ((0 : Int32).toNatClampNeg)) (v := 45) hz22 (by omega)
  have hz24 := hz23.up
  have hz25 := zb_X1 hz24
  have hz26 := Zb.sr (x := 44) (k := ((1 : Int32).toNatClampNeg)) (v := 59) hz25 (by omega)
  have hz27 := hz26.up
  have hz28 := zb_X1 hz27
  have hz29 := Zb.sr (x := 44) (k := ((2 : Int32).toNatClampNeg)) (v := 73) hz28 (by omega)
  have hz30 := hz29.up
  have hz31 := hz30.up
  have hz32 := zb_X6 hz31
  have hz33 := Zb.sr (x := 1) (k := 4) (v := 88) hz32 (by omega)
  have hz34 := hz33.up
  have hz35 := zb_X0 hz34
  have hz36 := Zb.sr (x := 1) (k := 5) (v := 90) hz35 (by omega)
  have hz37 := hz36.up
  have hz38 := zb_X5 hz37
  have hz39 := Zb.sr (x := 1) (k := 6) (v := 93) hz38 (by omega)
  have hz40 := hz39.up
  have hz41 := zb_X4 hz40
  have hz42 := Zb.sr (x := 1) (k := 7) (v := 95) hz41 (by omega)
  have hz43 := hz42.up
  have hz44 := zb_X3 hz43
  have hz45 := Zb.sr (x := 1) (k := 8) (v := 97) hz44 (by omega)
  have hz46 := hz45.up
  have hz47 := Zb.sr (x := 1) (k := 10) (v := 100) hz46 (by omega)
  have hz48 := Zb.si (x := 1) (k := 14) (v := 0) hz47 (by omega)
  have hz49 := Zb.si (x := 1) (k := 13) (v := 0) hz48 (by omega)
  have hz50 := Zb.si (x := 1) (k := 15) (v := 0) hz49 (by omega)
  have hz51 := Zb.sl (x := 1) (k := 16) (v := 0) hz50 (by omega)
  have hz52 := Zb.sl (x := 1) (k := 17) (v := 1) hz51 (by omega)
  have hz53 := Zb.si (x := 1) (k := 18) (v := (-1)) hz52 (by omega)
  have hz54 := Zb.si (x := 1) (k := 19) (v := (-1)) hz53 (by omega)
  exact hz54
theorem k_X11 {σ : Sto} (hz : Zb σ 1) : Ci yX11_init cX11_init 2 7 260 99 16027 (fun B => [.ref (B + 1)]) (KS.take 1) σ ((KS.take 100)) (fun σ2 => σ2 = sX11 σ) := by
  refine Ci.of true (by decide) (fun _ => rfl) (fun _ => Nat.le_of_ble_eq_true rfl) (fun B tx E C => ?_)
  show E 0 0 (KS.take 1) 0 [(0, .ref (B + 1))] [] σ
  refine g_aload_n C (j := 0) dX11_init_0 rfl rfl rfl ?_
  refine g_obj C (idx := 3) tO_X11 (Nat.le_of_ble_eq_true rfl) (Nat.le_of_ble_eq_true rfl) dX11_init_1 rfl ?_
  refine g_aload_n C (j := 0) dX11_init_4 rfl rfl rfl ?_
  refine g_new C (idx := 9) (ci := 10) (N := 3) (a := 2) (Cl := RX10) (T := TX10) rfl rfl uwX10 tyX10_ok df_10 tL_X11_9 tY_X10 tN_X10 (by decide +kernel) (by decide +kernel) (hz _ (by omega)) (Nat.le_of_ble_eq_true rfl) (Nat.le_of_ble_eq_true rfl) dX11_init_5 rfl ?_
  refine g_ks (E := E) (ks2 := KS.take 2) (by decide +kernel) ?_
  have hz1 := hz.up
  refine g_dup C dX11_init_8 rfl rfl ?_
  refine g_callI C (a := 2) (As := fun B => []) (mc2 := 7) (ms2 := 252) (k_X10 hz1) tM_X11_11 tI_X10_init tN_X10 tC_X10_init rfl 0 (by decide +kernel) rfl (Nat.le_of_ble_eq_true rfl) (Nat.le_of_ble_eq_true rfl) (by decide +kernel) (Nat.le_of_ble_eq_true rfl) (Nat.le_of_ble_eq_true rfl) rfl (Nat.le_of_ble_eq_true rfl) dX11_init_9 rfl (fun σ2 e2 => ?_)
  subst e2
  have hz2 := zb_X10 hz1
  refine g_putrF C (i := 0) (b := 2) tF_X11_12 ⟨RX11, TX11, 20, rfl, rfl, rfl⟩ rfl (by decide) rfl (by decide +kernel) dX11_init_12 rfl ?_
  have hz3 := Zb.sr (x := 1) (k := 0) (v := 2) hz2 (by omega)
  refine g_aload_n C (j := 0) dX11_init_15 rfl rfl rfl ?_
  refine g_new C (idx := 16) (ci := 9) (N := 11) (a := 10) (Cl := RX9) (T := TX9) rfl rfl uwX9 tyX9_ok df_9 tL_X11_16 tY_X9 tN_X9 (by decide +kernel) (by decide +kernel) (hz3 _ (by omega)) (Nat.le_of_ble_eq_true rfl) (Nat.le_of_ble_eq_true rfl) dX11_init_16 rfl ?_
  refine g_ks (E := E) (ks2 := KS.take 10) (by decide +kernel) ?_
  have hz4 := hz3.up
  refine g_dup C dX11_init_19 rfl rfl ?_
  refine g_callI C (a := 10) (As := fun B => []) (mc2 := 2) (ms2 := 923) (k_X9 hz4) tM_X11_18 tI_X9_init tN_X9 tC_X9_init rfl 0 (by decide +kernel) rfl (Nat.le_of_ble_eq_true rfl) (Nat.le_of_ble_eq_true rfl) (by decide +kernel) (Nat.le_of_ble_eq_true rfl) (Nat.le_of_ble_eq_true rfl) rfl (Nat.le_of_ble_eq_true rfl) dX11_init_20 rfl (fun σ2 e2 => ?_)
  subst e2
  have hz5 := zb_X9 hz4
  refine g_putrF C (i := 0) (b := 10) tF_X11_19 ⟨RX11, TX11, 20, rfl, rfl, rfl⟩ rfl (by decide) rfl (by decide +kernel) dX11_init_23 rfl ?_
  have hz6 := Zb.sr (x := 1) (k := 1) (v := 10) hz5 (by omega)
  refine g_aload_n C (j := 0) dX11_init_26 rfl rfl rfl ?_
  refine g_new C (idx := 23) (ci := 1) (N := 16) (a := 13) (Cl := RX1) (T := TX1) rfl rfl uwX1 tyX1_ok df_1 tL_X11_23 tY_X1 tN_X1 (by decide +kernel) (by decide +kernel) (hz6 _ (by omega)) (Nat.le_of_ble_eq_true rfl) (Nat.le_of_ble_eq_true rfl) dX11_init_27 rfl ?_
  refine g_ks (E := E) (ks2 := KS.take 13) (by decide +kernel) ?_
  have hz7 := hz6.up
  refine g_dup C dX11_init_30 rfl rfl ?_
  refine g_callI C (a := 13) (As := fun B => []) (mc2 := 13) (ms2 := 466) (k_X1 (i := 12) rfl (by decide +kernel) (by decide +kernel) hz7) tM_X11_25 tI_X1_init tN_X1 tC_X1_init rfl 0 (by decide +kernel) rfl (Nat.le_of_ble_eq_true rfl) (Nat.le_of_ble_eq_true rfl) (by decide +kernel) (Nat.le_of_ble_eq_true rfl) (Nat.le_of_ble_eq_true rfl) rfl (Nat.le_of_ble_eq_true rfl) dX11_init_31 rfl (fun σ2 e2 => ?_)
  subst e2
  refine g_ks (E := E) (ks2 := KS.take 26) (by decide +kernel) ?_
  have hz8 := zb_X1 hz7
  refine g_putr C (i := 0) (b := 13) tF_X11_26 fm_11_11 rfl (by decide) rfl (by decide +kernel) dX11_init_34 rfl ?_
  have hz9 := Zb.sr (x := 1) (k := 11) (v := 13) hz8 (by omega)
  refine g_aload_n C (j := 0) dX11_init_37 rfl rfl rfl ?_
  refine g_new C (idx := 23) (ci := 1) (N := 16) (a := 27) (Cl := RX1) (T := TX1) rfl rfl uwX1 tyX1_ok df_1 tL_X11_23 tY_X1 tN_X1 (by decide +kernel) (by decide +kernel) (hz9 _ (by omega)) (Nat.le_of_ble_eq_true rfl) (Nat.le_of_ble_eq_true rfl) dX11_init_38 rfl ?_
  refine g_ks (E := E) (ks2 := KS.take 27) (by decide +kernel) ?_
  have hz10 := hz9.up
  refine g_dup C dX11_init_41 rfl rfl ?_
  refine g_callI C (a := 27) (As := fun B => []) (mc2 := 13) (ms2 := 466) (k_X1 (i := 26) rfl (by decide +kernel) (by decide +kernel) hz10) tM_X11_25 tI_X1_init tN_X1 tC_X1_init rfl 0 (by decide +kernel) rfl (Nat.le_of_ble_eq_true rfl) (Nat.le_of_ble_eq_true rfl) (by decide +kernel) (Nat.le_of_ble_eq_true rfl) (Nat.le_of_ble_eq_true rfl) rfl (Nat.le_of_ble_eq_true rfl) dX11_init_42 rfl (fun σ2 e2 => ?_)
  subst e2
  refine g_ks (E := E) (ks2 := KS.take 40) (by decide +kernel) ?_
  have hz11 := zb_X1 hz10
  refine g_putr C (i := 0) (b := 27) tF_X11_30 fm_11_12 rfl (by decide) rfl (by decide +kernel) dX11_init_45 rfl ?_
  have hz12 := Zb.sr (x := 1) (k := 12) (v := 27) hz11 (by omega)
  refine g_aload_n C (j := 0) dX11_init_48 rfl rfl rfl ?_
  refine g_new C (idx := 33) (ci := 2) (N := 3) (a := 41) (Cl := RX2) (T := TX2) rfl rfl uwX2 tyX2_ok df_2 tL_X11_33 tY_X2 tN_X2 (by decide +kernel) (by decide +kernel) (hz12 _ (by omega)) (Nat.le_of_ble_eq_true rfl) (Nat.le_of_ble_eq_true rfl) dX11_init_49 rfl ?_
  refine g_ks (E := E) (ks2 := KS.take 41) (by decide +kernel) ?_
  have hz13 := hz12.up
  refine g_dup C dX11_init_52 rfl rfl ?_
  refine g_aload_n C (j := 0) dX11_init_53 rfl rfl rfl ?_
  refine g_getr C (i := 0) (b := 10) tF_X11_19 rfl rfl (by decide +kernel) rfl (by decide) dX11_init_54 rfl ?_
  refine g_aload_n C (j := 0) dX11_init_57 rfl rfl rfl ?_
  refine g_getr C (i := 0) (b := 27) tF_X11_30 rfl rfl (by decide +kernel) rfl (by decide) dX11_init_58 rfl ?_
  refine g_callI C (a := 41) (As := fun B => [.ref (B + 10), .ref (B + 27)]) (mc2 := 0) (ms2 := 0) (k_X2 hz13) tM_X11_35 tI_X2_init tN_X2 tC_X2_init rfl 2 (by decide +kernel) rfl (Nat.le_of_ble_eq_true rfl) (Nat.le_of_ble_eq_true rfl) (by decide +kernel) (Nat.le_of_ble_eq_true rfl) (Nat.le_of_ble_eq_true rfl) rfl (Nat.le_of_ble_eq_true rfl) dX11_init_61 rfl (fun σ2 e2 => ?_)
  subst e2
  have hz14 := zb_X2 hz13
  refine g_putrF C (i := 0) (b := 41) tF_X11_38 ⟨RX11, TX11, 20, rfl, rfl, rfl⟩ rfl (by decide) rfl (by decide +kernel) dX11_init_64 rfl ?_
  have hz15 := Zb.sr (x := 1) (k := 2) (v := 41) hz14 (by omega)
  refine g_aload_n C (j := 0) dX11_init_67 rfl rfl rfl ?_
  refine g_new C (idx := 42) (ci := 8) (N := 5) (a := 42) (Cl := RX8) (T := TX8) rfl rfl uwX8 tyX8_ok df_8 tL_X11_42 tY_X8 tN_X8 (by decide +kernel) (by decide +kernel) (hz15 _ (by omega)) (Nat.le_of_ble_eq_true rfl) (Nat.le_of_ble_eq_true rfl) dX11_init_68 rfl ?_
  refine g_ks (E := E) (ks2 := KS.take 42) (by decide +kernel) ?_
  have hz16 := hz15.up
  refine g_dup C dX11_init_71 rfl rfl ?_
  refine g_aload_n C (j := 0) dX11_init_72 rfl rfl rfl ?_
  refine g_getr C (i := 0) (b := 10) tF_X11_19 rfl rfl (by decide +kernel) rfl (by decide) dX11_init_73 rfl ?_
  refine g_aload_n C (j := 0) dX11_init_76 rfl rfl rfl ?_
  refine g_getr C (i := 0) (b := 27) tF_X11_30 rfl rfl (by decide +kernel) rfl (by decide) dX11_init_77 rfl ?_
  refine g_callI C (a := 42) (As := fun B => [.ref (B + 10), .ref (B + 27)]) (mc2 := 1) (ms2 := 3) (k_X8 hz16 rfl) tM_X11_44 tI_X8_init tN_X8 tC_X8_init rfl 2 (by decide +kernel) rfl (Nat.le_of_ble_eq_true rfl) (Nat.le_of_ble_eq_true rfl) (by decide +kernel) (Nat.le_of_ble_eq_true rfl) (Nat.le_of_ble_eq_true rfl) rfl (Nat.le_of_ble_eq_true rfl) dX11_init_80 rfl (fun σ2 e2 => ?_)
  subst e2
  have hz17 := zb_X8 hz16
  refine g_putrF C (i := 0) (b := 42) tF_X11_45 ⟨RX11, TX11, 20, rfl, rfl, rfl⟩ rfl (by decide) rfl (by decide +kernel) dX11_init_83 rfl ?_
  have hz18 := Zb.sr (x := 1) (k := 3) (v := 42) hz17 (by omega)
  refine g_aload_n C (j := 0) dX11_init_86 rfl rfl rfl ?_
  refine g_iconst C (v := 3) dX11_init_87 (by decide) rfl ?_
  refine g_anew C (N := 3) (a := 44) tL_X11_23 (by decide) (by decide) (Nat.le_of_ble_eq_true rfl) (by decide +kernel) (by decide +kernel) (hz18 _ (by omega)) (Nat.le_of_ble_eq_true rfl) (Nat.le_of_ble_eq_true rfl) dX11_init_88 rfl ?_
  refine g_ks (E := E) (ks2 := KS.take 44) (by decide +kernel) ?_
  have hz19 := hz18.up
  refine g_putrF C (i := 0) (b := 44) tF_X11_49 ⟨RX11, TX11, 20, rfl, rfl, rfl⟩ rfl (by decide) rfl (by decide +kernel) dX11_init_91 rfl ?_
  have hz20 := Zb.sr (x := 1) (k := 9) (v := 44) hz19 (by omega)
  refine g_iconst C (v := 0) dX11_init_94 (by decide) rfl ?_
  refine g_istore_n C (i := 1) (lv2 := [(1, .int 0), (0, .ref (B + 1))]) dX11_init_95 rfl (by decide) rfl rfl ?_
  refine g_iload_n C (j := 0) dX11_init_96 rfl rfl rfl ?_
  refine g_iconst C (v := 3) dX11_init_97 (by decide) rfl ?_
  refine g_icmp_ge C (t := 120) dX11_init_98 (by decide) rfl (fun hq => absurd hq (by decide)) (fun _ => ?_)
  refine g_aload_n C (j := 1) dX11_init_101 rfl rfl rfl ?_
  refine g_getr C (i := 0) (b := 44) tF_X11_49 rfl rfl (by decide +kernel) rfl (by decide) dX11_init_102 rfl ?_
  refine g_iload_n C (j := 0) dX11_init_105 rfl rfl rfl ?_
  refine g_new C (idx := 23) (ci := 1) (N := 16) (a := 45) (Cl := RX1) (T := TX1) rfl rfl uwX1 tyX1_ok df_1 tL_X11_23 tY_X1 tN_X1 (by decide +kernel) (by decide +kernel) (hz20 _ (by omega)) (Nat.le_of_ble_eq_true rfl) (Nat.le_of_ble_eq_true rfl) dX11_init_106 rfl ?_
  refine g_ks (E := E) (ks2 := KS.take 45) (by decide +kernel) ?_
  have hz21 := hz20.up
  refine g_dup C dX11_init_109 rfl rfl ?_
  refine g_callI C (a := 45) (As := fun B => []) (mc2 := 13) (ms2 := 466) (k_X1 (i := 44) rfl (by decide +kernel) (by decide +kernel) hz21) tM_X11_25 tI_X1_init tN_X1 tC_X1_init rfl 0 (by decide +kernel) rfl (Nat.le_of_ble_eq_true rfl) (Nat.le_of_ble_eq_true rfl) (by decide +kernel) (Nat.le_of_ble_eq_true rfl) (Nat.le_of_ble_eq_true rfl) rfl (Nat.le_of_ble_eq_true rfl) dX11_init_110 rfl (fun σ2 e2 => ?_)
  subst e2
  refine g_ks (E := E) (ks2 := KS.take 58) (by decide +kernel) ?_
  have hz22 := zb_X1 hz21
  refine g_aast C (n := 3) (i := 43) (i2 := 44) (b := 45) rfl (by decide +kernel) rfl (by decide +kernel) (vp_lit (by decide)) dX11_init_113 rfl ?_
  have hz23 := Zb.sr (x := 44) (k := ((0 : Int32).toNatClampNeg)) (v := 45) hz22 (by omega)
  refine g_iinc C (i := 1) (j := 0) (v := 1) (lv2 := [(1, .int 1), (0, .ref (B + 1))]) dX11_init_114 rfl (by decide) (by decide) rfl rfl ?_
  refine g_goto C (t := 96) dX11_init_117 (by decide) ?_
  refine g_iload_n C (j := 0) dX11_init_96 rfl rfl rfl ?_
  refine g_iconst C (v := 3) dX11_init_97 (by decide) rfl ?_
  refine g_icmp_ge C (t := 120) dX11_init_98 (by decide) rfl (fun hq => absurd hq (by decide)) (fun _ => ?_)
  refine g_aload_n C (j := 1) dX11_init_101 rfl rfl rfl ?_
  refine g_getr C (i := 0) (b := 44) tF_X11_49 rfl rfl (by decide +kernel) rfl (by decide) dX11_init_102 rfl ?_
  refine g_iload_n C (j := 0) dX11_init_105 rfl rfl rfl ?_
  refine g_new C (idx := 23) (ci := 1) (N := 16) (a := 59) (Cl := RX1) (T := TX1) rfl rfl uwX1 tyX1_ok df_1 tL_X11_23 tY_X1 tN_X1 (by decide +kernel) (by decide +kernel) (hz23 _ (by omega)) (Nat.le_of_ble_eq_true rfl) (Nat.le_of_ble_eq_true rfl) dX11_init_106 rfl ?_
  refine g_ks (E := E) (ks2 := KS.take 59) (by decide +kernel) ?_
  have hz24 := hz23.up
  refine g_dup C dX11_init_109 rfl rfl ?_
  refine g_callI C (a := 59) (As := fun B => []) (mc2 := 13) (ms2 := 466) (k_X1 (i := 58) rfl (by decide +kernel) (by decide +kernel) hz24) tM_X11_25 tI_X1_init tN_X1 tC_X1_init rfl 0 (by decide +kernel) rfl (Nat.le_of_ble_eq_true rfl) (Nat.le_of_ble_eq_true rfl) (by decide +kernel) (Nat.le_of_ble_eq_true rfl) (Nat.le_of_ble_eq_true rfl) rfl (Nat.le_of_ble_eq_true rfl) dX11_init_110 rfl (fun σ2 e2 => ?_)
  subst e2
  refine g_ks (E := E) (ks2 := KS.take 72) (by decide +kernel) ?_
  have hz25 := zb_X1 hz24
  refine g_aast C (n := 3) (i := 43) (i2 := 58) (b := 59) rfl (by decide +kernel) rfl (by decide +kernel) (vp_lit (by decide)) dX11_init_113 rfl ?_
  have hz26 := Zb.sr (x := 44) (k := ((1 : Int32).toNatClampNeg)) (v := 59) hz25 (by omega)
  refine g_iinc C (i := 1) (j := 0) (v := 2) (lv2 := [(1, .int 2), (0, .ref (B + 1))]) dX11_init_114 rfl (by decide) (by decide) rfl rfl ?_
  refine g_goto C (t := 96) dX11_init_117 (by decide) ?_
  refine g_iload_n C (j := 0) dX11_init_96 rfl rfl rfl ?_
  refine g_iconst C (v := 3) dX11_init_97 (by decide) rfl ?_
  refine g_icmp_ge C (t := 120) dX11_init_98 (by decide) rfl (fun hq => absurd hq (by decide)) (fun _ => ?_)
  refine g_aload_n C (j := 1) dX11_init_101 rfl rfl rfl ?_
  refine g_getr C (i := 0) (b := 44) tF_X11_49 rfl rfl (by decide +kernel) rfl (by decide) dX11_init_102 rfl ?_
  refine g_iload_n C (j := 0) dX11_init_105 rfl rfl rfl ?_
  refine g_new C (idx := 23) (ci := 1) (N := 16) (a := 73) (Cl := RX1) (T := TX1) rfl rfl uwX1 tyX1_ok df_1 tL_X11_23 tY_X1 tN_X1 (by decide +kernel) (by decide +kernel) (hz26 _ (by omega)) (Nat.le_of_ble_eq_true rfl) (Nat.le_of_ble_eq_true rfl) dX11_init_106 rfl ?_
  refine g_ks (E := E) (ks2 := KS.take 73) (by decide +kernel) ?_
  have hz27 := hz26.up
  refine g_dup C dX11_init_109 rfl rfl ?_
  refine g_callI C (a := 73) (As := fun B => []) (mc2 := 13) (ms2 := 466) (k_X1 (i := 72) rfl (by decide +kernel) (by decide +kernel) hz27) tM_X11_25 tI_X1_init tN_X1 tC_X1_init rfl 0 (by decide +kernel) rfl (Nat.le_of_ble_eq_true rfl) (Nat.le_of_ble_eq_true rfl) (by decide +kernel) (Nat.le_of_ble_eq_true rfl) (Nat.le_of_ble_eq_true rfl) rfl (Nat.le_of_ble_eq_true rfl) dX11_init_110 rfl (fun σ2 e2 => ?_)
  subst e2
  refine g_ks (E := E) (ks2 := KS.take 86) (by decide +kernel) ?_
  have hz28 := zb_X1 hz27
  refine g_aast C (n := 3) (i := 43) (i2 := 72) (b := 73) rfl (by decide +kernel) rfl (by decide +kernel) (vp_lit (by decide)) dX11_init_113 rfl ?_
  have hz29 := Zb.sr (x := 44) (k := ((2 : Int32).toNatClampNeg)) (v := 73) hz28 (by omega)
  refine g_iinc C (i := 1) (j := 0) (v := 3) (lv2 := [(1, .int 3), (0, .ref (B + 1))]) dX11_init_114 rfl (by decide) (by decide) rfl rfl ?_
  refine g_goto C (t := 96) dX11_init_117 (by decide) ?_
  refine g_iload_n C (j := 0) dX11_init_96 rfl rfl rfl ?_
  refine g_iconst C (v := 3) dX11_init_97 (by decide) rfl ?_
  refine g_icmp_ge C (t := 120) dX11_init_98 (by decide) rfl (fun _ => ?_) (fun hq => absurd (by decide) hq)
  refine g_sipush C (v := 4096) dX11_init_120 (by decide) rfl ?_
  refine g_newi C (N := 4096) (a := 87) (by decide) (by decide) (Nat.le_of_ble_eq_true rfl) (by decide +kernel) (by decide +kernel) (hz29 _ (by omega)) (Nat.le_of_ble_eq_true rfl) (Nat.le_of_ble_eq_true rfl) dX11_init_123 rfl ?_
  refine g_ks (E := E) (ks2 := KS.take 87) (by decide +kernel) ?_
  have hz30 := hz29.up
  refine g_astore_n C (i := 1) (lv2 := [(1, .ref (B + 87)), (0, .ref (B + 1))]) dX11_init_125 rfl (by decide) rfl rfl ?_
  refine g_aload_n C (j := 1) dX11_init_126 rfl rfl rfl ?_
  refine g_new C (idx := 53) (ci := 6) (N := 4) (a := 88) (Cl := RX6) (T := TX6) rfl rfl uwX6 tyX6_ok df_6 tL_X11_53 tY_X6 tN_X6 (by decide +kernel) (by decide +kernel) (hz30 _ (by omega)) (Nat.le_of_ble_eq_true rfl) (Nat.le_of_ble_eq_true rfl) dX11_init_127 rfl ?_
  refine g_ks (E := E) (ks2 := KS.take 88) (by decide +kernel) ?_
  have hz31 := hz30.up
  refine g_dup C dX11_init_130 rfl rfl ?_
  refine g_aload_n C (j := 1) dX11_init_131 rfl rfl rfl ?_
  refine g_getr C (i := 0) (b := 13) tF_X11_26 rfl rfl (by decide +kernel) rfl (by decide) dX11_init_132 rfl ?_
  refine g_callI C (a := 88) (As := fun B => [.ref (B + 13)]) (mc2 := 1) (ms2 := 4096) (k_X6 hz31) tM_X11_55 tI_X6_init tN_X6 tC_X6_init rfl 1 (by decide +kernel) rfl (Nat.le_of_ble_eq_true rfl) (Nat.le_of_ble_eq_true rfl) (by decide +kernel) (Nat.le_of_ble_eq_true rfl) (Nat.le_of_ble_eq_true rfl) rfl (Nat.le_of_ble_eq_true rfl) dX11_init_135 rfl (fun σ2 e2 => ?_)
  subst e2
  have hz32 := zb_X6 hz31
  refine g_putrF C (i := 0) (b := 88) tF_X11_58 ⟨RX11, TX11, 20, rfl, rfl, rfl⟩ rfl (by decide) rfl (by decide +kernel) dX11_init_138 rfl ?_
  have hz33 := Zb.sr (x := 1) (k := 4) (v := 88) hz32 (by omega)
  refine g_aload_n C (j := 1) dX11_init_141 rfl rfl rfl ?_
  refine g_new C (idx := 62) (ci := 0) (N := 5) (a := 90) (Cl := RX0) (T := TX0) rfl rfl uwX0 tyX0_ok df_0 tL_X11_62 tY_X0 tN_X0 (by decide +kernel) (by decide +kernel) (hz33 _ (by omega)) (Nat.le_of_ble_eq_true rfl) (Nat.le_of_ble_eq_true rfl) dX11_init_142 rfl ?_
  refine g_ks (E := E) (ks2 := KS.take 90) (by decide +kernel) ?_
  have hz34 := hz33.up
  refine g_dup C dX11_init_145 rfl rfl ?_
  refine g_aload_n C (j := 1) dX11_init_146 rfl rfl rfl ?_
  refine g_getr C (i := 0) (b := 13) tF_X11_26 rfl rfl (by decide +kernel) rfl (by decide) dX11_init_147 rfl ?_
  refine g_aload_n C (j := 1) dX11_init_150 rfl rfl rfl ?_
  refine g_getr C (i := 0) (b := 88) tF_X11_58 rfl rfl (by decide +kernel) rfl (by decide) dX11_init_151 rfl ?_
  refine g_callI C (a := 90) (As := fun B => [.ref (B + 13), .ref (B + 88)]) (mc2 := 2) (ms2 := 4108) (k_X0 hz34) tM_X11_64 tI_X0_init tN_X0 tC_X0_init rfl 2 (by decide +kernel) rfl (Nat.le_of_ble_eq_true rfl) (Nat.le_of_ble_eq_true rfl) (by decide +kernel) (Nat.le_of_ble_eq_true rfl) (Nat.le_of_ble_eq_true rfl) rfl (Nat.le_of_ble_eq_true rfl) dX11_init_154 rfl (fun σ2 e2 => ?_)
  subst e2
  have hz35 := zb_X0 hz34
  refine g_putrF C (i := 0) (b := 90) tF_X11_67 ⟨RX11, TX11, 20, rfl, rfl, rfl⟩ rfl (by decide) rfl (by decide +kernel) dX11_init_157 rfl ?_
  have hz36 := Zb.sr (x := 1) (k := 5) (v := 90) hz35 (by omega)
  refine g_aload_n C (j := 1) dX11_init_160 rfl rfl rfl ?_
  refine g_new C (idx := 71) (ci := 5) (N := 7) (a := 93) (Cl := RX5) (T := TX5) rfl rfl uwX5 tyX5_ok df_5 tL_X11_71 tY_X5 tN_X5 (by decide +kernel) (by decide +kernel) (hz36 _ (by omega)) (Nat.le_of_ble_eq_true rfl) (Nat.le_of_ble_eq_true rfl) dX11_init_161 rfl ?_
  refine g_ks (E := E) (ks2 := KS.take 93) (by decide +kernel) ?_
  have hz37 := hz36.up
  refine g_dup C dX11_init_164 rfl rfl ?_
  refine g_aload_n C (j := 1) dX11_init_165 rfl rfl rfl ?_
  refine g_getr C (i := 0) (b := 13) tF_X11_26 rfl rfl (by decide +kernel) rfl (by decide) dX11_init_166 rfl ?_
  refine g_aload_n C (j := 1) dX11_init_169 rfl rfl rfl ?_
  refine g_getr C (i := 0) (b := 88) tF_X11_58 rfl rfl (by decide +kernel) rfl (by decide) dX11_init_170 rfl ?_
  refine g_aload_n C (j := 1) dX11_init_173 rfl rfl rfl ?_
  refine g_getr C (i := 0) (b := 90) tF_X11_67 rfl rfl (by decide +kernel) rfl (by decide) dX11_init_174 rfl ?_
  refine g_aload_n C (j := 0) dX11_init_177 rfl rfl rfl ?_
  refine g_callI C (a := 93) (As := fun B => [.ref (B + 13), .ref (B + 88), .ref (B + 90), .ref (B + 87)]) (mc2 := 1) (ms2 := 6) (k_X5 hz37) tM_X11_73 tI_X5_init tN_X5 tC_X5_init rfl 4 (by decide +kernel) rfl (Nat.le_of_ble_eq_true rfl) (Nat.le_of_ble_eq_true rfl) (by decide +kernel) (Nat.le_of_ble_eq_true rfl) (Nat.le_of_ble_eq_true rfl) rfl (Nat.le_of_ble_eq_true rfl) dX11_init_178 rfl (fun σ2 e2 => ?_)
  subst e2
  have hz38 := zb_X5 hz37
  refine g_putrF C (i := 0) (b := 93) tF_X11_76 ⟨RX11, TX11, 20, rfl, rfl, rfl⟩ rfl (by decide) rfl (by decide +kernel) dX11_init_181 rfl ?_
  have hz39 := Zb.sr (x := 1) (k := 6) (v := 93) hz38 (by omega)
  refine g_aload_n C (j := 1) dX11_init_184 rfl rfl rfl ?_
  refine g_new C (idx := 80) (ci := 4) (N := 4) (a := 95) (Cl := RX4) (T := TX4) rfl rfl uwX4 tyX4_ok df_4 tL_X11_80 tY_X4 tN_X4 (by decide +kernel) (by decide +kernel) (hz39 _ (by omega)) (Nat.le_of_ble_eq_true rfl) (Nat.le_of_ble_eq_true rfl) dX11_init_185 rfl ?_
  refine g_ks (E := E) (ks2 := KS.take 95) (by decide +kernel) ?_
  have hz40 := hz39.up
  refine g_dup C dX11_init_188 rfl rfl ?_
  refine g_aload_n C (j := 1) dX11_init_189 rfl rfl rfl ?_
  refine g_getr C (i := 0) (b := 13) tF_X11_26 rfl rfl (by decide +kernel) rfl (by decide) dX11_init_190 rfl ?_
  refine g_aload_n C (j := 1) dX11_init_193 rfl rfl rfl ?_
  refine g_getr C (i := 0) (b := 88) tF_X11_58 rfl rfl (by decide +kernel) rfl (by decide) dX11_init_194 rfl ?_
  refine g_aload_n C (j := 0) dX11_init_197 rfl rfl rfl ?_
  refine g_callI C (a := 95) (As := fun B => [.ref (B + 13), .ref (B + 88), .ref (B + 87)]) (mc2 := 1) (ms2 := 12) (k_X4 hz40) tM_X11_82 tI_X4_init tN_X4 tC_X4_init rfl 3 (by decide +kernel) rfl (Nat.le_of_ble_eq_true rfl) (Nat.le_of_ble_eq_true rfl) (by decide +kernel) (Nat.le_of_ble_eq_true rfl) (Nat.le_of_ble_eq_true rfl) rfl (Nat.le_of_ble_eq_true rfl) dX11_init_198 rfl (fun σ2 e2 => ?_)
  subst e2
  have hz41 := zb_X4 hz40
  refine g_putrF C (i := 0) (b := 95) tF_X11_85 ⟨RX11, TX11, 20, rfl, rfl, rfl⟩ rfl (by decide) rfl (by decide +kernel) dX11_init_201 rfl ?_
  have hz42 := Zb.sr (x := 1) (k := 7) (v := 95) hz41 (by omega)
  refine g_aload_n C (j := 1) dX11_init_204 rfl rfl rfl ?_
  refine g_new C (idx := 89) (ci := 3) (N := 6) (a := 97) (Cl := RX3) (T := TX3) rfl rfl uwX3 tyX3_ok df_3 tL_X11_89 tY_X3 tN_X3 (by decide +kernel) (by decide +kernel) (hz42 _ (by omega)) (Nat.le_of_ble_eq_true rfl) (Nat.le_of_ble_eq_true rfl) dX11_init_205 rfl ?_
  refine g_ks (E := E) (ks2 := KS.take 97) (by decide +kernel) ?_
  have hz43 := hz42.up
  refine g_dup C dX11_init_208 rfl rfl ?_
  refine g_aload_n C (j := 1) dX11_init_209 rfl rfl rfl ?_
  refine g_getr C (i := 0) (b := 13) tF_X11_26 rfl rfl (by decide +kernel) rfl (by decide) dX11_init_210 rfl ?_
  refine g_aload_n C (j := 1) dX11_init_213 rfl rfl rfl ?_
  refine g_getr C (i := 0) (b := 88) tF_X11_58 rfl rfl (by decide +kernel) rfl (by decide) dX11_init_214 rfl ?_
  refine g_aload_n C (j := 1) dX11_init_217 rfl rfl rfl ?_
  refine g_getr C (i := 0) (b := 90) tF_X11_67 rfl rfl (by decide +kernel) rfl (by decide) dX11_init_218 rfl ?_
  refine g_callI C (a := 97) (As := fun B => [.ref (B + 13), .ref (B + 88), .ref (B + 90)]) (mc2 := 2) (ms2 := 65) (k_X3 hz43) tM_X11_91 tI_X3_init tN_X3 tC_X3_init rfl 3 (by decide +kernel) rfl (Nat.le_of_ble_eq_true rfl) (Nat.le_of_ble_eq_true rfl) (by decide +kernel) (Nat.le_of_ble_eq_true rfl) (Nat.le_of_ble_eq_true rfl) rfl (Nat.le_of_ble_eq_true rfl) dX11_init_221 rfl (fun σ2 e2 => ?_)
  subst e2
  have hz44 := zb_X3 hz43
  refine g_putrF C (i := 0) (b := 97) tF_X11_94 ⟨RX11, TX11, 20, rfl, rfl, rfl⟩ rfl (by decide) rfl (by decide +kernel) dX11_init_224 rfl ?_
  have hz45 := Zb.sr (x := 1) (k := 8) (v := 97) hz44 (by omega)
  refine g_aload_n C (j := 1) dX11_init_227 rfl rfl rfl ?_
  refine g_iconst C (v := 5) dX11_init_228 (by decide) rfl ?_
  refine g_newi C (N := 5) (a := 100) (by decide) (by decide) (Nat.le_of_ble_eq_true rfl) (by decide +kernel) (by decide +kernel) (hz45 _ (by omega)) (Nat.le_of_ble_eq_true rfl) (Nat.le_of_ble_eq_true rfl) dX11_init_229 rfl ?_
  refine g_ks (E := E) (ks2 := KS.take 100) (by decide +kernel) ?_
  have hz46 := hz45.up
  refine g_putrF C (i := 0) (b := 100) tF_X11_98 ⟨RX11, TX11, 20, rfl, rfl, rfl⟩ rfl (by decide) rfl (by decide +kernel) dX11_init_231 rfl ?_
  have hz47 := Zb.sr (x := 1) (k := 10) (v := 100) hz46 (by omega)
  refine g_aload_n C (j := 1) dX11_init_234 rfl rfl rfl ?_
  refine g_iconst C (v := 0) dX11_init_235 (by decide) rfl ?_
  refine g_putz C (i := 0) tF_X11_102 fm_11_14 rfl (Or.inl rfl) rfl (by decide +kernel) dX11_init_236 rfl ?_
  have hz48 := Zb.si (x := 1) (k := 14) (v := 0) hz47 (by omega)
  refine g_aload_n C (j := 1) dX11_init_239 rfl rfl rfl ?_
  refine g_iconst C (v := 0) dX11_init_240 (by decide) rfl ?_
  refine g_puti C (i := 0) tF_X11_106 fm_11_13 rfl rfl (by decide +kernel) dX11_init_241 rfl ?_
  have hz49 := Zb.si (x := 1) (k := 13) (v := 0) hz48 (by omega)
  refine g_aload_n C (j := 1) dX11_init_244 rfl rfl rfl ?_
  refine g_iconst C (v := 0) dX11_init_245 (by decide) rfl ?_
  refine g_puti C (i := 0) tF_X11_110 fm_11_15 rfl rfl (by decide +kernel) dX11_init_246 rfl ?_
  have hz50 := Zb.si (x := 1) (k := 15) (v := 0) hz49 (by omega)
  refine g_aload_n C (j := 1) dX11_init_249 rfl rfl rfl ?_
  refine g_lconst C (v := 0) dX11_init_250 (by decide) rfl ?_
  refine g_putl C (i := 0) tF_X11_113 fm_11_16 rfl rfl (by decide +kernel) dX11_init_251 rfl ?_
  have hz51 := Zb.sl (x := 1) (k := 16) (v := 0) hz50 (by omega)
  refine g_aload_n C (j := 1) dX11_init_254 rfl rfl rfl ?_
  refine g_lconst C (v := 1) dX11_init_255 (by decide) rfl ?_
  refine g_putl C (i := 0) tF_X11_117 fm_11_17 rfl rfl (by decide +kernel) dX11_init_256 rfl ?_
  have hz52 := Zb.sl (x := 1) (k := 17) (v := 1) hz51 (by omega)
  refine g_aload_n C (j := 1) dX11_init_259 rfl rfl rfl ?_
  refine g_iconst C (v := (-1)) dX11_init_260 (by decide) rfl ?_
  refine g_puti C (i := 0) tF_X11_120 fm_11_18 rfl rfl (by decide +kernel) dX11_init_261 rfl ?_
  have hz53 := Zb.si (x := 1) (k := 18) (v := (-1)) hz52 (by omega)
  refine g_aload_n C (j := 1) dX11_init_264 rfl rfl rfl ?_
  refine g_iconst C (v := (-1)) dX11_init_265 (by decide) rfl ?_
  refine g_puti C (i := 0) tF_X11_123 fm_11_19 rfl rfl (by decide +kernel) dX11_init_266 rfl ?_
  have hz54 := Zb.si (x := 1) (k := 19) (v := (-1)) hz53 (by omega)
  exact g_vret C rfl (Nat.le_of_ble_eq_true rfl) (Nat.le_of_ble_eq_true rfl) (by decide +kernel) dX11_init_269 rfl
def s0L : Sto := (sX12 (sX11 Zs))
theorem law_start {B b fr lo : Nat} {tx : Nat × Nat} {E : Nat → Nat → List (Nat × Nat) → Nat → List (Nat × Value) → List Value → Sto → Prop} {Zf : ZG} (C : Cz B 0 tx E RL cL_law 4 fr lo 118 31963 Zf) (hfr : 8 ≤ fr) (hlo : 290 ≤ lo) (k : E 118 31963 (KS.take 118) 18 [(3, .int 0), (2, .ref (B + 101)), (1, .ref (B + 1)), (0, .ref b)] [] s0L) : E 0 0 (KS.take 0) 0 [(0, .ref b)] [] Zs := by
  have hz : Zb Zs 0 := fun b hb j => ⟨rfl, rfl, rfl⟩
  refine g_new C (idx := 7) (ci := 11) (N := 20) (a := 1) (Cl := RX11) (T := TX11) rfl rfl uwX11 tyX11_ok df_11 tL_L_7 tY_X11 tN_X11 (by decide +kernel) (by decide +kernel) (hz _ (by omega)) (Nat.le_of_ble_eq_true rfl) (Nat.le_of_ble_eq_true rfl) dL_law_0 rfl ?_
  refine g_ks (E := E) (ks2 := KS.take 1) (by decide +kernel) ?_
  have hz1 := hz.up
  refine g_dup C dL_law_3 rfl rfl ?_
  refine g_callI C (a := 1) (As := fun B => []) (mc2 := 99) (ms2 := 16027) (k_X11 hz1) tM_L_9 tI_X11_init tN_X11 tC_X11_init rfl 0 (by decide +kernel) rfl (by omega) (by omega) (by decide +kernel) (Nat.le_of_ble_eq_true rfl) (Nat.le_of_ble_eq_true rfl) rfl (Nat.le_of_ble_eq_true rfl) dL_law_4 rfl (fun σ2 e2 => ?_)
  subst e2
  have hz2 := zb_X11 hz1
  refine g_astore_n C (i := 1) (lv2 := [(1, .ref (B + 1)), (0, .ref b)]) dL_law_7 rfl (by decide) rfl rfl ?_
  refine g_new C (idx := 10) (ci := 12) (N := 48) (a := 101) (Cl := RX12) (T := TX12) rfl rfl uwX12 tyX12_ok df_12 tL_L_10 tY_X12 tN_X12 (by decide +kernel) (by decide +kernel) (hz2 _ (by omega)) (Nat.le_of_ble_eq_true rfl) (Nat.le_of_ble_eq_true rfl) dL_law_8 rfl ?_
  refine g_ks (E := E) (ks2 := KS.take 101) (by decide +kernel) ?_
  have hz3 := hz2.up
  refine g_dup C dL_law_11 rfl rfl ?_
  refine g_callI C (a := 101) (As := fun B => []) (mc2 := 17) (ms2 := 15868) (k_X12 hz3) tM_L_12 tI_X12_init tN_X12 tC_X12_init rfl 0 (by decide +kernel) rfl (by omega) (by omega) (by decide +kernel) (Nat.le_of_ble_eq_true rfl) (Nat.le_of_ble_eq_true rfl) rfl (Nat.le_of_ble_eq_true rfl) dL_law_12 rfl (fun σ2 e2 => ?_)
  subst e2
  have hz4 := zb_X12 hz3
  refine g_astore_n C (i := 2) (lv2 := [(2, .ref (B + 101)), (1, .ref (B + 1)), (0, .ref b)]) dL_law_15 rfl (by decide) rfl rfl ?_
  refine g_iconst C (v := 0) dL_law_16 (by decide) rfl ?_
  refine g_istore_n C (i := 3) (lv2 := [(3, .int 0), (2, .ref (B + 101)), (1, .ref (B + 1)), (0, .ref b)]) dL_law_17 rfl (by decide) rfl rfl ?_
  exact k
