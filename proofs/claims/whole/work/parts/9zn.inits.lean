/-! ===== the constructors, walked ===== -/
/-- nothing is written above place n -/
def Zb (σ : Sto) (n : Nat) : Prop := ∀ b, n < b → ZA σ b
theorem Zb.up {σ : Sto} {n : Nat} (h : Zb σ n) : Zb σ (n + 1) := fun b hb => h b (by omega)
theorem Zb.mo {σ : Sto} {n m : Nat} (h : Zb σ n) (hm : n ≤ m) : Zb σ m := fun b hb => h b (by omega)
theorem Zb.sr {σ : Sto} {n x k v : Nat} (h : Zb σ n) (hx : x ≤ n) : Zb (sr σ x k v) n := fun b hb j => ⟨by rw [gi_sr]; exact (h b hb j).1, by rw [gl_sr]; exact (h b hb j).2.1, by rw [gr_sr, if_neg (by omega)]; exact (h b hb j).2.2⟩
theorem Zb.si {σ : Sto} {n x k : Nat} {v : Int32} (h : Zb σ n) (hx : x ≤ n) : Zb (si σ x k v) n := fun b hb j => ⟨by rw [gi_si_a (by omega)]; exact (h b hb j).1, by rw [gl_si]; exact (h b hb j).2.1, by rw [gr_si]; exact (h b hb j).2.2⟩
theorem Zb.sl {σ : Sto} {n x k : Nat} {v : Int64} (h : Zb σ n) (hx : x ≤ n) : Zb (sl σ x k v) n := fun b hb j => ⟨by rw [gi_sl]; exact (h b hb j).1, by rw [gl_sl_a (by omega)]; exact (h b hb j).2.1, by rw [gr_sl]; exact (h b hb j).2.2⟩
theorem g_ks {E : Nat → Nat → List (Nat × Nat) → Nat → List (Nat × Value) → List Value → Sto → Prop} {cells slots pc : Nat} {ks ks2 : List (Nat × Nat)} {lv : List (Nat × Value)} {st : List Value} {σ : Sto} (h : ks = ks2) (k : E cells slots ks2 pc lv st σ) : E cells slots ks pc lv st σ := by
  rw [h]
  exact k
theorem ap_l {ks l : List (Nat × Nat)} {i : Nat} {kd : Nat × Nat} (h : ks[i]? = some kd) : (ks ++ l)[i]? = some kd := by
  rw [List.getElem?_append_left (List.getElem?_eq_some_iff.mp h).1]
  exact h
theorem tO_X7 : Cond.methodLink RX7 3 objectInit ∈ tbG := in_1 162 rfl rfl
theorem tO_X1 : Cond.methodLink RX1 5 objectInit ∈ tbG := in_1 156 rfl rfl
theorem tL_X1_34 : Cond.classLink RX1 34 RX7 ∈ tbG := in_1 157 rfl rfl
theorem tY_X7 : Cond.instantiable RX7 8 ∈ tbG := in_1 158 rfl rfl
theorem df_7 : ∀ j, j < 8 → defaultValue (fTy 7 j) = dfv (fpl (fTy 7 j)) := by
  intro j hj
  rcases (show j = 0 ∨ j = 1 ∨ j = 2 ∨ j = 3 ∨ j = 4 ∨ j = 5 ∨ j = 6 ∨ j = 7 by omega) with rfl | rfl | rfl | rfl | rfl | rfl | rfl | rfl <;> rfl
theorem tO_X2 : Cond.methodLink RX2 3 objectInit ∈ tbG := in_2 73 rfl rfl
theorem tO_X8 : Cond.methodLink RX8 3 objectInit ∈ tbG := in_2 89 rfl rfl
theorem tO_X6 : Cond.methodLink RX6 3 objectInit ∈ tbG := in_2 112 rfl rfl
theorem tO_X0 : Cond.methodLink RX0 3 objectInit ∈ tbG := in_2 132 rfl rfl
theorem tO_X5 : Cond.methodLink RX5 3 objectInit ∈ tbG := in_2 155 rfl rfl
theorem tO_X4 : Cond.methodLink RX4 3 objectInit ∈ tbG := in_2 185 rfl rfl
theorem tO_X3 : Cond.methodLink RX3 3 objectInit ∈ tbG := in_2 204 rfl rfl
theorem tO_X12 : Cond.methodLink RX12 1 objectInit ∈ tbG := in_6 130 rfl rfl
def sX7 (a : Nat) (σ : Sto) : Sto := (si (si (si (sr (sr (sr (sr (sr σ a 0 (a + 1)) a 1 (a + 2)) a 2 (a + 3)) a 3 (a + 4)) a 4 (a + 5)) a 5 0) a 6 0) a 7 0)
theorem zb_X7 {a : Nat} {σ : Sto} (h : Zb σ a) : Zb (sX7 a σ) (a + 5) := by
  have hz1 := h.up
  have hz2 := Zb.sr (x := a) (k := 0) (v := (a + 1)) hz1 (by omega)
  have hz3 := hz2.up
  have hz4 := Zb.sr (x := a) (k := 1) (v := (a + 2)) hz3 (by omega)
  have hz5 := hz4.up
  have hz6 := Zb.sr (x := a) (k := 2) (v := (a + 3)) hz5 (by omega)
  have hz7 := hz6.up
  have hz8 := Zb.sr (x := a) (k := 3) (v := (a + 4)) hz7 (by omega)
  have hz9 := hz8.up
  have hz10 := Zb.sr (x := a) (k := 4) (v := (a + 5)) hz9 (by omega)
  have hz11 := Zb.si (x := a) (k := 5) (v := 0) hz10 (by omega)
  have hz12 := Zb.si (x := a) (k := 6) (v := 0) hz11 (by omega)
  have hz13 := Zb.si (x := a) (k := 7) (v := 0) hz12 (by omega)
  exact hz13
theorem k_X7 {ks : List (Nat × Nat)} {σ : Sto} {i a : Nat} (ha : i + 1 = a) (hk : ks[i]? = some (0, 7)) (hl : ks.length = a) (hz : Zb σ a) : Ci yX7_init cX7_init 1 1 13 5 300 (fun B => [.ref (B + a)]) ks σ (ks ++ [(1, 60)] ++ [(1, 60)] ++ [(1, 60)] ++ [(1, 60)] ++ [(1, 60)]) (fun σ2 => σ2 = sX7 a σ) := by
  refine Ci.of true (by decide) (fun _ => rfl) (fun _ => Nat.le_of_ble_eq_true rfl) (fun B tx E C => ?_)
  show E 0 0 ks 0 [(0, .ref (B + a))] [] σ
  refine g_aload_n C (j := 0) dX7_init_0 rfl rfl rfl ?_
  refine g_obj C (idx := 3) tO_X7 (Nat.le_of_ble_eq_true rfl) (Nat.le_of_ble_eq_true rfl) dX7_init_1 rfl ?_
  refine g_aload_n C (j := 0) dX7_init_4 rfl rfl rfl ?_
  refine g_bipush C (v := 60) dX7_init_5 (by decide) rfl ?_
  refine g_newi C (N := 60) (a := (a + 1)) (by decide) (by decide) (Nat.le_of_ble_eq_true rfl) (by first | (simp only [List.length_append, List.length_cons, List.length_nil]; omega) | (simp only [List.length_append, List.length_cons, List.length_nil]; done) | omega) (by first | (simp only [List.length_append, List.length_cons, List.length_nil]; omega) | (simp only [List.length_append, List.length_cons, List.length_nil]; done) | omega) (hz _ (by omega)) (Nat.le_of_ble_eq_true rfl) (Nat.le_of_ble_eq_true rfl) dX7_init_7 rfl ?_
  have hz1 := hz.up
  refine g_putrF C (i := i) (b := (a + 1)) tF_X7_9 ⟨RX7, TX7, 8, rfl, rfl, rfl⟩ rfl (Nat.succ_ne_zero _) ha (ap_l hk) dX7_init_9 rfl ?_
  have hz2 := Zb.sr (x := a) (k := 0) (v := (a + 1)) hz1 (by omega)
  refine g_aload_n C (j := 0) dX7_init_12 rfl rfl rfl ?_
  refine g_bipush C (v := 60) dX7_init_13 (by decide) rfl ?_
  refine g_newi C (N := 60) (a := (a + 2)) (by decide) (by decide) (Nat.le_of_ble_eq_true rfl) (by first | (simp only [List.length_append, List.length_cons, List.length_nil]; omega) | (simp only [List.length_append, List.length_cons, List.length_nil]; done) | omega) (by first | (simp only [List.length_append, List.length_cons, List.length_nil]; omega) | (simp only [List.length_append, List.length_cons, List.length_nil]; done) | omega) (hz2 _ (by omega)) (Nat.le_of_ble_eq_true rfl) (Nat.le_of_ble_eq_true rfl) dX7_init_15 rfl ?_
  have hz3 := hz2.up
  refine g_putrF C (i := i) (b := (a + 2)) tF_X7_13 ⟨RX7, TX7, 8, rfl, rfl, rfl⟩ rfl (Nat.succ_ne_zero _) ha (ap_l (ap_l hk)) dX7_init_17 rfl ?_
  have hz4 := Zb.sr (x := a) (k := 1) (v := (a + 2)) hz3 (by omega)
  refine g_aload_n C (j := 0) dX7_init_20 rfl rfl rfl ?_
  refine g_bipush C (v := 60) dX7_init_21 (by decide) rfl ?_
  refine g_newi C (N := 60) (a := (a + 3)) (by decide) (by decide) (Nat.le_of_ble_eq_true rfl) (by first | (simp only [List.length_append, List.length_cons, List.length_nil]; omega) | (simp only [List.length_append, List.length_cons, List.length_nil]; done) | omega) (by first | (simp only [List.length_append, List.length_cons, List.length_nil]; omega) | (simp only [List.length_append, List.length_cons, List.length_nil]; done) | omega) (hz4 _ (by omega)) (Nat.le_of_ble_eq_true rfl) (Nat.le_of_ble_eq_true rfl) dX7_init_23 rfl ?_
  have hz5 := hz4.up
  refine g_putrF C (i := i) (b := (a + 3)) tF_X7_16 ⟨RX7, TX7, 8, rfl, rfl, rfl⟩ rfl (Nat.succ_ne_zero _) ha (ap_l (ap_l (ap_l hk))) dX7_init_25 rfl ?_
  have hz6 := Zb.sr (x := a) (k := 2) (v := (a + 3)) hz5 (by omega)
  refine g_aload_n C (j := 0) dX7_init_28 rfl rfl rfl ?_
  refine g_bipush C (v := 60) dX7_init_29 (by decide) rfl ?_
  refine g_newi C (N := 60) (a := (a + 4)) (by decide) (by decide) (Nat.le_of_ble_eq_true rfl) (by first | (simp only [List.length_append, List.length_cons, List.length_nil]; omega) | (simp only [List.length_append, List.length_cons, List.length_nil]; done) | omega) (by first | (simp only [List.length_append, List.length_cons, List.length_nil]; omega) | (simp only [List.length_append, List.length_cons, List.length_nil]; done) | omega) (hz6 _ (by omega)) (Nat.le_of_ble_eq_true rfl) (Nat.le_of_ble_eq_true rfl) dX7_init_31 rfl ?_
  have hz7 := hz6.up
  refine g_putrF C (i := i) (b := (a + 4)) tF_X7_19 ⟨RX7, TX7, 8, rfl, rfl, rfl⟩ rfl (Nat.succ_ne_zero _) ha (ap_l (ap_l (ap_l (ap_l hk)))) dX7_init_33 rfl ?_
  have hz8 := Zb.sr (x := a) (k := 3) (v := (a + 4)) hz7 (by omega)
  refine g_aload_n C (j := 0) dX7_init_36 rfl rfl rfl ?_
  refine g_bipush C (v := 60) dX7_init_37 (by decide) rfl ?_
  refine g_newi C (N := 60) (a := (a + 5)) (by decide) (by decide) (Nat.le_of_ble_eq_true rfl) (by first | (simp only [List.length_append, List.length_cons, List.length_nil]; omega) | (simp only [List.length_append, List.length_cons, List.length_nil]; done) | omega) (by first | (simp only [List.length_append, List.length_cons, List.length_nil]; omega) | (simp only [List.length_append, List.length_cons, List.length_nil]; done) | omega) (hz8 _ (by omega)) (Nat.le_of_ble_eq_true rfl) (Nat.le_of_ble_eq_true rfl) dX7_init_39 rfl ?_
  have hz9 := hz8.up
  refine g_putrF C (i := i) (b := (a + 5)) tF_X7_22 ⟨RX7, TX7, 8, rfl, rfl, rfl⟩ rfl (Nat.succ_ne_zero _) ha (ap_l (ap_l (ap_l (ap_l (ap_l hk))))) dX7_init_41 rfl ?_
  have hz10 := Zb.sr (x := a) (k := 4) (v := (a + 5)) hz9 (by omega)
  refine g_aload_n C (j := 0) dX7_init_44 rfl rfl rfl ?_
  refine g_iconst C (v := 0) dX7_init_45 (by decide) rfl ?_
  refine g_putz C (i := i) tF_X7_25 fm_7_5 rfl (Or.inl rfl) ha (ap_l (ap_l (ap_l (ap_l (ap_l hk))))) dX7_init_46 rfl ?_
  have hz11 := Zb.si (x := a) (k := 5) (v := 0) hz10 (by omega)
  refine g_aload_n C (j := 0) dX7_init_49 rfl rfl rfl ?_
  refine g_iconst C (v := 0) dX7_init_50 (by decide) rfl ?_
  refine g_puti C (i := i) tF_X7_29 fm_7_6 rfl ha (ap_l (ap_l (ap_l (ap_l (ap_l hk))))) dX7_init_51 rfl ?_
  have hz12 := Zb.si (x := a) (k := 6) (v := 0) hz11 (by omega)
  refine g_aload_n C (j := 0) dX7_init_54 rfl rfl rfl ?_
  refine g_iconst C (v := 0) dX7_init_55 (by decide) rfl ?_
  refine g_puti C (i := i) tF_X7_33 fm_7_7 rfl ha (ap_l (ap_l (ap_l (ap_l (ap_l hk))))) dX7_init_56 rfl ?_
  have hz13 := Zb.si (x := a) (k := 7) (v := 0) hz12 (by omega)
  exact g_vret C rfl (Nat.le_of_ble_eq_true rfl) (Nat.le_of_ble_eq_true rfl) (by first | (simp only [List.length_append, List.length_cons, List.length_nil]; omega) | (simp only [List.length_append, List.length_cons, List.length_nil]; done) | omega) dX7_init_59 rfl
def sX1 (a : Nat) (σ : Sto) : Sto := (si (si (si (si (si (si (si (si (sr (sX7 (a + 8) (sr (sr (sr (sr (sr (sr (sr σ a 0 (a + 1)) a 1 (a + 2)) a 2 (a + 3)) a 3 (a + 4)) a 4 (a + 5)) a 5 (a + 6)) a 6 (a + 7))) a 7 (a + 8)) a 8 0) a 9 0) a 10 0) a 11 0) a 12 0) a 13 0) a 14 0) a 15 0)
theorem zb_X1 {a : Nat} {σ : Sto} (h : Zb σ a) : Zb (sX1 a σ) (a + 13) := by
  have hz1 := h.up
  have hz2 := Zb.sr (x := a) (k := 0) (v := (a + 1)) hz1 (by omega)
  have hz3 := hz2.up
  have hz4 := Zb.sr (x := a) (k := 1) (v := (a + 2)) hz3 (by omega)
  have hz5 := hz4.up
  have hz6 := Zb.sr (x := a) (k := 2) (v := (a + 3)) hz5 (by omega)
  have hz7 := hz6.up
  have hz8 := Zb.sr (x := a) (k := 3) (v := (a + 4)) hz7 (by omega)
  have hz9 := hz8.up
  have hz10 := Zb.sr (x := a) (k := 4) (v := (a + 5)) hz9 (by omega)
  have hz11 := hz10.up
  have hz12 := Zb.sr (x := a) (k := 5) (v := (a + 6)) hz11 (by omega)
  have hz13 := hz12.up
  have hz14 := Zb.sr (x := a) (k := 6) (v := (a + 7)) hz13 (by omega)
  have hz15 := hz14.up
  have hz16 := zb_X7 hz15
  have hz17 := Zb.sr (x := a) (k := 7) (v := (a + 8)) hz16 (by omega)
  have hz18 := Zb.si (x := a) (k := 8) (v := 0) hz17 (by omega)
  have hz19 := Zb.si (x := a) (k := 9) (v := 0) hz18 (by omega)
  have hz20 := Zb.si (x := a) (k := 10) (v := 0) hz19 (by omega)
  have hz21 := Zb.si (x := a) (k := 11) (v := 0) hz20 (by omega)
  have hz22 := Zb.si (x := a) (k := 12) (v := 0) hz21 (by omega)
  have hz23 := Zb.si (x := a) (k := 13) (v := 0) hz22 (by omega)
  have hz24 := Zb.si (x := a) (k := 14) (v := 0) hz23 (by omega)
  have hz25 := Zb.si (x := a) (k := 15) (v := 0) hz24 (by omega)
  exact hz25
theorem k_X1 {ks : List (Nat × Nat)} {σ : Sto} {i a : Nat} (ha : i + 1 = a) (hk : ks[i]? = some (0, 1)) (hl : ks.length = a) (hz : Zb σ a) : Ci yX1_init cX1_init 1 2 33 13 466 (fun B => [.ref (B + a)]) ks σ (ks ++ [(2, 24)] ++ [(1, 12)] ++ [(1, 16)] ++ [(1, 16)] ++ [(1, 6)] ++ [(1, 72)] ++ [(1, 12)] ++ [(0, 7)] ++ [(1, 60)] ++ [(1, 60)] ++ [(1, 60)] ++ [(1, 60)] ++ [(1, 60)]) (fun σ2 => σ2 = sX1 a σ) := by
  refine Ci.of true (by decide) (fun _ => rfl) (fun _ => Nat.le_of_ble_eq_true rfl) (fun B tx E C => ?_)
  show E 0 0 ks 0 [(0, .ref (B + a))] [] σ
  refine g_aload_n C (j := 0) dX1_init_0 rfl rfl rfl ?_
  refine g_obj C (idx := 5) tO_X1 (Nat.le_of_ble_eq_true rfl) (Nat.le_of_ble_eq_true rfl) dX1_init_1 rfl ?_
  refine g_aload_n C (j := 0) dX1_init_4 rfl rfl rfl ?_
  refine g_bipush C (v := 24) dX1_init_5 (by decide) rfl ?_
  refine g_newl C (N := 24) (a := (a + 1)) (by decide) (by decide) (Nat.le_of_ble_eq_true rfl) (by first | (simp only [List.length_append, List.length_cons, List.length_nil]; omega) | (simp only [List.length_append, List.length_cons, List.length_nil]; done) | omega) (by first | (simp only [List.length_append, List.length_cons, List.length_nil]; omega) | (simp only [List.length_append, List.length_cons, List.length_nil]; done) | omega) (hz _ (by omega)) (Nat.le_of_ble_eq_true rfl) (Nat.le_of_ble_eq_true rfl) dX1_init_7 rfl ?_
  have hz1 := hz.up
  refine g_putrF C (i := i) (b := (a + 1)) tF_X1_11 ⟨RX1, TX1, 16, rfl, rfl, rfl⟩ rfl (Nat.succ_ne_zero _) ha (ap_l hk) dX1_init_9 rfl ?_
  have hz2 := Zb.sr (x := a) (k := 0) (v := (a + 1)) hz1 (by omega)
  refine g_aload_n C (j := 0) dX1_init_12 rfl rfl rfl ?_
  refine g_bipush C (v := 12) dX1_init_13 (by decide) rfl ?_
  refine g_newi C (N := 12) (a := (a + 2)) (by decide) (by decide) (Nat.le_of_ble_eq_true rfl) (by first | (simp only [List.length_append, List.length_cons, List.length_nil]; omega) | (simp only [List.length_append, List.length_cons, List.length_nil]; done) | omega) (by first | (simp only [List.length_append, List.length_cons, List.length_nil]; omega) | (simp only [List.length_append, List.length_cons, List.length_nil]; done) | omega) (hz2 _ (by omega)) (Nat.le_of_ble_eq_true rfl) (Nat.le_of_ble_eq_true rfl) dX1_init_15 rfl ?_
  have hz3 := hz2.up
  refine g_putrF C (i := i) (b := (a + 2)) tF_X1_15 ⟨RX1, TX1, 16, rfl, rfl, rfl⟩ rfl (Nat.succ_ne_zero _) ha (ap_l (ap_l hk)) dX1_init_17 rfl ?_
  have hz4 := Zb.sr (x := a) (k := 1) (v := (a + 2)) hz3 (by omega)
  refine g_aload_n C (j := 0) dX1_init_20 rfl rfl rfl ?_
  refine g_bipush C (v := 16) dX1_init_21 (by decide) rfl ?_
  refine g_newi C (N := 16) (a := (a + 3)) (by decide) (by decide) (Nat.le_of_ble_eq_true rfl) (by first | (simp only [List.length_append, List.length_cons, List.length_nil]; omega) | (simp only [List.length_append, List.length_cons, List.length_nil]; done) | omega) (by first | (simp only [List.length_append, List.length_cons, List.length_nil]; omega) | (simp only [List.length_append, List.length_cons, List.length_nil]; done) | omega) (hz4 _ (by omega)) (Nat.le_of_ble_eq_true rfl) (Nat.le_of_ble_eq_true rfl) dX1_init_23 rfl ?_
  have hz5 := hz4.up
  refine g_putrF C (i := i) (b := (a + 3)) tF_X1_19 ⟨RX1, TX1, 16, rfl, rfl, rfl⟩ rfl (Nat.succ_ne_zero _) ha (ap_l (ap_l (ap_l hk))) dX1_init_25 rfl ?_
  have hz6 := Zb.sr (x := a) (k := 2) (v := (a + 3)) hz5 (by omega)
  refine g_aload_n C (j := 0) dX1_init_28 rfl rfl rfl ?_
  refine g_bipush C (v := 16) dX1_init_29 (by decide) rfl ?_
  refine g_newi C (N := 16) (a := (a + 4)) (by decide) (by decide) (Nat.le_of_ble_eq_true rfl) (by first | (simp only [List.length_append, List.length_cons, List.length_nil]; omega) | (simp only [List.length_append, List.length_cons, List.length_nil]; done) | omega) (by first | (simp only [List.length_append, List.length_cons, List.length_nil]; omega) | (simp only [List.length_append, List.length_cons, List.length_nil]; done) | omega) (hz6 _ (by omega)) (Nat.le_of_ble_eq_true rfl) (Nat.le_of_ble_eq_true rfl) dX1_init_31 rfl ?_
  have hz7 := hz6.up
  refine g_putrF C (i := i) (b := (a + 4)) tF_X1_22 ⟨RX1, TX1, 16, rfl, rfl, rfl⟩ rfl (Nat.succ_ne_zero _) ha (ap_l (ap_l (ap_l (ap_l hk)))) dX1_init_33 rfl ?_
  have hz8 := Zb.sr (x := a) (k := 3) (v := (a + 4)) hz7 (by omega)
  refine g_aload_n C (j := 0) dX1_init_36 rfl rfl rfl ?_
  refine g_bipush C (v := 6) dX1_init_37 (by decide) rfl ?_
  refine g_newi C (N := 6) (a := (a + 5)) (by decide) (by decide) (Nat.le_of_ble_eq_true rfl) (by first | (simp only [List.length_append, List.length_cons, List.length_nil]; omega) | (simp only [List.length_append, List.length_cons, List.length_nil]; done) | omega) (by first | (simp only [List.length_append, List.length_cons, List.length_nil]; omega) | (simp only [List.length_append, List.length_cons, List.length_nil]; done) | omega) (hz8 _ (by omega)) (Nat.le_of_ble_eq_true rfl) (Nat.le_of_ble_eq_true rfl) dX1_init_39 rfl ?_
  have hz9 := hz8.up
  refine g_putrF C (i := i) (b := (a + 5)) tF_X1_25 ⟨RX1, TX1, 16, rfl, rfl, rfl⟩ rfl (Nat.succ_ne_zero _) ha (ap_l (ap_l (ap_l (ap_l (ap_l hk))))) dX1_init_41 rfl ?_
  have hz10 := Zb.sr (x := a) (k := 4) (v := (a + 5)) hz9 (by omega)
  refine g_aload_n C (j := 0) dX1_init_44 rfl rfl rfl ?_
  refine g_bipush C (v := 72) dX1_init_45 (by decide) rfl ?_
  refine g_newi C (N := 72) (a := (a + 6)) (by decide) (by decide) (Nat.le_of_ble_eq_true rfl) (by first | (simp only [List.length_append, List.length_cons, List.length_nil]; omega) | (simp only [List.length_append, List.length_cons, List.length_nil]; done) | omega) (by first | (simp only [List.length_append, List.length_cons, List.length_nil]; omega) | (simp only [List.length_append, List.length_cons, List.length_nil]; done) | omega) (hz10 _ (by omega)) (Nat.le_of_ble_eq_true rfl) (Nat.le_of_ble_eq_true rfl) dX1_init_47 rfl ?_
  have hz11 := hz10.up
  refine g_putrF C (i := i) (b := (a + 6)) tF_X1_28 ⟨RX1, TX1, 16, rfl, rfl, rfl⟩ rfl (Nat.succ_ne_zero _) ha (ap_l (ap_l (ap_l (ap_l (ap_l (ap_l hk)))))) dX1_init_49 rfl ?_
  have hz12 := Zb.sr (x := a) (k := 5) (v := (a + 6)) hz11 (by omega)
  refine g_aload_n C (j := 0) dX1_init_52 rfl rfl rfl ?_
  refine g_bipush C (v := 12) dX1_init_53 (by decide) rfl ?_
  refine g_newi C (N := 12) (a := (a + 7)) (by decide) (by decide) (Nat.le_of_ble_eq_true rfl) (by first | (simp only [List.length_append, List.length_cons, List.length_nil]; omega) | (simp only [List.length_append, List.length_cons, List.length_nil]; done) | omega) (by first | (simp only [List.length_append, List.length_cons, List.length_nil]; omega) | (simp only [List.length_append, List.length_cons, List.length_nil]; done) | omega) (hz12 _ (by omega)) (Nat.le_of_ble_eq_true rfl) (Nat.le_of_ble_eq_true rfl) dX1_init_55 rfl ?_
  have hz13 := hz12.up
  refine g_putrF C (i := i) (b := (a + 7)) tF_X1_31 ⟨RX1, TX1, 16, rfl, rfl, rfl⟩ rfl (Nat.succ_ne_zero _) ha (ap_l (ap_l (ap_l (ap_l (ap_l (ap_l (ap_l hk))))))) dX1_init_57 rfl ?_
  have hz14 := Zb.sr (x := a) (k := 6) (v := (a + 7)) hz13 (by omega)
  refine g_aload_n C (j := 0) dX1_init_60 rfl rfl rfl ?_
  refine g_new C (idx := 34) (ci := 7) (N := 8) (a := (a + 8)) (Cl := RX7) (T := TX7) rfl rfl uwX7 tyX7_ok df_7 tL_X1_34 tY_X7 tN_X7 (by first | (simp only [List.length_append, List.length_cons, List.length_nil]; omega) | (simp only [List.length_append, List.length_cons, List.length_nil]; done) | omega) (by first | (simp only [List.length_append, List.length_cons, List.length_nil]; omega) | (simp only [List.length_append, List.length_cons, List.length_nil]; done) | omega) (hz14 _ (by omega)) (Nat.le_of_ble_eq_true rfl) (Nat.le_of_ble_eq_true rfl) dX1_init_61 rfl ?_
  have hz15 := hz14.up
  refine g_dup C dX1_init_64 rfl rfl ?_
  refine g_callI C (a := (a + 8)) (As := fun B => []) (mc2 := 5) (ms2 := 300) (k_X7 (i := a + 7) rfl (by rw [show a + 7 = ks.length + 7 by omega]; simp [List.getElem?_append]) (by first | (simp only [List.length_append, List.length_cons, List.length_nil]; omega) | (simp only [List.length_append, List.length_cons, List.length_nil]; done) | omega) hz15) tM_X1_36 tI_X7_init tN_X7 tC_X7_init rfl 0 (by decide +kernel) rfl (Nat.le_of_ble_eq_true rfl) (Nat.le_of_ble_eq_true rfl) (by first | (simp only [List.length_append, List.length_cons, List.length_nil]; omega) | (simp only [List.length_append, List.length_cons, List.length_nil]; done) | omega) (Nat.le_of_ble_eq_true rfl) (Nat.le_of_ble_eq_true rfl) rfl (Nat.le_of_ble_eq_true rfl) dX1_init_65 rfl (fun σ2 e2 => ?_)
  subst e2
  have hz16 := zb_X7 hz15
  refine g_putrF C (i := i) (b := (a + 8)) tF_X1_37 ⟨RX1, TX1, 16, rfl, rfl, rfl⟩ rfl (Nat.succ_ne_zero _) ha (ap_l (ap_l (ap_l (ap_l (ap_l (ap_l (ap_l (ap_l (ap_l (ap_l (ap_l (ap_l (ap_l hk))))))))))))) dX1_init_68 rfl ?_
  have hz17 := Zb.sr (x := a) (k := 7) (v := (a + 8)) hz16 (by omega)
  refine g_aload_n C (j := 0) dX1_init_71 rfl rfl rfl ?_
  refine g_iconst C (v := 0) dX1_init_72 (by decide) rfl ?_
  refine g_puti C (i := i) tF_X1_41 fm_1_8 rfl ha (ap_l (ap_l (ap_l (ap_l (ap_l (ap_l (ap_l (ap_l (ap_l (ap_l (ap_l (ap_l (ap_l hk))))))))))))) dX1_init_73 rfl ?_
  have hz18 := Zb.si (x := a) (k := 8) (v := 0) hz17 (by omega)
  refine g_aload_n C (j := 0) dX1_init_76 rfl rfl rfl ?_
  refine g_iconst C (v := 0) dX1_init_77 (by decide) rfl ?_
  refine g_puti C (i := i) tF_X1_45 fm_1_9 rfl ha (ap_l (ap_l (ap_l (ap_l (ap_l (ap_l (ap_l (ap_l (ap_l (ap_l (ap_l (ap_l (ap_l hk))))))))))))) dX1_init_78 rfl ?_
  have hz19 := Zb.si (x := a) (k := 9) (v := 0) hz18 (by omega)
  refine g_aload_n C (j := 0) dX1_init_81 rfl rfl rfl ?_
  refine g_iconst C (v := 0) dX1_init_82 (by decide) rfl ?_
  refine g_puti C (i := i) tF_X1_48 fm_1_10 rfl ha (ap_l (ap_l (ap_l (ap_l (ap_l (ap_l (ap_l (ap_l (ap_l (ap_l (ap_l (ap_l (ap_l hk))))))))))))) dX1_init_83 rfl ?_
  have hz20 := Zb.si (x := a) (k := 10) (v := 0) hz19 (by omega)
  refine g_aload_n C (j := 0) dX1_init_86 rfl rfl rfl ?_
  refine g_iconst C (v := 0) dX1_init_87 (by decide) rfl ?_
  refine g_puti C (i := i) tF_X1_51 fm_1_11 rfl ha (ap_l (ap_l (ap_l (ap_l (ap_l (ap_l (ap_l (ap_l (ap_l (ap_l (ap_l (ap_l (ap_l hk))))))))))))) dX1_init_88 rfl ?_
  have hz21 := Zb.si (x := a) (k := 11) (v := 0) hz20 (by omega)
  refine g_aload_n C (j := 0) dX1_init_91 rfl rfl rfl ?_
  refine g_iconst C (v := 0) dX1_init_92 (by decide) rfl ?_
  refine g_puti C (i := i) tF_X1_54 fm_1_12 rfl ha (ap_l (ap_l (ap_l (ap_l (ap_l (ap_l (ap_l (ap_l (ap_l (ap_l (ap_l (ap_l (ap_l hk))))))))))))) dX1_init_93 rfl ?_
  have hz22 := Zb.si (x := a) (k := 12) (v := 0) hz21 (by omega)
  refine g_aload_n C (j := 0) dX1_init_96 rfl rfl rfl ?_
  refine g_iconst C (v := 0) dX1_init_97 (by decide) rfl ?_
  refine g_puti C (i := i) tF_X1_57 fm_1_13 rfl ha (ap_l (ap_l (ap_l (ap_l (ap_l (ap_l (ap_l (ap_l (ap_l (ap_l (ap_l (ap_l (ap_l hk))))))))))))) dX1_init_98 rfl ?_
  have hz23 := Zb.si (x := a) (k := 13) (v := 0) hz22 (by omega)
  refine g_aload_n C (j := 0) dX1_init_101 rfl rfl rfl ?_
  refine g_iconst C (v := 0) dX1_init_102 (by decide) rfl ?_
  refine g_puti C (i := i) tF_X1_60 fm_1_14 rfl ha (ap_l (ap_l (ap_l (ap_l (ap_l (ap_l (ap_l (ap_l (ap_l (ap_l (ap_l (ap_l (ap_l hk))))))))))))) dX1_init_103 rfl ?_
  have hz24 := Zb.si (x := a) (k := 14) (v := 0) hz23 (by omega)
  refine g_aload_n C (j := 0) dX1_init_106 rfl rfl rfl ?_
  refine g_iconst C (v := 0) dX1_init_107 (by decide) rfl ?_
  refine g_puti C (i := i) tF_X1_63 fm_1_15 rfl ha (ap_l (ap_l (ap_l (ap_l (ap_l (ap_l (ap_l (ap_l (ap_l (ap_l (ap_l (ap_l (ap_l hk))))))))))))) dX1_init_108 rfl ?_
  have hz25 := Zb.si (x := a) (k := 15) (v := 0) hz24 (by omega)
  exact g_vret C rfl (Nat.le_of_ble_eq_true rfl) (Nat.le_of_ble_eq_true rfl) (by first | (simp only [List.length_append, List.length_cons, List.length_nil]; omega) | (simp only [List.length_append, List.length_cons, List.length_nil]; done) | omega) dX1_init_111 rfl
def sX2 (σ : Sto) : Sto := (si (sr (sr σ 41 0 10) 41 1 27) 41 2 0)
theorem zb_X2 {σ : Sto} (h : Zb σ 41) : Zb (sX2 σ) 41 := by
  have hz1 := Zb.sr (x := 41) (k := 0) (v := 10) h (by omega)
  have hz2 := Zb.sr (x := 41) (k := 1) (v := 27) hz1 (by omega)
  have hz3 := Zb.si (x := 41) (k := 2) (v := 0) hz2 (by omega)
  exact hz3
theorem k_X2 {σ : Sto} (hz : Zb σ 41) : Ci yX2_init cX2_init 3 1 13 0 0 (fun B => [.ref (B + 41), .ref (B + 10), .ref (B + 27)]) (KS.take 41) σ ((KS.take 41)) (fun σ2 => σ2 = sX2 σ) := by
  refine Ci.of true (by decide) (fun _ => rfl) (fun _ => Nat.le_of_ble_eq_true rfl) (fun B tx E C => ?_)
  show E 0 0 (KS.take 41) 0 [(0, .ref (B + 41)), (1, .ref (B + 10)), (2, .ref (B + 27))] [] σ
  refine g_aload_n C (j := 0) dX2_init_0 rfl rfl rfl ?_
  refine g_obj C (idx := 3) tO_X2 (Nat.le_of_ble_eq_true rfl) (Nat.le_of_ble_eq_true rfl) dX2_init_1 rfl ?_
  refine g_aload_n C (j := 0) dX2_init_4 rfl rfl rfl ?_
  refine g_aload_n C (j := 1) dX2_init_5 rfl rfl rfl ?_
  refine g_putrF C (i := 40) (b := 10) tF_X2_9 ⟨RX2, TX2, 3, rfl, rfl, rfl⟩ rfl (by decide) rfl (by decide +kernel) dX2_init_6 rfl ?_
  have hz1 := Zb.sr (x := 41) (k := 0) (v := 10) hz (by omega)
  refine g_aload_n C (j := 0) dX2_init_9 rfl rfl rfl ?_
  refine g_aload_n C (j := 2) dX2_init_10 rfl rfl rfl ?_
  refine g_putr C (i := 40) (b := 27) tF_X2_15 fm_2_1 rfl (by decide) rfl (by decide +kernel) dX2_init_11 rfl ?_
  have hz2 := Zb.sr (x := 41) (k := 1) (v := 27) hz1 (by omega)
  refine g_aload_n C (j := 0) dX2_init_14 rfl rfl rfl ?_
  refine g_iconst C (v := 0) dX2_init_15 (by decide) rfl ?_
  refine g_putz C (i := 40) tF_X2_19 fm_2_2 rfl (Or.inl rfl) rfl (by decide +kernel) dX2_init_16 rfl ?_
  have hz3 := Zb.si (x := 41) (k := 2) (v := 0) hz2 (by omega)
  exact g_vret C rfl (Nat.le_of_ble_eq_true rfl) (Nat.le_of_ble_eq_true rfl) (by decide +kernel) dX2_init_19 rfl
def sX8 (σ : Sto) : Sto := (sr (sr (si (sr (sr σ 42 0 10) 42 1 43) 42 2 0) 42 3 27) 42 4 35)
theorem zb_X8 {σ : Sto} (h : Zb σ 42) : Zb (sX8 σ) 43 := by
  have hz1 := Zb.sr (x := 42) (k := 0) (v := 10) h (by omega)
  have hz2 := hz1.up
  have hz3 := Zb.sr (x := 42) (k := 1) (v := 43) hz2 (by omega)
  have hz4 := Zb.si (x := 42) (k := 2) (v := 0) hz3 (by omega)
  have hz5 := Zb.sr (x := 42) (k := 3) (v := 27) hz4 (by omega)
  have hz6 := Zb.sr (x := 42) (k := 4) (v := 35) hz5 (by omega)
  exact hz6
theorem k_X8 {σ : Sto} (hz : Zb σ 42) (h0 : gr σ 27 7 = 35) : Ci yX8_init cX8_init 3 1 13 1 3 (fun B => [.ref (B + 42), .ref (B + 10), .ref (B + 27)]) (KS.take 42) σ ((KS.take 43)) (fun σ2 => σ2 = sX8 σ) := by
  refine Ci.of true (by decide) (fun _ => rfl) (fun _ => Nat.le_of_ble_eq_true rfl) (fun B tx E C => ?_)
  show E 0 0 (KS.take 42) 0 [(0, .ref (B + 42)), (1, .ref (B + 10)), (2, .ref (B + 27))] [] σ
  refine g_aload_n C (j := 0) dX8_init_0 rfl rfl rfl ?_
  refine g_obj C (idx := 3) tO_X8 (Nat.le_of_ble_eq_true rfl) (Nat.le_of_ble_eq_true rfl) dX8_init_1 rfl ?_
  refine g_aload_n C (j := 0) dX8_init_4 rfl rfl rfl ?_
  refine g_aload_n C (j := 1) dX8_init_5 rfl rfl rfl ?_
  refine g_putrF C (i := 41) (b := 10) tF_X8_9 ⟨RX8, TX8, 5, rfl, rfl, rfl⟩ rfl (by decide) rfl (by decide +kernel) dX8_init_6 rfl ?_
  have hz1 := Zb.sr (x := 42) (k := 0) (v := 10) hz (by omega)
  refine g_aload_n C (j := 0) dX8_init_9 rfl rfl rfl ?_
  refine g_iconst C (v := 3) dX8_init_10 (by decide) rfl ?_
  refine g_newi C (N := 3) (a := 43) (by decide) (by decide) (Nat.le_of_ble_eq_true rfl) (by decide +kernel) (by decide +kernel) (hz1 _ (by omega)) (Nat.le_of_ble_eq_true rfl) (Nat.le_of_ble_eq_true rfl) dX8_init_11 rfl ?_
  refine g_ks (E := E) (ks2 := KS.take 43) (by decide +kernel) ?_
  have hz2 := hz1.up
  refine g_putrF C (i := 41) (b := 43) tF_X8_15 ⟨RX8, TX8, 5, rfl, rfl, rfl⟩ rfl (by decide) rfl (by decide +kernel) dX8_init_13 rfl ?_
  have hz3 := Zb.sr (x := 42) (k := 1) (v := 43) hz2 (by omega)
  refine g_aload_n C (j := 0) dX8_init_16 rfl rfl rfl ?_
  refine g_iconst C (v := 0) dX8_init_17 (by decide) rfl ?_
  refine g_puti C (i := 41) tF_X8_19 fm_8_2 rfl rfl (by decide +kernel) dX8_init_18 rfl ?_
  have hz4 := Zb.si (x := 42) (k := 2) (v := 0) hz3 (by omega)
  refine g_aload_n C (j := 0) dX8_init_21 rfl rfl rfl ?_
  refine g_aload_n C (j := 2) dX8_init_22 rfl rfl rfl ?_
  refine g_putr C (i := 41) (b := 27) tF_X8_23 fm_8_3 rfl (by decide) rfl (by decide +kernel) dX8_init_23 rfl ?_
  have hz5 := Zb.sr (x := 42) (k := 3) (v := 27) hz4 (by omega)
  refine g_aload_n C (j := 0) dX8_init_26 rfl rfl rfl ?_
  refine g_aload_n C (j := 2) dX8_init_27 rfl rfl rfl ?_
  refine g_getr C (i := 26) (b := 35) tF_X8_27 rfl rfl (by decide +kernel) (by show gr _ 27 7 = 35; simp [gr_sr, gr_si, h0]) (by decide) dX8_init_28 rfl ?_
  refine g_putr C (i := 41) (b := 35) tF_X8_33 fm_8_4 rfl (by decide) rfl (by decide +kernel) dX8_init_31 rfl ?_
  have hz6 := Zb.sr (x := 42) (k := 4) (v := 35) hz5 (by omega)
  exact g_vret C rfl (Nat.le_of_ble_eq_true rfl) (Nat.le_of_ble_eq_true rfl) (by decide +kernel) dX8_init_34 rfl
def sX6 (σ : Sto) : Sto := (si (si (sr (sr σ 88 0 89) 88 1 13) 88 2 0) 88 3 1)
theorem zb_X6 {σ : Sto} (h : Zb σ 88) : Zb (sX6 σ) 89 := by
  have hz1 := h.up
  have hz2 := Zb.sr (x := 88) (k := 0) (v := 89) hz1 (by omega)
  have hz3 := Zb.sr (x := 88) (k := 1) (v := 13) hz2 (by omega)
  have hz4 := Zb.si (x := 88) (k := 2) (v := 0) hz3 (by omega)
  have hz5 := Zb.si (x := 88) (k := 3) (v := 1) hz4 (by omega)
  exact hz5
theorem k_X6 {σ : Sto} (hz : Zb σ 88) : Ci yX6_init cX6_init 2 1 13 1 4096 (fun B => [.ref (B + 88), .ref (B + 13)]) (KS.take 88) σ ((KS.take 89)) (fun σ2 => σ2 = sX6 σ) := by
  refine Ci.of true (by decide) (fun _ => rfl) (fun _ => Nat.le_of_ble_eq_true rfl) (fun B tx E C => ?_)
  show E 0 0 (KS.take 88) 0 [(0, .ref (B + 88)), (1, .ref (B + 13))] [] σ
  refine g_aload_n C (j := 0) dX6_init_0 rfl rfl rfl ?_
  refine g_obj C (idx := 3) tO_X6 (Nat.le_of_ble_eq_true rfl) (Nat.le_of_ble_eq_true rfl) dX6_init_1 rfl ?_
  refine g_aload_n C (j := 0) dX6_init_4 rfl rfl rfl ?_
  refine g_sipush C (v := 4096) dX6_init_5 (by decide) rfl ?_
  refine g_newi C (N := 4096) (a := 89) (by decide) (by decide) (Nat.le_of_ble_eq_true rfl) (by decide +kernel) (by decide +kernel) (hz _ (by omega)) (Nat.le_of_ble_eq_true rfl) (Nat.le_of_ble_eq_true rfl) dX6_init_8 rfl ?_
  refine g_ks (E := E) (ks2 := KS.take 89) (by decide +kernel) ?_
  have hz1 := hz.up
  refine g_putrF C (i := 87) (b := 89) tF_X6_9 ⟨RX6, TX6, 4, rfl, rfl, rfl⟩ rfl (by decide) rfl (by decide +kernel) dX6_init_10 rfl ?_
  have hz2 := Zb.sr (x := 88) (k := 0) (v := 89) hz1 (by omega)
  refine g_aload_n C (j := 0) dX6_init_13 rfl rfl rfl ?_
  refine g_aload_n C (j := 1) dX6_init_14 rfl rfl rfl ?_
  refine g_putr C (i := 87) (b := 13) tF_X6_15 fm_6_1 rfl (by decide) rfl (by decide +kernel) dX6_init_15 rfl ?_
  have hz3 := Zb.sr (x := 88) (k := 1) (v := 13) hz2 (by omega)
  refine g_aload_n C (j := 0) dX6_init_18 rfl rfl rfl ?_
  refine g_iconst C (v := 0) dX6_init_19 (by decide) rfl ?_
  refine g_puti C (i := 87) tF_X6_19 fm_6_2 rfl rfl (by decide +kernel) dX6_init_20 rfl ?_
  have hz4 := Zb.si (x := 88) (k := 2) (v := 0) hz3 (by omega)
  refine g_aload_n C (j := 0) dX6_init_23 rfl rfl rfl ?_
  refine g_iconst C (v := 1) dX6_init_24 (by decide) rfl ?_
  refine g_puti C (i := 87) tF_X6_23 fm_6_3 rfl rfl (by decide +kernel) dX6_init_25 rfl ?_
  have hz5 := Zb.si (x := 88) (k := 3) (v := 1) hz4 (by omega)
  exact g_vret C rfl (Nat.le_of_ble_eq_true rfl) (Nat.le_of_ble_eq_true rfl) (by decide +kernel) dX6_init_28 rfl
def sX0 (σ : Sto) : Sto := (si (sr (sr (sr (sr σ 90 3 13) 90 0 88) 90 1 91) 90 2 92) 90 4 1)
theorem zb_X0 {σ : Sto} (h : Zb σ 90) : Zb (sX0 σ) 92 := by
  have hz1 := Zb.sr (x := 90) (k := 3) (v := 13) h (by omega)
  have hz2 := Zb.sr (x := 90) (k := 0) (v := 88) hz1 (by omega)
  have hz3 := hz2.up
  have hz4 := Zb.sr (x := 90) (k := 1) (v := 91) hz3 (by omega)
  have hz5 := hz4.up
  have hz6 := Zb.sr (x := 90) (k := 2) (v := 92) hz5 (by omega)
  have hz7 := Zb.si (x := 90) (k := 4) (v := 1) hz6 (by omega)
  exact hz7
theorem k_X0 {σ : Sto} (hz : Zb σ 90) : Ci yX0_init cX0_init 3 1 13 2 4108 (fun B => [.ref (B + 90), .ref (B + 13), .ref (B + 88)]) (KS.take 90) σ ((KS.take 92)) (fun σ2 => σ2 = sX0 σ) := by
  refine Ci.of true (by decide) (fun _ => rfl) (fun _ => Nat.le_of_ble_eq_true rfl) (fun B tx E C => ?_)
  show E 0 0 (KS.take 90) 0 [(0, .ref (B + 90)), (1, .ref (B + 13)), (2, .ref (B + 88))] [] σ
  refine g_aload_n C (j := 0) dX0_init_0 rfl rfl rfl ?_
  refine g_obj C (idx := 3) tO_X0 (Nat.le_of_ble_eq_true rfl) (Nat.le_of_ble_eq_true rfl) dX0_init_1 rfl ?_
  refine g_aload_n C (j := 0) dX0_init_4 rfl rfl rfl ?_
  refine g_aload_n C (j := 1) dX0_init_5 rfl rfl rfl ?_
  refine g_putr C (i := 89) (b := 13) tF_X0_9 fm_0_3 rfl (by decide) rfl (by decide +kernel) dX0_init_6 rfl ?_
  have hz1 := Zb.sr (x := 90) (k := 3) (v := 13) hz (by omega)
  refine g_aload_n C (j := 0) dX0_init_9 rfl rfl rfl ?_
  refine g_aload_n C (j := 2) dX0_init_10 rfl rfl rfl ?_
  refine g_putrF C (i := 89) (b := 88) tF_X0_15 ⟨RX0, TX0, 5, rfl, rfl, rfl⟩ rfl (by decide) rfl (by decide +kernel) dX0_init_11 rfl ?_
  have hz2 := Zb.sr (x := 90) (k := 0) (v := 88) hz1 (by omega)
  refine g_aload_n C (j := 0) dX0_init_14 rfl rfl rfl ?_
  refine g_sipush C (v := 4096) dX0_init_15 (by decide) rfl ?_
  refine g_newi C (N := 4096) (a := 91) (by decide) (by decide) (Nat.le_of_ble_eq_true rfl) (by decide +kernel) (by decide +kernel) (hz2 _ (by omega)) (Nat.le_of_ble_eq_true rfl) (Nat.le_of_ble_eq_true rfl) dX0_init_18 rfl ?_
  refine g_ks (E := E) (ks2 := KS.take 91) (by decide +kernel) ?_
  have hz3 := hz2.up
  refine g_putrF C (i := 89) (b := 91) tF_X0_19 ⟨RX0, TX0, 5, rfl, rfl, rfl⟩ rfl (by decide) rfl (by decide +kernel) dX0_init_20 rfl ?_
  have hz4 := Zb.sr (x := 90) (k := 1) (v := 91) hz3 (by omega)
  refine g_aload_n C (j := 0) dX0_init_23 rfl rfl rfl ?_
  refine g_bipush C (v := 12) dX0_init_24 (by decide) rfl ?_
  refine g_newi C (N := 12) (a := 92) (by decide) (by decide) (Nat.le_of_ble_eq_true rfl) (by decide +kernel) (by decide +kernel) (hz4 _ (by omega)) (Nat.le_of_ble_eq_true rfl) (Nat.le_of_ble_eq_true rfl) dX0_init_26 rfl ?_
  refine g_ks (E := E) (ks2 := KS.take 92) (by decide +kernel) ?_
  have hz5 := hz4.up
  refine g_putrF C (i := 89) (b := 92) tF_X0_23 ⟨RX0, TX0, 5, rfl, rfl, rfl⟩ rfl (by decide) rfl (by decide +kernel) dX0_init_28 rfl ?_
  have hz6 := Zb.sr (x := 90) (k := 2) (v := 92) hz5 (by omega)
  refine g_aload_n C (j := 0) dX0_init_31 rfl rfl rfl ?_
  refine g_iconst C (v := 1) dX0_init_32 (by decide) rfl ?_
  refine g_puti C (i := 89) tF_X0_26 fm_0_4 rfl rfl (by decide +kernel) dX0_init_33 rfl ?_
  have hz7 := Zb.si (x := 90) (k := 4) (v := 1) hz6 (by omega)
  exact g_vret C rfl (Nat.le_of_ble_eq_true rfl) (Nat.le_of_ble_eq_true rfl) (by decide +kernel) dX0_init_36 rfl
def sX5 (σ : Sto) : Sto := (si (si (sr (sr (sr (sr (sr σ 93 5 13) 93 0 88) 93 1 90) 93 2 87) 93 3 94) 93 4 0) 93 6 0)
theorem zb_X5 {σ : Sto} (h : Zb σ 93) : Zb (sX5 σ) 94 := by
  have hz1 := Zb.sr (x := 93) (k := 5) (v := 13) h (by omega)
  have hz2 := Zb.sr (x := 93) (k := 0) (v := 88) hz1 (by omega)
  have hz3 := Zb.sr (x := 93) (k := 1) (v := 90) hz2 (by omega)
  have hz4 := Zb.sr (x := 93) (k := 2) (v := 87) hz3 (by omega)
  have hz5 := hz4.up
  have hz6 := Zb.sr (x := 93) (k := 3) (v := 94) hz5 (by omega)
  have hz7 := Zb.si (x := 93) (k := 4) (v := 0) hz6 (by omega)
  have hz8 := Zb.si (x := 93) (k := 6) (v := 0) hz7 (by omega)
  exact hz8
theorem k_X5 {σ : Sto} (hz : Zb σ 93) : Ci yX5_init cX5_init 5 1 13 1 6 (fun B => [.ref (B + 93), .ref (B + 13), .ref (B + 88), .ref (B + 90), .ref (B + 87)]) (KS.take 93) σ ((KS.take 94)) (fun σ2 => σ2 = sX5 σ) := by
  refine Ci.of true (by decide) (fun _ => rfl) (fun _ => Nat.le_of_ble_eq_true rfl) (fun B tx E C => ?_)
  show E 0 0 (KS.take 93) 0 [(0, .ref (B + 93)), (1, .ref (B + 13)), (2, .ref (B + 88)), (3, .ref (B + 90)), (4, .ref (B + 87))] [] σ
  refine g_aload_n C (j := 0) dX5_init_0 rfl rfl rfl ?_
  refine g_obj C (idx := 3) tO_X5 (Nat.le_of_ble_eq_true rfl) (Nat.le_of_ble_eq_true rfl) dX5_init_1 rfl ?_
  refine g_aload_n C (j := 0) dX5_init_4 rfl rfl rfl ?_
  refine g_aload_n C (j := 1) dX5_init_5 rfl rfl rfl ?_
  refine g_putr C (i := 92) (b := 13) tF_X5_9 fm_5_5 rfl (by decide) rfl (by decide +kernel) dX5_init_6 rfl ?_
  have hz1 := Zb.sr (x := 93) (k := 5) (v := 13) hz (by omega)
  refine g_aload_n C (j := 0) dX5_init_9 rfl rfl rfl ?_
  refine g_aload_n C (j := 2) dX5_init_10 rfl rfl rfl ?_
  refine g_putrF C (i := 92) (b := 88) tF_X5_15 ⟨RX5, TX5, 7, rfl, rfl, rfl⟩ rfl (by decide) rfl (by decide +kernel) dX5_init_11 rfl ?_
  have hz2 := Zb.sr (x := 93) (k := 0) (v := 88) hz1 (by omega)
  refine g_aload_n C (j := 0) dX5_init_14 rfl rfl rfl ?_
  refine g_aload_n C (j := 3) dX5_init_15 rfl rfl rfl ?_
  refine g_putrF C (i := 92) (b := 90) tF_X5_19 ⟨RX5, TX5, 7, rfl, rfl, rfl⟩ rfl (by decide) rfl (by decide +kernel) dX5_init_16 rfl ?_
  have hz3 := Zb.sr (x := 93) (k := 1) (v := 90) hz2 (by omega)
  refine g_aload_n C (j := 0) dX5_init_19 rfl rfl rfl ?_
  refine g_aload C (j := 4) dX5_init_20 rfl rfl ?_
  refine g_putrF C (i := 92) (b := 87) tF_X5_23 ⟨RX5, TX5, 7, rfl, rfl, rfl⟩ rfl (by decide) rfl (by decide +kernel) dX5_init_22 rfl ?_
  have hz4 := Zb.sr (x := 93) (k := 2) (v := 87) hz3 (by omega)
  refine g_aload_n C (j := 0) dX5_init_25 rfl rfl rfl ?_
  refine g_bipush C (v := 6) dX5_init_26 (by decide) rfl ?_
  refine g_newi C (N := 6) (a := 94) (by decide) (by decide) (Nat.le_of_ble_eq_true rfl) (by decide +kernel) (by decide +kernel) (hz4 _ (by omega)) (Nat.le_of_ble_eq_true rfl) (Nat.le_of_ble_eq_true rfl) dX5_init_28 rfl ?_
  refine g_ks (E := E) (ks2 := KS.take 94) (by decide +kernel) ?_
  have hz5 := hz4.up
  refine g_putrF C (i := 92) (b := 94) tF_X5_27 ⟨RX5, TX5, 7, rfl, rfl, rfl⟩ rfl (by decide) rfl (by decide +kernel) dX5_init_30 rfl ?_
  have hz6 := Zb.sr (x := 93) (k := 3) (v := 94) hz5 (by omega)
  refine g_aload_n C (j := 0) dX5_init_33 rfl rfl rfl ?_
  refine g_iconst C (v := 0) dX5_init_34 (by decide) rfl ?_
  refine g_puti C (i := 92) tF_X5_30 fm_5_4 rfl rfl (by decide +kernel) dX5_init_35 rfl ?_
  have hz7 := Zb.si (x := 93) (k := 4) (v := 0) hz6 (by omega)
  refine g_aload_n C (j := 0) dX5_init_38 rfl rfl rfl ?_
  refine g_iconst C (v := 0) dX5_init_39 (by decide) rfl ?_
  refine g_puti C (i := 92) tF_X5_34 fm_5_6 rfl rfl (by decide +kernel) dX5_init_40 rfl ?_
  have hz8 := Zb.si (x := 93) (k := 6) (v := 0) hz7 (by omega)
  exact g_vret C rfl (Nat.le_of_ble_eq_true rfl) (Nat.le_of_ble_eq_true rfl) (by decide +kernel) dX5_init_43 rfl
def sX4 (σ : Sto) : Sto := (sr (sr (sr (sr σ 95 3 13) 95 0 88) 95 1 87) 95 2 96)
theorem zb_X4 {σ : Sto} (h : Zb σ 95) : Zb (sX4 σ) 96 := by
  have hz1 := Zb.sr (x := 95) (k := 3) (v := 13) h (by omega)
  have hz2 := Zb.sr (x := 95) (k := 0) (v := 88) hz1 (by omega)
  have hz3 := Zb.sr (x := 95) (k := 1) (v := 87) hz2 (by omega)
  have hz4 := hz3.up
  have hz5 := Zb.sr (x := 95) (k := 2) (v := 96) hz4 (by omega)
  exact hz5
theorem k_X4 {σ : Sto} (hz : Zb σ 95) : Ci yX4_init cX4_init 4 1 13 1 12 (fun B => [.ref (B + 95), .ref (B + 13), .ref (B + 88), .ref (B + 87)]) (KS.take 95) σ ((KS.take 96)) (fun σ2 => σ2 = sX4 σ) := by
  refine Ci.of true (by decide) (fun _ => rfl) (fun _ => Nat.le_of_ble_eq_true rfl) (fun B tx E C => ?_)
  show E 0 0 (KS.take 95) 0 [(0, .ref (B + 95)), (1, .ref (B + 13)), (2, .ref (B + 88)), (3, .ref (B + 87))] [] σ
  refine g_aload_n C (j := 0) dX4_init_0 rfl rfl rfl ?_
  refine g_obj C (idx := 3) tO_X4 (Nat.le_of_ble_eq_true rfl) (Nat.le_of_ble_eq_true rfl) dX4_init_1 rfl ?_
  refine g_aload_n C (j := 0) dX4_init_4 rfl rfl rfl ?_
  refine g_aload_n C (j := 1) dX4_init_5 rfl rfl rfl ?_
  refine g_putr C (i := 94) (b := 13) tF_X4_9 fm_4_3 rfl (by decide) rfl (by decide +kernel) dX4_init_6 rfl ?_
  have hz1 := Zb.sr (x := 95) (k := 3) (v := 13) hz (by omega)
  refine g_aload_n C (j := 0) dX4_init_9 rfl rfl rfl ?_
  refine g_aload_n C (j := 2) dX4_init_10 rfl rfl rfl ?_
  refine g_putrF C (i := 94) (b := 88) tF_X4_15 ⟨RX4, TX4, 4, rfl, rfl, rfl⟩ rfl (by decide) rfl (by decide +kernel) dX4_init_11 rfl ?_
  have hz2 := Zb.sr (x := 95) (k := 0) (v := 88) hz1 (by omega)
  refine g_aload_n C (j := 0) dX4_init_14 rfl rfl rfl ?_
  refine g_aload_n C (j := 3) dX4_init_15 rfl rfl rfl ?_
  refine g_putrF C (i := 94) (b := 87) tF_X4_19 ⟨RX4, TX4, 4, rfl, rfl, rfl⟩ rfl (by decide) rfl (by decide +kernel) dX4_init_16 rfl ?_
  have hz3 := Zb.sr (x := 95) (k := 1) (v := 87) hz2 (by omega)
  refine g_aload_n C (j := 0) dX4_init_19 rfl rfl rfl ?_
  refine g_bipush C (v := 12) dX4_init_20 (by decide) rfl ?_
  refine g_newi C (N := 12) (a := 96) (by decide) (by decide) (Nat.le_of_ble_eq_true rfl) (by decide +kernel) (by decide +kernel) (hz3 _ (by omega)) (Nat.le_of_ble_eq_true rfl) (Nat.le_of_ble_eq_true rfl) dX4_init_22 rfl ?_
  refine g_ks (E := E) (ks2 := KS.take 96) (by decide +kernel) ?_
  have hz4 := hz3.up
  refine g_putrF C (i := 94) (b := 96) tF_X4_23 ⟨RX4, TX4, 4, rfl, rfl, rfl⟩ rfl (by decide) rfl (by decide +kernel) dX4_init_24 rfl ?_
  have hz5 := Zb.sr (x := 95) (k := 2) (v := 96) hz4 (by omega)
  exact g_vret C rfl (Nat.le_of_ble_eq_true rfl) (Nat.le_of_ble_eq_true rfl) (by decide +kernel) dX4_init_27 rfl
def sX3 (σ : Sto) : Sto := (si (sr (sr (sr (sr (sr σ 97 4 13) 97 0 88) 97 1 90) 97 2 98) 97 3 99) 97 5 0)
theorem zb_X3 {σ : Sto} (h : Zb σ 97) : Zb (sX3 σ) 99 := by
  have hz1 := Zb.sr (x := 97) (k := 4) (v := 13) h (by omega)
  have hz2 := Zb.sr (x := 97) (k := 0) (v := 88) hz1 (by omega)
  have hz3 := Zb.sr (x := 97) (k := 1) (v := 90) hz2 (by omega)
  have hz4 := hz3.up
  have hz5 := Zb.sr (x := 97) (k := 2) (v := 98) hz4 (by omega)
  have hz6 := hz5.up
  have hz7 := Zb.sr (x := 97) (k := 3) (v := 99) hz6 (by omega)
  have hz8 := Zb.si (x := 97) (k := 5) (v := 0) hz7 (by omega)
  exact hz8
theorem k_X3 {σ : Sto} (hz : Zb σ 97) : Ci yX3_init cX3_init 4 1 13 2 65 (fun B => [.ref (B + 97), .ref (B + 13), .ref (B + 88), .ref (B + 90)]) (KS.take 97) σ ((KS.take 99)) (fun σ2 => σ2 = sX3 σ) := by
  refine Ci.of true (by decide) (fun _ => rfl) (fun _ => Nat.le_of_ble_eq_true rfl) (fun B tx E C => ?_)
  show E 0 0 (KS.take 97) 0 [(0, .ref (B + 97)), (1, .ref (B + 13)), (2, .ref (B + 88)), (3, .ref (B + 90))] [] σ
  refine g_aload_n C (j := 0) dX3_init_0 rfl rfl rfl ?_
  refine g_obj C (idx := 3) tO_X3 (Nat.le_of_ble_eq_true rfl) (Nat.le_of_ble_eq_true rfl) dX3_init_1 rfl ?_
  refine g_aload_n C (j := 0) dX3_init_4 rfl rfl rfl ?_
  refine g_aload_n C (j := 1) dX3_init_5 rfl rfl rfl ?_
  refine g_putr C (i := 96) (b := 13) tF_X3_9 fm_3_4 rfl (by decide) rfl (by decide +kernel) dX3_init_6 rfl ?_
  have hz1 := Zb.sr (x := 97) (k := 4) (v := 13) hz (by omega)
  refine g_aload_n C (j := 0) dX3_init_9 rfl rfl rfl ?_
  refine g_aload_n C (j := 2) dX3_init_10 rfl rfl rfl ?_
  refine g_putrF C (i := 96) (b := 88) tF_X3_15 ⟨RX3, TX3, 6, rfl, rfl, rfl⟩ rfl (by decide) rfl (by decide +kernel) dX3_init_11 rfl ?_
  have hz2 := Zb.sr (x := 97) (k := 0) (v := 88) hz1 (by omega)
  refine g_aload_n C (j := 0) dX3_init_14 rfl rfl rfl ?_
  refine g_aload_n C (j := 3) dX3_init_15 rfl rfl rfl ?_
  refine g_putrF C (i := 96) (b := 90) tF_X3_19 ⟨RX3, TX3, 6, rfl, rfl, rfl⟩ rfl (by decide) rfl (by decide +kernel) dX3_init_16 rfl ?_
  have hz3 := Zb.sr (x := 97) (k := 1) (v := 90) hz2 (by omega)
  refine g_aload_n C (j := 0) dX3_init_19 rfl rfl rfl ?_
  refine g_iconst C (v := 5) dX3_init_20 (by decide) rfl ?_
  refine g_newi C (N := 5) (a := 98) (by decide) (by decide) (Nat.le_of_ble_eq_true rfl) (by decide +kernel) (by decide +kernel) (hz3 _ (by omega)) (Nat.le_of_ble_eq_true rfl) (Nat.le_of_ble_eq_true rfl) dX3_init_21 rfl ?_
  refine g_ks (E := E) (ks2 := KS.take 98) (by decide +kernel) ?_
  have hz4 := hz3.up
  refine g_putrF C (i := 96) (b := 98) tF_X3_23 ⟨RX3, TX3, 6, rfl, rfl, rfl⟩ rfl (by decide) rfl (by decide +kernel) dX3_init_23 rfl ?_
  have hz5 := Zb.sr (x := 97) (k := 2) (v := 98) hz4 (by omega)
  refine g_aload_n C (j := 0) dX3_init_26 rfl rfl rfl ?_
  refine g_bipush C (v := 60) dX3_init_27 (by decide) rfl ?_
  refine g_newi C (N := 60) (a := 99) (by decide) (by decide) (Nat.le_of_ble_eq_true rfl) (by decide +kernel) (by decide +kernel) (hz5 _ (by omega)) (Nat.le_of_ble_eq_true rfl) (Nat.le_of_ble_eq_true rfl) dX3_init_29 rfl ?_
  refine g_ks (E := E) (ks2 := KS.take 99) (by decide +kernel) ?_
  have hz6 := hz5.up
  refine g_putrF C (i := 96) (b := 99) tF_X3_29 ⟨RX3, TX3, 6, rfl, rfl, rfl⟩ rfl (by decide) rfl (by decide +kernel) dX3_init_31 rfl ?_
  have hz7 := Zb.sr (x := 97) (k := 3) (v := 99) hz6 (by omega)
  refine g_aload_n C (j := 0) dX3_init_34 rfl rfl rfl ?_
  refine g_iconst C (v := 0) dX3_init_35 (by decide) rfl ?_
  refine g_puti C (i := 96) tF_X3_32 fm_3_5 rfl rfl (by decide +kernel) dX3_init_36 rfl ?_
  have hz8 := Zb.si (x := 97) (k := 5) (v := 0) hz7 (by omega)
  exact g_vret C rfl (Nat.le_of_ble_eq_true rfl) (Nat.le_of_ble_eq_true rfl) (by decide +kernel) dX3_init_39 rfl
def sX12 (σ : Sto) : Sto := (si (si (si (si (sr (sr (sr (sr (sr (sr (sr (sr (sr (sr (sr (sr (sr (si (si (sr (sr (sr (sr (sl σ 101 3 1) 101 4 102) 101 5 103) 101 6 104) 101 7 105) 101 10 (-1)) 101 11 (-1)) 101 20 106) 101 21 107) 101 22 108) 101 26 109) 101 27 110) 101 28 111) 101 29 112) 101 30 113) 101 34 114) 101 35 115) 101 36 116) 101 37 117) 101 38 118) 103 ((0 : Int32).toNatClampNeg) (-1)) 103 ((1 : Int32).toNatClampNeg) (-1)) 103 ((2 : Int32).toNatClampNeg) (-1)) 103 ((3 : Int32).toNatClampNeg) (-1))
theorem zb_X12 {σ : Sto} (h : Zb σ 101) : Zb (sX12 σ) 118 := by
  have hz1 := Zb.sl (x := 101) (k := 3) (v := 1) h (by omega)
  have hz2 := hz1.up
  have hz3 := Zb.sr (x := 101) (k := 4) (v := 102) hz2 (by omega)
  have hz4 := hz3.up
  have hz5 := Zb.sr (x := 101) (k := 5) (v := 103) hz4 (by omega)
  have hz6 := hz5.up
  have hz7 := Zb.sr (x := 101) (k := 6) (v := 104) hz6 (by omega)
  have hz8 := hz7.up
  have hz9 := Zb.sr (x := 101) (k := 7) (v := 105) hz8 (by omega)
  have hz10 := Zb.si (x := 101) (k := 10) (v := (-1)) hz9 (by omega)
  have hz11 := Zb.si (x := 101) (k := 11) (v := (-1)) hz10 (by omega)
  have hz12 := hz11.up
  have hz13 := Zb.sr (x := 101) (k := 20) (v := 106) hz12 (by omega)
  have hz14 := hz13.up
  have hz15 := Zb.sr (x := 101) (k := 21) (v := 107) hz14 (by omega)
  have hz16 := hz15.up
  have hz17 := Zb.sr (x := 101) (k := 22) (v := 108) hz16 (by omega)
  have hz18 := hz17.up
  have hz19 := Zb.sr (x := 101) (k := 26) (v := 109) hz18 (by omega)
  have hz20 := hz19.up
  have hz21 := Zb.sr (x := 101) (k := 27) (v := 110) hz20 (by omega)
  have hz22 := hz21.up
  have hz23 := Zb.sr (x := 101) (k := 28) (v := 111) hz22 (by omega)
  have hz24 := hz23.up
  have hz25 := Zb.sr (x := 101) (k := 29) (v := 112) hz24 (by omega)
  have hz26 := hz25.up
  have hz27 := Zb.sr (x := 101) (k := 30) (v := 113) hz26 (by omega)
  have hz28 := hz27.up
  have hz29 := Zb.sr (x := 101) (k := 34) (v := 114) hz28 (by omega)
  have hz30 := hz29.up
  have hz31 := Zb.sr (x := 101) (k := 35) (v := 115) hz30 (by omega)
  have hz32 := hz31.up
  have hz33 := Zb.sr (x := 101) (k := 36) (v := 116) hz32 (by omega)
  have hz34 := hz33.up
  have hz35 := Zb.sr (x := 101) (k := 37) (v := 117) hz34 (by omega)
  have hz36 := hz35.up
  have hz37 := Zb.sr (x := 101) (k := 38) (v := 118) hz36 (by omega)
  have hz38 := Zb.si (x := 103) (k := ((0 : Int32).toNatClampNeg)) (v := (-1)) hz37 (by omega)
  have hz39 := Zb.si (x := 103) (k := ((1 : Int32).toNatClampNeg)) (v := (-1)) hz38 (by omega)
  have hz40 := Zb.si (x := 103) (k := ((2 : Int32).toNatClampNeg)) (v := (-1)) hz39 (by omega)
  have hz41 := Zb.si (x := 103) (k := ((3 : Int32).toNatClampNeg)) (v := (-1)) hz40 (by omega)
  exact hz41
theorem k_X12 {σ : Sto} (hz : Zb σ 101) : Ci yX12_init cX12_init 2 1 13 17 15868 (fun B => [.ref (B + 101)]) (KS.take 101) σ ((KS.take 118)) (fun σ2 => σ2 = sX12 σ) := by
  refine Ci.of true (by decide) (fun _ => rfl) (fun _ => Nat.le_of_ble_eq_true rfl) (fun B tx E C => ?_)
  show E 0 0 (KS.take 101) 0 [(0, .ref (B + 101))] [] σ
  refine g_aload_n C (j := 0) dX12_init_0 rfl rfl rfl ?_
  refine g_obj C (idx := 1) tO_X12 (Nat.le_of_ble_eq_true rfl) (Nat.le_of_ble_eq_true rfl) dX12_init_1 rfl ?_
  refine g_aload_n C (j := 0) dX12_init_4 rfl rfl rfl ?_
  refine g_lconst C (v := 1) dX12_init_5 (by decide) rfl ?_
  refine g_putl C (i := 100) tF_X12_7 fm_12_3 rfl rfl (by decide +kernel) dX12_init_6 rfl ?_
  have hz1 := Zb.sl (x := 101) (k := 3) (v := 1) hz (by omega)
  refine g_aload_n C (j := 0) dX12_init_9 rfl rfl rfl ?_
  refine g_iconst C (v := 4) dX12_init_10 (by decide) rfl ?_
  refine g_newi C (N := 4) (a := 102) (by decide) (by decide) (Nat.le_of_ble_eq_true rfl) (by decide +kernel) (by decide +kernel) (hz1 _ (by omega)) (Nat.le_of_ble_eq_true rfl) (Nat.le_of_ble_eq_true rfl) dX12_init_11 rfl ?_
  refine g_ks (E := E) (ks2 := KS.take 102) (by decide +kernel) ?_
  have hz2 := hz1.up
  refine g_putrF C (i := 100) (b := 102) tF_X12_13 ⟨RX12, TX12, 48, rfl, rfl, rfl⟩ rfl (by decide) rfl (by decide +kernel) dX12_init_13 rfl ?_
  have hz3 := Zb.sr (x := 101) (k := 4) (v := 102) hz2 (by omega)
  refine g_aload_n C (j := 0) dX12_init_16 rfl rfl rfl ?_
  refine g_iconst C (v := 4) dX12_init_17 (by decide) rfl ?_
  refine g_newi C (N := 4) (a := 103) (by decide) (by decide) (Nat.le_of_ble_eq_true rfl) (by decide +kernel) (by decide +kernel) (hz3 _ (by omega)) (Nat.le_of_ble_eq_true rfl) (Nat.le_of_ble_eq_true rfl) dX12_init_18 rfl ?_
  refine g_ks (E := E) (ks2 := KS.take 103) (by decide +kernel) ?_
  have hz4 := hz3.up
  refine g_putrF C (i := 100) (b := 103) tF_X12_17 ⟨RX12, TX12, 48, rfl, rfl, rfl⟩ rfl (by decide) rfl (by decide +kernel) dX12_init_20 rfl ?_
  have hz5 := Zb.sr (x := 101) (k := 5) (v := 103) hz4 (by omega)
  refine g_aload_n C (j := 0) dX12_init_23 rfl rfl rfl ?_
  refine g_sipush C (v := 240) dX12_init_24 (by decide) rfl ?_
  refine g_newl C (N := 240) (a := 104) (by decide) (by decide) (Nat.le_of_ble_eq_true rfl) (by decide +kernel) (by decide +kernel) (hz5 _ (by omega)) (Nat.le_of_ble_eq_true rfl) (Nat.le_of_ble_eq_true rfl) dX12_init_27 rfl ?_
  refine g_ks (E := E) (ks2 := KS.take 104) (by decide +kernel) ?_
  have hz6 := hz5.up
  refine g_putrF C (i := 100) (b := 104) tF_X12_20 ⟨RX12, TX12, 48, rfl, rfl, rfl⟩ rfl (by decide) rfl (by decide +kernel) dX12_init_29 rfl ?_
  have hz7 := Zb.sr (x := 101) (k := 6) (v := 104) hz6 (by omega)
  refine g_aload_n C (j := 0) dX12_init_32 rfl rfl rfl ?_
  refine g_sipush C (v := 900) dX12_init_33 (by decide) rfl ?_
  refine g_newb C (N := 900) (a := 105) (by decide) (by decide) (Nat.le_of_ble_eq_true rfl) (by decide +kernel) (by decide +kernel) (hz7 _ (by omega)) (Nat.le_of_ble_eq_true rfl) (Nat.le_of_ble_eq_true rfl) dX12_init_36 rfl ?_
  refine g_ks (E := E) (ks2 := KS.take 105) (by decide +kernel) ?_
  have hz8 := hz7.up
  refine g_putrF C (i := 100) (b := 105) tF_X12_24 ⟨RX12, TX12, 48, rfl, rfl, rfl⟩ rfl (by decide) rfl (by decide +kernel) dX12_init_38 rfl ?_
  have hz9 := Zb.sr (x := 101) (k := 7) (v := 105) hz8 (by omega)
  refine g_aload_n C (j := 0) dX12_init_41 rfl rfl rfl ?_
  refine g_iconst C (v := (-1)) dX12_init_42 (by decide) rfl ?_
  refine g_puti C (i := 100) tF_X12_28 fm_12_10 rfl rfl (by decide +kernel) dX12_init_43 rfl ?_
  have hz10 := Zb.si (x := 101) (k := 10) (v := (-1)) hz9 (by omega)
  refine g_aload_n C (j := 0) dX12_init_46 rfl rfl rfl ?_
  refine g_iconst C (v := (-1)) dX12_init_47 (by decide) rfl ?_
  refine g_puti C (i := 100) tF_X12_32 fm_12_11 rfl rfl (by decide +kernel) dX12_init_48 rfl ?_
  have hz11 := Zb.si (x := 101) (k := 11) (v := (-1)) hz10 (by omega)
  refine g_aload_n C (j := 0) dX12_init_51 rfl rfl rfl ?_
  refine g_sipush C (v := 2105) dX12_init_52 (by decide) rfl ?_
  refine g_newi C (N := 2105) (a := 106) (by decide) (by decide) (Nat.le_of_ble_eq_true rfl) (by decide +kernel) (by decide +kernel) (hz11 _ (by omega)) (Nat.le_of_ble_eq_true rfl) (Nat.le_of_ble_eq_true rfl) dX12_init_55 rfl ?_
  refine g_ks (E := E) (ks2 := KS.take 106) (by decide +kernel) ?_
  have hz12 := hz11.up
  refine g_putrF C (i := 100) (b := 106) tF_X12_35 ⟨RX12, TX12, 48, rfl, rfl, rfl⟩ rfl (by decide) rfl (by decide +kernel) dX12_init_57 rfl ?_
  have hz13 := Zb.sr (x := 101) (k := 20) (v := 106) hz12 (by omega)
  refine g_aload_n C (j := 0) dX12_init_60 rfl rfl rfl ?_
  refine g_sipush C (v := 142) dX12_init_61 (by decide) rfl ?_
  refine g_newi C (N := 142) (a := 107) (by decide) (by decide) (Nat.le_of_ble_eq_true rfl) (by decide +kernel) (by decide +kernel) (hz13 _ (by omega)) (Nat.le_of_ble_eq_true rfl) (Nat.le_of_ble_eq_true rfl) dX12_init_64 rfl ?_
  refine g_ks (E := E) (ks2 := KS.take 107) (by decide +kernel) ?_
  have hz14 := hz13.up
  refine g_putrF C (i := 100) (b := 107) tF_X12_38 ⟨RX12, TX12, 48, rfl, rfl, rfl⟩ rfl (by decide) rfl (by decide +kernel) dX12_init_66 rfl ?_
  have hz15 := Zb.sr (x := 101) (k := 21) (v := 107) hz14 (by omega)
  refine g_aload_n C (j := 0) dX12_init_69 rfl rfl rfl ?_
  refine g_bipush C (v := 120) dX12_init_70 (by decide) rfl ?_
  refine g_newl C (N := 120) (a := 108) (by decide) (by decide) (Nat.le_of_ble_eq_true rfl) (by decide +kernel) (by decide +kernel) (hz15 _ (by omega)) (Nat.le_of_ble_eq_true rfl) (Nat.le_of_ble_eq_true rfl) dX12_init_72 rfl ?_
  refine g_ks (E := E) (ks2 := KS.take 108) (by decide +kernel) ?_
  have hz16 := hz15.up
  refine g_putrF C (i := 100) (b := 108) tF_X12_41 ⟨RX12, TX12, 48, rfl, rfl, rfl⟩ rfl (by decide) rfl (by decide +kernel) dX12_init_74 rfl ?_
  have hz17 := Zb.sr (x := 101) (k := 22) (v := 108) hz16 (by omega)
  refine g_aload_n C (j := 0) dX12_init_77 rfl rfl rfl ?_
  refine g_bipush C (v := 12) dX12_init_78 (by decide) rfl ?_
  refine g_newi C (N := 12) (a := 109) (by decide) (by decide) (Nat.le_of_ble_eq_true rfl) (by decide +kernel) (by decide +kernel) (hz17 _ (by omega)) (Nat.le_of_ble_eq_true rfl) (Nat.le_of_ble_eq_true rfl) dX12_init_80 rfl ?_
  refine g_ks (E := E) (ks2 := KS.take 109) (by decide +kernel) ?_
  have hz18 := hz17.up
  refine g_putrF C (i := 100) (b := 109) tF_X12_44 ⟨RX12, TX12, 48, rfl, rfl, rfl⟩ rfl (by decide) rfl (by decide +kernel) dX12_init_82 rfl ?_
  have hz19 := Zb.sr (x := 101) (k := 26) (v := 109) hz18 (by omega)
  refine g_aload_n C (j := 0) dX12_init_85 rfl rfl rfl ?_
  refine g_bipush C (v := 12) dX12_init_86 (by decide) rfl ?_
  refine g_newi C (N := 12) (a := 110) (by decide) (by decide) (Nat.le_of_ble_eq_true rfl) (by decide +kernel) (by decide +kernel) (hz19 _ (by omega)) (Nat.le_of_ble_eq_true rfl) (Nat.le_of_ble_eq_true rfl) dX12_init_88 rfl ?_
  refine g_ks (E := E) (ks2 := KS.take 110) (by decide +kernel) ?_
  have hz20 := hz19.up
  refine g_putrF C (i := 100) (b := 110) tF_X12_47 ⟨RX12, TX12, 48, rfl, rfl, rfl⟩ rfl (by decide) rfl (by decide +kernel) dX12_init_90 rfl ?_
  have hz21 := Zb.sr (x := 101) (k := 27) (v := 110) hz20 (by omega)
  refine g_aload_n C (j := 0) dX12_init_93 rfl rfl rfl ?_
  refine g_bipush C (v := 12) dX12_init_94 (by decide) rfl ?_
  refine g_newi C (N := 12) (a := 111) (by decide) (by decide) (Nat.le_of_ble_eq_true rfl) (by decide +kernel) (by decide +kernel) (hz21 _ (by omega)) (Nat.le_of_ble_eq_true rfl) (Nat.le_of_ble_eq_true rfl) dX12_init_96 rfl ?_
  refine g_ks (E := E) (ks2 := KS.take 111) (by decide +kernel) ?_
  have hz22 := hz21.up
  refine g_putrF C (i := 100) (b := 111) tF_X12_50 ⟨RX12, TX12, 48, rfl, rfl, rfl⟩ rfl (by decide) rfl (by decide +kernel) dX12_init_98 rfl ?_
  have hz23 := Zb.sr (x := 101) (k := 28) (v := 111) hz22 (by omega)
  refine g_aload_n C (j := 0) dX12_init_101 rfl rfl rfl ?_
  refine g_bipush C (v := 6) dX12_init_102 (by decide) rfl ?_
  refine g_newi C (N := 6) (a := 112) (by decide) (by decide) (Nat.le_of_ble_eq_true rfl) (by decide +kernel) (by decide +kernel) (hz23 _ (by omega)) (Nat.le_of_ble_eq_true rfl) (Nat.le_of_ble_eq_true rfl) dX12_init_104 rfl ?_
  refine g_ks (E := E) (ks2 := KS.take 112) (by decide +kernel) ?_
  have hz24 := hz23.up
  refine g_putrF C (i := 100) (b := 112) tF_X12_53 ⟨RX12, TX12, 48, rfl, rfl, rfl⟩ rfl (by decide) rfl (by decide +kernel) dX12_init_106 rfl ?_
  have hz25 := Zb.sr (x := 101) (k := 29) (v := 112) hz24 (by omega)
  refine g_aload_n C (j := 0) dX12_init_109 rfl rfl rfl ?_
  refine g_bipush C (v := 6) dX12_init_110 (by decide) rfl ?_
  refine g_newi C (N := 6) (a := 113) (by decide) (by decide) (Nat.le_of_ble_eq_true rfl) (by decide +kernel) (by decide +kernel) (hz25 _ (by omega)) (Nat.le_of_ble_eq_true rfl) (Nat.le_of_ble_eq_true rfl) dX12_init_112 rfl ?_
  refine g_ks (E := E) (ks2 := KS.take 113) (by decide +kernel) ?_
  have hz26 := hz25.up
  refine g_putrF C (i := 100) (b := 113) tF_X12_56 ⟨RX12, TX12, 48, rfl, rfl, rfl⟩ rfl (by decide) rfl (by decide +kernel) dX12_init_114 rfl ?_
  have hz27 := Zb.sr (x := 101) (k := 30) (v := 113) hz26 (by omega)
  refine g_aload_n C (j := 0) dX12_init_117 rfl rfl rfl ?_
  refine g_bipush C (v := 12) dX12_init_118 (by decide) rfl ?_
  refine g_newi C (N := 12) (a := 114) (by decide) (by decide) (Nat.le_of_ble_eq_true rfl) (by decide +kernel) (by decide +kernel) (hz27 _ (by omega)) (Nat.le_of_ble_eq_true rfl) (Nat.le_of_ble_eq_true rfl) dX12_init_120 rfl ?_
  refine g_ks (E := E) (ks2 := KS.take 114) (by decide +kernel) ?_
  have hz28 := hz27.up
  refine g_putrF C (i := 100) (b := 114) tF_X12_59 ⟨RX12, TX12, 48, rfl, rfl, rfl⟩ rfl (by decide) rfl (by decide +kernel) dX12_init_122 rfl ?_
  have hz29 := Zb.sr (x := 101) (k := 34) (v := 114) hz28 (by omega)
  refine g_aload_n C (j := 0) dX12_init_125 rfl rfl rfl ?_
  refine g_sipush C (v := 4096) dX12_init_126 (by decide) rfl ?_
  refine g_newi C (N := 4096) (a := 115) (by decide) (by decide) (Nat.le_of_ble_eq_true rfl) (by decide +kernel) (by decide +kernel) (hz29 _ (by omega)) (Nat.le_of_ble_eq_true rfl) (Nat.le_of_ble_eq_true rfl) dX12_init_129 rfl ?_
  refine g_ks (E := E) (ks2 := KS.take 115) (by decide +kernel) ?_
  have hz30 := hz29.up
  refine g_putrF C (i := 100) (b := 115) tF_X12_62 ⟨RX12, TX12, 48, rfl, rfl, rfl⟩ rfl (by decide) rfl (by decide +kernel) dX12_init_131 rfl ?_
  have hz31 := Zb.sr (x := 101) (k := 35) (v := 115) hz30 (by omega)
  refine g_aload_n C (j := 0) dX12_init_134 rfl rfl rfl ?_
  refine g_sipush C (v := 4096) dX12_init_135 (by decide) rfl ?_
  refine g_newl C (N := 4096) (a := 116) (by decide) (by decide) (Nat.le_of_ble_eq_true rfl) (by decide +kernel) (by decide +kernel) (hz31 _ (by omega)) (Nat.le_of_ble_eq_true rfl) (Nat.le_of_ble_eq_true rfl) dX12_init_138 rfl ?_
  refine g_ks (E := E) (ks2 := KS.take 116) (by decide +kernel) ?_
  have hz32 := hz31.up
  refine g_putrF C (i := 100) (b := 116) tF_X12_65 ⟨RX12, TX12, 48, rfl, rfl, rfl⟩ rfl (by decide) rfl (by decide +kernel) dX12_init_140 rfl ?_
  have hz33 := Zb.sr (x := 101) (k := 36) (v := 116) hz32 (by omega)
  refine g_aload_n C (j := 0) dX12_init_143 rfl rfl rfl ?_
  refine g_sipush C (v := 4096) dX12_init_144 (by decide) rfl ?_
  refine g_newi C (N := 4096) (a := 117) (by decide) (by decide) (Nat.le_of_ble_eq_true rfl) (by decide +kernel) (by decide +kernel) (hz33 _ (by omega)) (Nat.le_of_ble_eq_true rfl) (Nat.le_of_ble_eq_true rfl) dX12_init_147 rfl ?_
  refine g_ks (E := E) (ks2 := KS.take 117) (by decide +kernel) ?_
  have hz34 := hz33.up
  refine g_putrF C (i := 100) (b := 117) tF_X12_68 ⟨RX12, TX12, 48, rfl, rfl, rfl⟩ rfl (by decide) rfl (by decide +kernel) dX12_init_149 rfl ?_
  have hz35 := Zb.sr (x := 101) (k := 37) (v := 117) hz34 (by omega)
  refine g_aload_n C (j := 0) dX12_init_152 rfl rfl rfl ?_
  refine g_iconst C (v := 5) dX12_init_153 (by decide) rfl ?_
  refine g_newi C (N := 5) (a := 118) (by decide) (by decide) (Nat.le_of_ble_eq_true rfl) (by decide +kernel) (by decide +kernel) (hz35 _ (by omega)) (Nat.le_of_ble_eq_true rfl) (Nat.le_of_ble_eq_true rfl) dX12_init_154 rfl ?_
  refine g_ks (E := E) (ks2 := KS.take 118) (by decide +kernel) ?_
  have hz36 := hz35.up
  refine g_putrF C (i := 100) (b := 118) tF_X12_71 ⟨RX12, TX12, 48, rfl, rfl, rfl⟩ rfl (by decide) rfl (by decide +kernel) dX12_init_156 rfl ?_
  have hz37 := Zb.sr (x := 101) (k := 38) (v := 118) hz36 (by omega)
  refine g_iconst C (v := 0) dX12_init_159 (by decide) rfl ?_
  refine g_istore_n C (i := 1) (lv2 := [(1, .int 0), (0, .ref (B + 101))]) dX12_init_160 rfl (by decide) rfl rfl ?_
  refine g_iload_n C (j := 0) dX12_init_161 rfl rfl rfl ?_
  refine g_iconst C (v := 4) dX12_init_162 (by decide) rfl ?_
  refine g_icmp_ge C (t := 179) dX12_init_163 (by decide) rfl (fun hq => absurd hq (by decide)) (fun _ => ?_)
  refine g_aload_n C (j := 1) dX12_init_166 rfl rfl rfl ?_
  refine g_getr C (i := 100) (b := 103) tF_X12_17 rfl rfl (by decide +kernel) rfl (by decide) dX12_init_167 rfl ?_
  refine g_iload_n C (j := 0) dX12_init_170 rfl rfl rfl ?_
  refine g_iconst C (v := (-1)) dX12_init_171 (by decide) rfl ?_
  refine g_iast C (i := 102) (n := 4) rfl (by decide +kernel) (vp_lit (by decide)) dX12_init_172 rfl ?_
  have hz38 := Zb.si (x := 103) (k := ((0 : Int32).toNatClampNeg)) (v := (-1)) hz37 (by omega)
  refine g_iinc C (i := 1) (j := 0) (v := 1) (lv2 := [(1, .int 1), (0, .ref (B + 101))]) dX12_init_173 rfl (by decide) (by decide) rfl rfl ?_
  refine g_goto C (t := 161) dX12_init_176 (by decide) ?_
  refine g_iload_n C (j := 0) dX12_init_161 rfl rfl rfl ?_
  refine g_iconst C (v := 4) dX12_init_162 (by decide) rfl ?_
  refine g_icmp_ge C (t := 179) dX12_init_163 (by decide) rfl (fun hq => absurd hq (by decide)) (fun _ => ?_)
  refine g_aload_n C (j := 1) dX12_init_166 rfl rfl rfl ?_
  refine g_getr C (i := 100) (b := 103) tF_X12_17 rfl rfl (by decide +kernel) rfl (by decide) dX12_init_167 rfl ?_
  refine g_iload_n C (j := 0) dX12_init_170 rfl rfl rfl ?_
  refine g_iconst C (v := (-1)) dX12_init_171 (by decide) rfl ?_
  refine g_iast C (i := 102) (n := 4) rfl (by decide +kernel) (vp_lit (by decide)) dX12_init_172 rfl ?_
  have hz39 := Zb.si (x := 103) (k := ((1 : Int32).toNatClampNeg)) (v := (-1)) hz38 (by omega)
  refine g_iinc C (i := 1) (j := 0) (v := 2) (lv2 := [(1, .int 2), (0, .ref (B + 101))]) dX12_init_173 rfl (by decide) (by decide) rfl rfl ?_
  refine g_goto C (t := 161) dX12_init_176 (by decide) ?_
  refine g_iload_n C (j := 0) dX12_init_161 rfl rfl rfl ?_
  refine g_iconst C (v := 4) dX12_init_162 (by decide) rfl ?_
  refine g_icmp_ge C (t := 179) dX12_init_163 (by decide) rfl (fun hq => absurd hq (by decide)) (fun _ => ?_)
  refine g_aload_n C (j := 1) dX12_init_166 rfl rfl rfl ?_
  refine g_getr C (i := 100) (b := 103) tF_X12_17 rfl rfl (by decide +kernel) rfl (by decide) dX12_init_167 rfl ?_
  refine g_iload_n C (j := 0) dX12_init_170 rfl rfl rfl ?_
  refine g_iconst C (v := (-1)) dX12_init_171 (by decide) rfl ?_
  refine g_iast C (i := 102) (n := 4) rfl (by decide +kernel) (vp_lit (by decide)) dX12_init_172 rfl ?_
  have hz40 := Zb.si (x := 103) (k := ((2 : Int32).toNatClampNeg)) (v := (-1)) hz39 (by omega)
  refine g_iinc C (i := 1) (j := 0) (v := 3) (lv2 := [(1, .int 3), (0, .ref (B + 101))]) dX12_init_173 rfl (by decide) (by decide) rfl rfl ?_
  refine g_goto C (t := 161) dX12_init_176 (by decide) ?_
  refine g_iload_n C (j := 0) dX12_init_161 rfl rfl rfl ?_
  refine g_iconst C (v := 4) dX12_init_162 (by decide) rfl ?_
  refine g_icmp_ge C (t := 179) dX12_init_163 (by decide) rfl (fun hq => absurd hq (by decide)) (fun _ => ?_)
  refine g_aload_n C (j := 1) dX12_init_166 rfl rfl rfl ?_
  refine g_getr C (i := 100) (b := 103) tF_X12_17 rfl rfl (by decide +kernel) rfl (by decide) dX12_init_167 rfl ?_
  refine g_iload_n C (j := 0) dX12_init_170 rfl rfl rfl ?_
  refine g_iconst C (v := (-1)) dX12_init_171 (by decide) rfl ?_
  refine g_iast C (i := 102) (n := 4) rfl (by decide +kernel) (vp_lit (by decide)) dX12_init_172 rfl ?_
  have hz41 := Zb.si (x := 103) (k := ((3 : Int32).toNatClampNeg)) (v := (-1)) hz40 (by omega)
  refine g_iinc C (i := 1) (j := 0) (v := 4) (lv2 := [(1, .int 4), (0, .ref (B + 101))]) dX12_init_173 rfl (by decide) (by decide) rfl rfl ?_
  refine g_goto C (t := 161) dX12_init_176 (by decide) ?_
  refine g_iload_n C (j := 0) dX12_init_161 rfl rfl rfl ?_
  refine g_iconst C (v := 4) dX12_init_162 (by decide) rfl ?_
  refine g_icmp_ge C (t := 179) dX12_init_163 (by decide) rfl (fun _ => ?_) (fun hq => absurd (by decide) hq)
  exact g_vret C rfl (Nat.le_of_ble_eq_true rfl) (Nat.le_of_ble_eq_true rfl) (by decide +kernel) dX12_init_179 rfl
