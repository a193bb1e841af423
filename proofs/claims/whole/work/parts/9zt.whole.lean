/-! ===== the law's walk from its entry ===== -/
theorem il_1 {w : Cond} (j : Nat) (h : tables_1_1[j]? = some w) : w ∈ lw_tbl := List.mem_append_right _ (List.mem_append_left _ (List.mem_of_getElem? h))
theorem il_2 {w : Cond} (j : Nat) (h : tables_1_2[j]? = some w) : w ∈ lw_tbl := List.mem_append_right _ (List.mem_append_right _ (List.mem_append_left _ (List.mem_of_getElem? h)))
theorem ws_same {B : Nat} {ca : Nat → ClassId} {σ : Sto} (h : ∀ a k b, CST a k = some b → gr σ a k = b) : wsOf B ca Cn KS σ = wsOf B ca CST KS σ := by
  have e : ∀ a k, rf Cn σ a k = rf CST σ a k := fun a k => by
    unfold rf
    cases hc : CST a k with
    | none => rfl
    | some b => exact h a k b hc
  unfold wsOf
  refine List.map_congr_left (fun i _ => ?_)
  have e2 : ∀ kd x, cE B ca Cn σ kd x = cE B ca CST σ kd x := fun kd x => by
    unfold cE
    simp only [fv, e]
  rw [e2]
theorem cst_s0 : ∀ a k b, CST a k = some b → gr s0L a k = b := by
  intro a k b h
  unfold CST at h
  rw [Option.map_eq_some_iff] at h
  obtain ⟨t, ht, hb⟩ := h
  have h1 := List.find?_some ht
  have h2 := List.mem_of_find?_eq_some ht
  simp only [Bool.and_eq_true, beq_iff_eq] at h1
  rw [← h1.1, ← h1.2, ← hb]
  exact s0_c t h2
theorem kn_all {s : State} {args : Array Value} (hts : ∀ w ∈ tbG, w.before args s = true) : ∃ D : va_G, ∀ (c : Nat) (q : vw_C), vwCl[c]? = some q → u_Kn s q.1 q.2.1 q.2.2 (D.1 c) (D.2 c) := by
  have h0 : ∀ c : Nat, ∃ q : ClassId × (Nat → Nat), ∀ r : vw_C, vwCl[c]? = some r → u_Kn s r.1 r.2.1 r.2.2 q.1 q.2 := by
    intro c
    match c with
    | 0 => obtain ⟨a, b, h⟩ := u_known hts uwX0 (hts _ tY_X0); exact ⟨(a, b), fun r hr => by cases hr; exact h⟩
    | 1 => obtain ⟨a, b, h⟩ := u_known hts uwX1 (hts _ tY_X1); exact ⟨(a, b), fun r hr => by cases hr; exact h⟩
    | 2 => obtain ⟨a, b, h⟩ := u_known hts uwX2 (hts _ tY_X2); exact ⟨(a, b), fun r hr => by cases hr; exact h⟩
    | 3 => obtain ⟨a, b, h⟩ := u_known hts uwX3 (hts _ tY_X3); exact ⟨(a, b), fun r hr => by cases hr; exact h⟩
    | 4 => obtain ⟨a, b, h⟩ := u_known hts uwX4 (hts _ tY_X4); exact ⟨(a, b), fun r hr => by cases hr; exact h⟩
    | 5 => obtain ⟨a, b, h⟩ := u_known hts uwX5 (hts _ tY_X5); exact ⟨(a, b), fun r hr => by cases hr; exact h⟩
    | 6 => obtain ⟨a, b, h⟩ := u_known hts uwX6 (hts _ tY_X6); exact ⟨(a, b), fun r hr => by cases hr; exact h⟩
    | 7 => obtain ⟨a, b, h⟩ := u_known hts uwX7 (hts _ tY_X7); exact ⟨(a, b), fun r hr => by cases hr; exact h⟩
    | 8 => obtain ⟨a, b, h⟩ := u_known hts uwX8 (hts _ tY_X8); exact ⟨(a, b), fun r hr => by cases hr; exact h⟩
    | 9 => obtain ⟨a, b, h⟩ := u_known hts uwX9 (hts _ tY_X9); exact ⟨(a, b), fun r hr => by cases hr; exact h⟩
    | 10 => obtain ⟨a, b, h⟩ := u_known hts uwX10 (hts _ tY_X10); exact ⟨(a, b), fun r hr => by cases hr; exact h⟩
    | 11 => obtain ⟨a, b, h⟩ := u_known hts uwX11 (hts _ tY_X11); exact ⟨(a, b), fun r hr => by cases hr; exact h⟩
    | 12 => obtain ⟨a, b, h⟩ := u_known hts uwX12 (hts _ tY_X12); exact ⟨(a, b), fun r hr => by cases hr; exact h⟩
    | n + 13 => obtain ⟨a, b, h⟩ := u_known hts uwX0 (hts _ tY_X0); exact ⟨(a, b), fun r hr => by cases hr⟩
  obtain ⟨f, hf⟩ := Classical.axiomOfChoice h0
  exact ⟨(fun c => (f c).1, fun c => (f c).2), fun c q hq => hf c q hq⟩
theorem arr_of {s : State} {args : Array Value} {ty : FieldType} (h : (Cond.arrayClass ty).before args s = true) : ∃ (cA : ClassId) (kA : Class) (comp : ClassId), s.vm.findClass ("[" ++ ty.toString) = some cA ∧ s.vm.classes[cA]? = some kA ∧ kA.kind = .array comp ty ∧ ArrOfT s cA ty := by
  obtain ⟨c, k, comp, h1, h2, h3⟩ := Cond.arrayClass_spec h
  exact ⟨c, k, comp, h1, h2, h3, fun n z => ⟨fun k h => (by cases h), k, h2, comp, h3⟩⟩
theorem el_fl : ∀ j, j < 130 → (flatC (Jvm.Cond.and given_1 narrow_1))[13 + j]? = some (Cond.eq (.elem (.field (.string "Unmade$Tokens" 19) "java/lang/String" "value" "[B") (.int (Int32.ofNat j))) (.int (([kwByt].getD 0 []).getD j 0))) := by decide +kernel
theorem whole_start {p : Program} {e : Env} {s : State} {m : MethodId} {below : List Frame} {meth : Method} {c : Code} (l : Launch) (hflags : l.flags = flags0) {b L : Nat} {xs : Nat → Int32} (hL : L ≤ 3072) (C0 : lw_At p s m meth c b L xs) : W p l e room_1 s m #[Value.ref b] below meth c s.heap [] 0 0 (lw_Z below #[Value.ref b] s) (entryFrame m ([Value.ref b] : List Value).toArray 4) := by
  obtain ⟨hx, hb, hr, hml, hown, hts, hX, hbl, hlocks, hgv⟩ := C0
  have hfl := flat_of_before _ hgv
  have htG : ∀ w ∈ tbG, w.before #[Value.ref b] s = true := fun w hw => hts w (List.mem_filter.mp hw).1
  obtain ⟨B, hB⟩ : ∃ B, B + 1 = s.heap.size := ⟨s.heap.size - 1, by omega⟩
  have hA : ∀ a : Nat, a < s.heap.size → ¬ B < a := fun a ha => by omega
  obtain ⟨D, hD⟩ := kn_all htG
  obtain ⟨c1, k1, p1, a11, a12, a13, a14⟩ := arr_of (htG _ tA_int)
  obtain ⟨c2, k2, p2, a21, a22, a23, a24⟩ := arr_of (htG _ tA_long)
  obtain ⟨c3, k3, p3, a31, a32, a33, a34⟩ := arr_of (htG _ tA_byte)
  obtain ⟨p4, c4, k4, a41, a42, a43, a44, a45⟩ := Cond.arrayOver_spec (show (Cond.arrayOver (.object "Unmade$City")).before #[Value.ref b] s = true from hts _ (il_2 106 rfl))
  obtain ⟨p5, c5, k5, a51, a52, a53, a54, a55⟩ := arrayOverA_spec (show (Cond.arrayOver (.array .long)).before #[Value.ref b] s = true from hts _ (il_1 37 rfl))
  have e52 : p5 = c2 := Option.some.inj (a51.symm.trans a21)
  obtain ⟨ca, hca⟩ : ∃ ca : Nat → ClassId, ca = fun i => if i = 1 then c1 else if i = 2 then c2 else if i = 3 then c3 else if i = 4 then c4 else c5 := ⟨_, rfl⟩
  have g1 : ca 1 = c1 := by rw [hca]; rfl
  have g2 : ca 2 = c2 := by rw [hca]; rfl
  have g3 : ca 3 = c3 := by rw [hca]; rfl
  have g4 : ca 4 = c4 := by rw [hca]; rfl
  have g5 : ca 5 = c5 := by rw [hca]; rfl
  have hK : va_K D vwCl (tysOf ca) s := by
    refine ⟨hD, fun k q hk => ?_⟩
    unfold tysOf at hk
    rw [g1, g2, g3, g4, g5] at hk
    match k with
    | 0 => cases hk; exact ⟨a14, a11⟩
    | 1 => cases hk; exact ⟨a24, a21⟩
    | 2 => cases hk; exact ⟨a34, a31⟩
    | 3 => cases hk; exact ⟨fun n z => ⟨fun k h => (by cases h), k4, a43, p4, a44⟩, k4, p4, a43, a44, a41, a45⟩
    | 4 => cases hk; exact ⟨fun n z => ⟨fun k h => (by cases h), k5, a53, p5, a54⟩, a55⟩
    | n + 5 => cases hk
  obtain ⟨adK, adV, hv1, hv2⟩ := vk_Sof (args := #[Value.ref b]) (s := s) (N := 1) (tm := fun _ => Term.string "Unmade$Tokens" 19) (len := [130]) (byt := [kwByt]) (A := fun q => B < q) (fun i hi => by
      rw [show i = 0 by omega]; decide) (fun i hi => hfl _ (List.mem_of_getElem? (i := 9) (by decide +kernel))) (fun i hi => hfl _ (List.mem_of_getElem? (i := 10) (by decide +kernel))) (fun i hi => hfl _ (List.mem_of_getElem? (i := 11) (by decide +kernel))) (fun i hi => by
      rw [show i = 0 by omega]
      exact hfl _ (List.mem_of_getElem? (i := 12) (by decide +kernel))) (fun i hi j hj => by
      rw [show i = 0 by omega] at hj ⊢
      exact hfl _ (List.mem_of_getElem? (el_fl j hj))) (fun i j hi hj hij => absurd (show i = j by omega) hij) hA
  have hsx : SXt ca B (adK 0, adV 0) s := by
    refine ⟨va_AO.of (A := #[Value.ref b]) (hts _ (il_2 106 rfl)), ⟨k5, by rw [g5]; exact a53, by rw [g2, ← e52]; exact a54⟩, ⟨vk_R.of (A := #[Value.ref b]) (hts _ (il_1 59 rfl)) (hv2 0 (by decide)), ?_⟩, va_Zof (args := #[Value.ref b]) (hts _ (il_1 69 rfl)) (htG _ tN_J0) (va_eqt (hfl _ (List.mem_of_getElem? (i := 4) (by decide +kernel)))) hA, va_Zqof (args := #[Value.ref b]) (hts _ (il_1 85 rfl)) (htG _ tN_J3) (hfl _ (List.mem_of_getElem? (i := 5) (by decide +kernel))) hA⟩
    refine ⟨fun i hi => ?_, fun i j hi hj _ => by omega⟩
    have := hv1.1 i hi
    rw [show i = 0 by omega] at this ⊢
    exact this
  have C : Cx B D ca 4 RL code p s m #[Value.ref b] meth c := ⟨hx, hb, hml, hown, htG, hK, hlocks, by omega⟩
  have hl := lv_entry ([Value.ref b]) (n := 4) (Nat.le_of_ble_eq_true rfl)
  rw [lg_entry_eq]
  refine law_start (B := B) (b := b) (fr := 8) (lo := 290) (tx := (adK 0, adV 0)) (E := fun cells slots ks pc lv st σ => Ev B D ca Cn WT 4 p l e room_1 s m #[Value.ref b] below meth c cells slots (lw_Z below #[Value.ref b] s) ks pc lv st σ) (Zf := fun _ _ _ _ _ _ _ _ _ _ => True) ⟨D, ca, p, l, e, room_1, s, m, #[Value.ref b], below, meth, c, _, rfl, C, hsx, by decide, by decide, by decide, by decide, by omega, trivial⟩ (by decide) (by decide) ?_ s.heap [] _ ⟨fun k q h => absurd h (by simp [wsOf]), va_S.rf, trivial⟩ hl
  intro H locs ls hR hl2
  have C2 : Cy B (fun pc lv st σ => Ev B D ca CST WT 4 p l e room_1 s m #[Value.ref b] below meth c 118 31963 (lw_Z below #[Value.ref b] s) KS pc lv st σ) RL code 4 ret_law 44 1033 (Zl b L xs) := ⟨D, ca, p, l, e, room_1, s, m, #[Value.ref b], below, meth, c, 118, 31963, _, rfl, C, hr, by decide, by decide, ⟨by decide, by decide⟩, rfl, hX, by omega, hB, by decide, by decide, rfl, rfl⟩
  have hR2 : Rel B D ca CST WT KS s0L s.heap H locs := ⟨by rw [← ws_same cst_s0]; exact hR.1, hR.2.1, trivial⟩
  exact f_lv C2 [3, 2, 1, 0] rfl (s_L C2 s0L (law_loop hL inv00)) H locs ls hR2 hl2
