/-! ===== the text of the keywords: length, charAt ===== -/
def Zs : Sto := (fun _ _ => 0, fun _ _ => 0, fun _ _ => 0)
def Zq (ret : Option FieldType) (r : Int32) : ZG := fun B _ _ _ _ s args below meth Q => meth.sig.returnType = ret ∧ Q = MQ below (va_Qi (fun (x : Int32) (_ : Unit) => x = r) (fun _ _ => True) (fun q => B < q)) args s 0 0 (fun q => B < q)
def Zv : ZG := fun B _ _ _ _ s args below meth Q => meth.sig.returnType = none ∧ Q = MQ below (va_Qv (fun (_ : Unit) => True) (fun _ _ => True) (fun q => B < q)) args s 0 0 (fun q => B < q)
/-- the contract of a method that only reads the text, and answers r -/
def Cq (y : MethodName) (cc : ByteArray) (n : Nat) (ret : Option FieldType) (fr lo : Nat) (As : Nat × Nat → List Value) (r : Int32) : Prop :=
  ∀ (l : Launch) (B : Nat) (D : va_G) (ca : Nat → ClassId) (tx : Nat × Nat), Met l y (tbW y cc n ret) { frames := fr, cells := 0, slots := 0, locals := lo } (va_Pc (As tx) (fun U => Inz B D ca [] Zs U ∧ SXt ca B tx U)) (va_Qi (fun (x : Int32) (_ : Unit) => x = r) (fun _ _ => True) (fun q => B < q)) 0 0 (fun q => B < q)
def Cv (y : MethodName) (cc : ByteArray) (n : Nat) (fr lo : Nat) (As : Nat × Nat → List Value) : Prop :=
  ∀ (l : Launch) (B : Nat) (D : va_G) (ca : Nat → ClassId) (tx : Nat × Nat), Met l y (tbW y cc n none) { frames := fr, cells := 0, slots := 0, locals := lo } (va_Pc (As tx) (fun U => Inz B D ca [] Zs U ∧ SXt ca B tx U)) (va_Qv (fun (_ : Unit) => True) (fun _ _ => True) (fun q => B < q)) 0 0 (fun q => B < q)
theorem Cq.of {y : MethodName} {cc : ByteArray} {n fr lo : Nat} {ret : Option FieldType} {As : Nat × Nat → List Value} {r : Int32} (hy : plainName y.cls = true) (hlen : ∀ tx, (lg_sl (As tx)).length ≤ n)
    (body : ∀ (B : Nat) (tx : Nat × Nat) (E : Nat → Nat → List (Nat × Nat) → Nat → List (Nat × Value) → List Value → Sto → Prop), Cz B 0 tx E y.cls cc n fr lo 0 0 (Zq ret r) → E 0 0 [] 0 (lv_args 0 (As tx)) [] Zs) : Cq y cc n ret fr lo As r := by
  intro l B D ca tx
  refine Met.ofW (cc := cc) (maxL := n) (ret := ret) hy rfl ?_
  intro p e s m args below meth c s₁ Bd hml hv
  obtain ⟨rfl, ⟨hP, hK, hsz⟩, hX⟩ := hv
  have hts := atoms_spec (ws := tbW y cc n ret) Bd.pre
  have hown : s.vm.findClass y.cls = some m.cls := findClass_of_methodNamed Bd.named
  have hl := lv_entry (As tx) (n := n) (hlen tx)
  have C : Cx B D ca n y.cls cc p s m (As tx).toArray meth c := ⟨Bd.exec, Bd.bytes, hml, hown, fun w hw => hts w (List.mem_cons_of_mem _ hw), hK, Bd.notSynchronized, by simp at hsz; omega⟩
  rw [lg_entry_eq]
  exact body B tx _ ⟨D, ca, p, l, e, _, s, m, _, below, meth, c, _, rfl, C, hX, Nat.le_refl _, Nat.le_refl _, Nat.le_refl _, Nat.le_refl _, hsz, Bd.returns, rfl⟩ s.heap [] _ ⟨hP, va_S.rf, trivial⟩ hl
theorem Cv.of {y : MethodName} {cc : ByteArray} {n fr lo : Nat} {As : Nat × Nat → List Value} (hy : plainName y.cls = true) (hlen : ∀ tx, (lg_sl (As tx)).length ≤ n)
    (body : ∀ (B : Nat) (tx : Nat × Nat) (E : Nat → Nat → List (Nat × Nat) → Nat → List (Nat × Value) → List Value → Sto → Prop), Cz B 0 tx E y.cls cc n fr lo 0 0 Zv → E 0 0 [] 0 (lv_args 0 (As tx)) [] Zs) : Cv y cc n fr lo As := by
  intro l B D ca tx
  refine Met.ofW (cc := cc) (maxL := n) (ret := none) hy rfl ?_
  intro p e s m args below meth c s₁ Bd hml hv
  obtain ⟨rfl, ⟨hP, hK, hsz⟩, hX⟩ := hv
  have hts := atoms_spec (ws := tbW y cc n none) Bd.pre
  have hown : s.vm.findClass y.cls = some m.cls := findClass_of_methodNamed Bd.named
  have hl := lv_entry (As tx) (n := n) (hlen tx)
  have C : Cx B D ca n y.cls cc p s m (As tx).toArray meth c := ⟨Bd.exec, Bd.bytes, hml, hown, fun w hw => hts w (List.mem_cons_of_mem _ hw), hK, Bd.notSynchronized, by simp at hsz; omega⟩
  rw [lg_entry_eq]
  exact body B tx _ ⟨D, ca, p, l, e, _, s, m, _, below, meth, c, _, rfl, C, hX, Nat.le_refl _, Nat.le_refl _, Nat.le_refl _, Nat.le_refl _, hsz, Bd.returns, rfl⟩ s.heap [] _ ⟨hP, va_S.rf, trivial⟩ hl
section QRows
variable {B n0 : Nat} {tx : Nat × Nat} {E : Nat → Nat → List (Nat × Nat) → Nat → List (Nat × Value) → List Value → Sto → Prop} {own : String} {cc : ByteArray} {nL fr lo mc ms cells slots : Nat} {Zf : ZG} {ks : List (Nat × Nat)} {pc q : Nat} {lv : List (Nat × Value)} {st : List Value} {σ : Sto}
theorem g_iretq {ty : FieldType} {r : Int32} (C : Cz B n0 tx E own cc nL fr lo 0 0 (Zq (some ty) r)) (hn : narrow ty (.int r) = .int r) (hd : decode cc pc = .ok (.ireturn, 1)) : E 0 0 ks pc lv [.int r] σ := by
  obtain ⟨D, ca, p, l, e, R, s, m, args, below, meth, c, Q, rfl, C, hX, hfr, hlo, hmc, hms, hs, hZ⟩ := C
  obtain ⟨hr, rfl⟩ := hZ
  intro H locs ls hR hl
  exact W.zret C.1 C.2.1 hr hn (fun t ht hW => ⟨⟨r, (), rfl, rfl, trivial⟩, hR.2.1.F ht⟩) hR.2.1.2.2 hd C.2.2.2.2.2.2.1
theorem g_vretq (C : Cz B n0 tx E own cc nL fr lo 0 0 Zv) (hd : decode cc pc = .ok (.return_, 1)) : E 0 0 ks pc lv [] σ := by
  obtain ⟨D, ca, p, l, e, R, s, m, args, below, meth, c, Q, rfl, C, hX, hfr, hlo, hmc, hms, hs, hZ⟩ := C
  obtain ⟨hr, rfl⟩ := hZ
  intro H locs ls hR hl
  exact W.vret C.1 C.2.1 hr (fun t ht hW => ⟨⟨(), rfl, trivial, trivial⟩, hR.2.1.F ht⟩) hR.2.1.2.2 hd C.2.2.2.2.2.2.1
theorem g_cs (C : Cz B n0 tx E own cc nL fr lo mc ms Zf) {idx : Nat} (hw : Cond.fieldLink own idx "java/lang/String" "COMPACT_STRINGS" "Z" ∈ tbG) (hd : decode cc pc = .ok (.getstatic idx, 3)) (hq : pc + 3 = q) (k : E cells slots ks q lv (.int 1 :: st) σ) : E cells slots ks pc lv st σ := by
  obtain ⟨D, ca, p, l, e, R, s, m, args, below, meth, c, Q, rfl, C, hX, hfr, hlo, hmc, hms, hs, hZ⟩ := C
  intro H locs ls hR hl
  subst hq
  exact va_gets C.1 C.2.1 hX.2.2.2.1 hR.2.1 C.2.2.2.1 (C.2.2.2.2.1 _ hw) (fun x h => h) hd (k H locs ls hR hl)
theorem g_sio (C : Cz B n0 tx E own cc nL fr lo mc ms Zf) {idx : Nat} (hw : Cond.fieldLink own idx "jdk/internal/util/Preconditions" "SIOOBE_FORMATTER" "Ljava/util/function/BiFunction;" ∈ tbG) (hd : decode cc pc = .ok (.getstatic idx, 3)) (hq : pc + 3 = q) (k : ∀ v : Value, v = .null ∨ (∃ t, v = .ref t) → E cells slots ks q lv (v :: st) σ) : E cells slots ks pc lv st σ := by
  obtain ⟨D, ca, p, l, e, R, s, m, args, below, meth, c, Q, rfl, C, hX, hfr, hlo, hmc, hms, hs, hZ⟩ := C
  intro H locs ls hR hl
  subst hq
  rcases hX.2.2.2.2 with h | ⟨t, h⟩
  · exact va_gets C.1 C.2.1 h hR.2.1 C.2.2.2.1 (C.2.2.2.2.1 _ hw) (fun x h => h) hd (k _ (Or.inl rfl) H locs ls hR hl)
  · exact va_gets C.1 C.2.1 h hR.2.1 C.2.2.2.1 (C.2.2.2.2.1 _ hw) (fun x h => h) hd (k _ (Or.inr ⟨t, rfl⟩) H locs ls hR hl)
theorem g_cod (C : Cz B n0 tx E own cc nL fr lo mc ms Zf) {idx : Nat} (hw : Cond.fieldLink own idx "java/lang/String" "coder" "B" ∈ tbG) (hd : decode cc pc = .ok (.getfield idx, 3)) (hq : pc + 3 = q) (k : E cells slots ks q lv (.int 0 :: st) σ) : E cells slots ks pc lv (.ref tx.1 :: st) σ := by
  obtain ⟨D, ca, p, l, e, R, s, m, args, below, meth, c, Q, rfl, C, hX, hfr, hlo, hmc, hms, hs, hZ⟩ := C
  intro H locs ls hR hl
  subst hq
  exact vk_getf C.1 C.2.1 (hX.2.2.1.2.1 0 (by decide)).2.1 hR.2.1 C.2.2.2.1 (C.2.2.2.2.1 _ hw) (fun x h => h) hd (k H locs ls hR hl)
theorem g_val (C : Cz B n0 tx E own cc nL fr lo mc ms Zf) {idx : Nat} (hw : Cond.fieldLink own idx "java/lang/String" "value" "[B" ∈ tbG) (hd : decode cc pc = .ok (.getfield idx, 3)) (hq : pc + 3 = q) (k : E cells slots ks q lv (.ref tx.2 :: st) σ) : E cells slots ks pc lv (.ref tx.1 :: st) σ := by
  obtain ⟨D, ca, p, l, e, R, s, m, args, below, meth, c, Q, rfl, C, hX, hfr, hlo, hmc, hms, hs, hZ⟩ := C
  intro H locs ls hR hl
  subst hq
  exact vk_getf C.1 C.2.1 (hX.2.2.1.2.1 0 (by decide)).2.2.1 hR.2.1 C.2.2.2.1 (C.2.2.2.2.1 _ hw) (fun x h => h) hd (k H locs ls hR hl)
theorem g_tlen (C : Cz B n0 tx E own cc nL fr lo mc ms Zf) (hd : decode cc pc = .ok (.arraylength, 1)) (hq : pc + 1 = q) (k : E cells slots ks q lv (.int 130 :: st) σ) : E cells slots ks pc lv (.ref tx.2 :: st) σ := by
  obtain ⟨D, ca, p, l, e, R, s, m, args, below, meth, c, Q, rfl, C, hX, hfr, hlo, hmc, hms, hs, hZ⟩ := C
  intro H locs ls hR hl
  subst hq
  exact va_tlen C.1 C.2.1 (hX.2.2.1.2.1 0 (by decide)).2.2.2 hR.2.1 (by decide) hd (k H locs ls hR hl)
theorem g_tb (C : Cz B n0 tx E own cc nL fr lo mc ms Zf) {i : Int32} (hin : vp_in i 130) (hd : decode cc pc = .ok (.baload, 1)) (hq : pc + 1 = q) (k : E cells slots ks q lv (.int (kwByt.getD i.toNatClampNeg 0) :: st) σ) : E cells slots ks pc lv (.int i :: .ref tx.2 :: st) σ := by
  obtain ⟨D, ca, p, l, e, R, s, m, args, below, meth, c, Q, rfl, C, hX, hfr, hlo, hmc, hms, hs, hZ⟩ := C
  intro H locs ls hR hl
  subst hq
  exact va_tb C.1 C.2.1 (hX.2.2.1.2.1 0 (by decide)).2.2.2 hR.2.1 hin rfl hd (k H locs ls hR hl)
theorem g_i2c (C : Cz B n0 tx E own cc nL fr lo mc ms Zf) {x v : Int32} (hv : (x.toUInt32 % 65536).toInt32 = v) (hd : decode cc pc = .ok (.i2c, 1)) (hq : pc + 1 = q) (k : E cells slots ks q lv (.int v :: st) σ) : E cells slots ks pc lv (.int x :: st) σ := by
  obtain ⟨D, ca, p, l, e, R, s, m, args, below, meth, c, Q, rfl, C, hX, hfr, hlo, hmc, hms, hs, hZ⟩ := C
  intro H locs ls hR hl
  subst hq
  exact lv_i2c C.1 C.2.1 hd hv (k H locs ls hR hl)
theorem g_ldcS (C : Cz B n0 tx E "Unmade$Tokens" cc nL fr lo mc ms Zf) (hd : decode cc pc = .ok (.ldc 19, 2)) (hq : pc + 2 = q) (k : E cells slots ks q lv (.ref tx.1 :: st) σ) : E cells slots ks pc lv st σ := by
  obtain ⟨D, ca, p, l, e, R, s, m, args, below, meth, c, Q, rfl, C, hX, hfr, hlo, hmc, hms, hs, hZ⟩ := C
  intro H locs ls hR hl
  subst hq
  exact va_ldcS C.1 C.2.1 C.2.2.2.1 hX.2.2.1.1 hd (k H locs ls hR hl)
theorem g_callVq (C : Cz B n0 tx E own cc nL fr lo mc ms Zf) {y : MethodName} {bytes : ByteArray} {maxL idx f2 l2 : Nat} {r2 : Option FieldType} {r : Int32} {As : List Value} {st0 : List Value} (hM : Cq y bytes maxL r2 f2 l2 (fun tx => .ref tx.1 :: As) r) (hcl : "java/lang/String" = y.cls) (hw1 : Cond.methodLink own idx y ∈ tbG) (hw2 : Cond.instanceMethod y ∈ tbG) (hw3 : Cond.selects y.cls y y ∈ tbG) (hw4 : Cond.initialized y.cls ∈ tbG) (hcode : Cond.code y bytes maxL r2 ∈ tbG) (np : Nat) (hdd : y.cls ≠ "java/lang/invoke/MethodHandle" ∧ y.cls ≠ "java/lang/invoke/VarHandle" ∧ (parseMethodDescriptor y.desc).map (fun d => d.parameters.length) = some np) (hnp : As.length = np) (hf1 : f2 + 1 ≤ fr) (hf2 : 8 + (maxL + 11) + l2 ≤ lo) (hk : n0 + cells = ks.length) (hcs : cells ≤ mc) (hsl : slots ≤ ms) (hst : As.reverse ++ Value.ref tx.1 :: st = st0) (hw8 : (st.map fun v => v.category).sum ≤ 8) (hd : decode cc pc = .ok (.invokevirtual idx, 3)) (hq : pc + 3 = q) (k : E cells slots ks q lv (.int r :: st) σ) : E cells slots ks pc lv st0 σ := by
  obtain ⟨D, ca, p, l, e, R, s, m, args, below, meth, c, Q, rfl, C, hX, hfr, hlo, hmc, hms, hs, hZ⟩ := C
  intro H locs ls hR hl T' hT X'
  have hH := ev_size C hs hk hR hT X'
  subst hq
  have hrcv := vk_recv hX.2.2.1.2 (i := 0) (by decide) hR.2.1
  rw [hcl] at hrcv
  have hpre : PreV s H y.cls tx.1 (va_Pc (.ref tx.1 :: As) (fun U => Inz (H.size - 1) D ca [] Zs U ∧ SXt ca (H.size - 1) tx U)) As := ⟨fun a U g mk h => ⟨h.1, h.2.1, h.2.2.same rfl rfl⟩, hrcv, fun U hU hW => ⟨rfl, ⟨fun k q h => absurd h (by simp [wsOf]), va_K.moved hW.alike C.2.2.2.2.2.1, by rw [hU]; simp; omega⟩, (hX.mv hW (by rw [hU]; exact hR.2.1.2.1)).nr (by omega)⟩⟩
  have hrun := va_runV (Ts := tbG) (rest := st) (As := As) (H := H) (locs := locs) (cells := cells) (slots := slots) (g := F0 m pc ls st0) (l := l) (R := R) (e := e) (below := below) (meth := meth) ⟨C.1, C.2.1, C.2.2.1, C.2.2.2.1, C.2.2.2.2.1⟩ (hM l (H.size - 1) D ca tx) (cwV np C.2.2.2.2.1 (fun w hw => (List.mem_append.mp hw).elim (fun hw => by rcases List.mem_cons.mp hw with rfl | hw; exact gin_one hw1; rcases List.mem_cons.mp hw with rfl | hw; exact gin_one hw2; rcases List.mem_cons.mp hw with rfl | hw; exact gin_one hw3; rcases List.mem_cons.mp hw with rfl | hw; exact gin_one hw4; cases hw) (gin_tbW hcode w)) rfl rfl rfl ⟨rfl, hdd⟩ ⟨Nat.le_trans hf1 hfr, Nat.le_trans hf2 hlo⟩) hpre rfl hnp hl.1 hst.symm (lv_room hw8) hd ⟨by omega, by omega⟩
  suffices key : W p l e R s m args below meth c H locs cells slots Q (F0 m pc ls st0) from key T' hT X'
  refine va_calli hrun hR.2.1 (fun q h1 h2 => absurd h1 (by omega)) (fun q h => by omega) ?_
  intro r' u t H1 locs1 ht hvm hp hB hz1 hk1 hS1
  subst hp
  exact k H1 locs1 ls ⟨hR.1.kept (fun k x hx => hk1 x.1 (hR.1 k x hx).lt (by have := (hR.1 k x hx).lt; omega)), hS1, trivial⟩ hl
theorem g_callSq (C : Cz B n0 tx E own cc nL fr lo mc ms Zf) {y : MethodName} {bytes : ByteArray} {maxL idx f2 l2 : Nat} {r2 : Option FieldType} {r : Int32} {As : Nat × Nat → List Value} {st0 : List Value} (hM : Cq y bytes maxL r2 f2 l2 As r) (hw1 : Cond.methodLink own idx y ∈ tbG) (hw2 : Cond.static y ∈ tbG) (hw4 : Cond.initialized y.cls ∈ tbG) (hcode : Cond.code y bytes maxL r2 ∈ tbG) (np : Nat) (hdd : y.cls ≠ "java/lang/invoke/MethodHandle" ∧ y.cls ≠ "java/lang/invoke/VarHandle" ∧ (parseMethodDescriptor y.desc).map (fun d => d.parameters.length) = some np) (hnp : (As tx).length = np) (hf1 : f2 + 1 ≤ fr) (hf2 : 8 + (maxL + 11) + l2 ≤ lo) (hk : n0 + cells = ks.length) (hcs : cells ≤ mc) (hsl : slots ≤ ms) (hst : (As tx).reverse ++ st = st0) (hw8 : (st.map fun v => v.category).sum ≤ 8) (hd : decode cc pc = .ok (.invokestatic idx, 3)) (hq : pc + 3 = q) (k : E cells slots ks q lv (.int r :: st) σ) : E cells slots ks pc lv st0 σ := by
  obtain ⟨D, ca, p, l, e, R, s, m, args, below, meth, c, Q, rfl, C, hX, hfr, hlo, hmc, hms, hs, hZ⟩ := C
  intro H locs ls hR hl T' hT X'
  have hH := ev_size C hs hk hR hT X'
  subst hq
  have hpre : PreS s H (va_Pc (As tx) (fun U => Inz (H.size - 1) D ca [] Zs U ∧ SXt ca (H.size - 1) tx U)) (As tx) := ⟨fun a U g mk h => ⟨h.1, h.2.1, h.2.2.same rfl rfl⟩, fun U hU hW => ⟨rfl, ⟨fun k q h => absurd h (by simp [wsOf]), va_K.moved hW.alike C.2.2.2.2.2.1, by rw [hU]; simp; omega⟩, (hX.mv hW (by rw [hU]; exact hR.2.1.2.1)).nr (by omega)⟩⟩
  have hrun := va_runS (Ts := tbG) (rest := st) (As := As tx) (H := H) (locs := locs) (cells := cells) (slots := slots) (g := F0 m pc ls st0) (l := l) (R := R) (e := e) (below := below) (meth := meth) ⟨C.1, C.2.1, C.2.2.1, C.2.2.2.1, C.2.2.2.2.1⟩ (hM l (H.size - 1) D ca tx) (va_cwS np C.2.2.2.2.1 (fun w hw => (List.mem_append.mp hw).elim (fun hw => by rcases List.mem_cons.mp hw with rfl | hw; exact gin_one hw1; rcases List.mem_cons.mp hw with rfl | hw; exact gin_one hw2; rcases List.mem_cons.mp hw with rfl | hw; exact gin_one hw4; cases hw) (gin_tbW hcode w)) rfl rfl rfl hdd ⟨Nat.le_trans hf1 hfr, Nat.le_trans hf2 hlo⟩) hpre rfl hnp hl.1 hst.symm (lv_room hw8) hd ⟨by omega, by omega⟩
  suffices key : W p l e R s m args below meth c H locs cells slots Q (F0 m pc ls st0) from key T' hT X'
  refine va_calli hrun hR.2.1 (fun q h1 h2 => absurd h1 (by omega)) (fun q h => by omega) ?_
  intro r' u t H1 locs1 ht hvm hp hB hz1 hk1 hS1
  subst hp
  exact k H1 locs1 ls ⟨hR.1.kept (fun k x hx => hk1 x.1 (hR.1 k x hx).lt (by have := (hR.1 k x hx).lt; omega)), hS1, trivial⟩ hl
theorem g_callSv (C : Cz B n0 tx E own cc nL fr lo mc ms Zf) {y : MethodName} {bytes : ByteArray} {maxL idx f2 l2 : Nat} {As : Nat × Nat → List Value} {st0 : List Value} (hM : Cv y bytes maxL f2 l2 As) (hw1 : Cond.methodLink own idx y ∈ tbG) (hw2 : Cond.static y ∈ tbG) (hw4 : Cond.initialized y.cls ∈ tbG) (hcode : Cond.code y bytes maxL none ∈ tbG) (np : Nat) (hdd : y.cls ≠ "java/lang/invoke/MethodHandle" ∧ y.cls ≠ "java/lang/invoke/VarHandle" ∧ (parseMethodDescriptor y.desc).map (fun d => d.parameters.length) = some np) (hnp : (As tx).length = np) (hf1 : f2 + 1 ≤ fr) (hf2 : 8 + (maxL + 11) + l2 ≤ lo) (hk : n0 + cells = ks.length) (hcs : cells ≤ mc) (hsl : slots ≤ ms) (hst : (As tx).reverse ++ st = st0) (hw8 : (st.map fun v => v.category).sum ≤ 8) (hd : decode cc pc = .ok (.invokestatic idx, 3)) (hq : pc + 3 = q) (k : E cells slots ks q lv st σ) : E cells slots ks pc lv st0 σ := by
  obtain ⟨D, ca, p, l, e, R, s, m, args, below, meth, c, Q, rfl, C, hX, hfr, hlo, hmc, hms, hs, hZ⟩ := C
  intro H locs ls hR hl T' hT X'
  have hH := ev_size C hs hk hR hT X'
  subst hq
  have hpre : PreS s H (va_Pc (As tx) (fun U => Inz (H.size - 1) D ca [] Zs U ∧ SXt ca (H.size - 1) tx U)) (As tx) := ⟨fun a U g mk h => ⟨h.1, h.2.1, h.2.2.same rfl rfl⟩, fun U hU hW => ⟨rfl, ⟨fun k q h => absurd h (by simp [wsOf]), va_K.moved hW.alike C.2.2.2.2.2.1, by rw [hU]; simp; omega⟩, (hX.mv hW (by rw [hU]; exact hR.2.1.2.1)).nr (by omega)⟩⟩
  have hrun := va_runS (Ts := tbG) (rest := st) (As := As tx) (H := H) (locs := locs) (cells := cells) (slots := slots) (g := F0 m pc ls st0) (l := l) (R := R) (e := e) (below := below) (meth := meth) ⟨C.1, C.2.1, C.2.2.1, C.2.2.2.1, C.2.2.2.2.1⟩ (hM l (H.size - 1) D ca tx) (va_cwS np C.2.2.2.2.1 (fun w hw => (List.mem_append.mp hw).elim (fun hw => by rcases List.mem_cons.mp hw with rfl | hw; exact gin_one hw1; rcases List.mem_cons.mp hw with rfl | hw; exact gin_one hw2; rcases List.mem_cons.mp hw with rfl | hw; exact gin_one hw4; cases hw) (gin_tbW hcode w)) rfl rfl rfl hdd ⟨Nat.le_trans hf1 hfr, Nat.le_trans hf2 hlo⟩) hpre rfl hnp hl.1 hst.symm (lv_room hw8) hd ⟨by omega, by omega⟩
  suffices key : W p l e R s m args below meth c H locs cells slots Q (F0 m pc ls st0) from key T' hT X'
  refine va_callv hrun hR.2.1 (fun q h1 h2 => absurd h1 (by omega)) (fun q h => by omega) ?_
  intro u t H1 locs1 ht hvm hp hB hz1 hk1 hS1
  exact k H1 locs1 ls ⟨hR.1.kept (fun k x hx => hk1 x.1 (hR.1 k x hx).lt (by have := (hR.1 k x hx).lt; omega)), hS1, trivial⟩ hl
end QRows
