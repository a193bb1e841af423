/-! ===== making, rows ===== -/
section GRows
variable {B n0 : Nat} {tx : Nat × Nat} {E : Nat → Nat → List (Nat × Nat) → Nat → List (Nat × Value) → List Value → Sto → Prop} {own : String} {cc : ByteArray} {nL fr lo mc ms cells slots : Nat} {Zf : ZG} {ks : List (Nat × Nat)} {pc q : Nat} {lv : List (Nat × Value)} {st : List Value} {σ : Sto}
theorem g_callI (C : Cz B n0 tx E own cc nL fr lo mc ms Zf) {P : Sto → Prop} {y : MethodName} {bytes : ByteArray} {maxL idx f2 l2 mc2 ms2 a : Nat} {As : Nat → List Value} {st0 : List Value} {ks2 : List (Nat × Nat)} (hM : Ci y bytes maxL f2 l2 mc2 ms2 (fun B => .ref (B + a) :: As B) ks σ ks2 P) (hw1 : Cond.methodLink own idx y ∈ tbG) (hw2 : Cond.instanceMethod y ∈ tbG) (hw4 : Cond.initialized y.cls ∈ tbG) (hcode : Cond.code y bytes maxL none ∈ tbG) (hy : y.name = "<init>") (np : Nat) (hdd : y.cls ≠ "java/lang/invoke/MethodHandle" ∧ y.cls ≠ "java/lang/invoke/VarHandle" ∧ (parseMethodDescriptor y.desc).map (fun d => d.parameters.length) = some np) (hnp : (As B).length = np) (hf1 : f2 + 1 ≤ fr) (hf2 : 8 + (maxL + 11) + l2 ≤ lo) (hk : n0 + cells = ks.length) (hcs : cells + mc2 ≤ mc) (hsl : slots + ms2 ≤ ms) (hst : (As B).reverse ++ Value.ref (B + a) :: st = st0) (hw8 : (st.map fun v => v.category).sum ≤ 8) (hd : decode cc pc = .ok (.invokespecial idx, 3)) (hq : pc + 3 = q) (k : ∀ (σ2 : Sto), P σ2 → E (cells + mc2) (slots + ms2) ks2 q lv st σ2) : E cells slots ks pc lv st0 σ := by
  obtain ⟨D, ca, p, l, e, R, s, m, args, below, meth, c, Q, rfl, C, hX, hfr, hlo, hmc, hms, hs, hZ⟩ := C
  intro H locs ls hR hl T' hT X'
  have hH := ev_size C hs hk hR hT X'
  subst hq
  have hpre : PreS s H (va_Pc (.ref (B + a) :: As B) (fun U => Inz B D ca ks σ U ∧ SXt ca B tx U)) (.ref (B + a) :: As B) := ⟨fun a U g mk h => ⟨h.1, h.2.1, h.2.2.same rfl rfl⟩, fun U hU hW => ⟨rfl, ⟨by rw [hU]; exact hR.1, va_K.moved hW.alike C.2.2.2.2.2.1, by rw [hU]; exact hH⟩, hX.mv hW (by rw [hU]; exact hR.2.1.2.1)⟩⟩
  have hrun := va_runI (Ts := tbG) (rest := st) (As := As B) (b := B + a) (H := H) (locs := locs) (cells := cells) (slots := slots) (g := F0 m pc ls st0) (l := l) (R := R) (e := e) (below := below) (meth := meth) ⟨C.1, C.2.1, C.2.2.1, C.2.2.2.1, C.2.2.2.2.1⟩ (hM l B D ca tx) (cwI np C.2.2.2.2.1 (gin_tbW hcode) rfl rfl rfl (C.2.2.2.2.1 _ hw4) (C.2.2.2.2.1 _ hw1) (C.2.2.2.2.1 _ hw2) hy hdd ⟨Nat.le_trans hf1 hfr, Nat.le_trans hf2 hlo⟩) hpre rfl hnp hl.1 hst.symm (lv_room hw8) hd ⟨by omega, by omega⟩
  suffices key : W p l e R s m args below meth c H locs cells slots Q (F0 m pc ls st0) from key T' hT X'
  refine va_callv hrun hR.2.1 (fun q _ h => h) (fun q h => h) ?_
  intro u t H1 locs1 ht hvm hp hB _ _ hS1
  obtain ⟨hB1, hB2, hB3⟩ := hB
  rw [ht] at hB1
  exact k u hp H1 locs1 ls ⟨hB1, hS1, trivial⟩ hl
theorem g_callSi (C : Cz B n0 tx E own cc nL fr lo mc ms Zf) {P : Sto → Prop} {y : MethodName} {bytes : ByteArray} {maxL idx f2 l2 mc2 ms2 : Nat} {As : Nat → List Value} {st0 : List Value} {ks2 : List (Nat × Nat)} (hM : Ci y bytes maxL f2 l2 mc2 ms2 As ks σ ks2 P) (hw1 : Cond.methodLink own idx y ∈ tbG) (hw2 : Cond.static y ∈ tbG) (hw4 : Cond.initialized y.cls ∈ tbG) (hcode : Cond.code y bytes maxL none ∈ tbG) (np : Nat) (hdd : y.cls ≠ "java/lang/invoke/MethodHandle" ∧ y.cls ≠ "java/lang/invoke/VarHandle" ∧ (parseMethodDescriptor y.desc).map (fun d => d.parameters.length) = some np) (hnp : (As B).length = np) (hf1 : f2 + 1 ≤ fr) (hf2 : 8 + (maxL + 11) + l2 ≤ lo) (hk : n0 + cells = ks.length) (hcs : cells + mc2 ≤ mc) (hsl : slots + ms2 ≤ ms) (hst : (As B).reverse ++ st = st0) (hw8 : (st.map fun v => v.category).sum ≤ 8) (hd : decode cc pc = .ok (.invokestatic idx, 3)) (hq : pc + 3 = q) (k : ∀ (σ2 : Sto), P σ2 → E (cells + mc2) (slots + ms2) ks2 q lv st σ2) : E cells slots ks pc lv st0 σ := by
  obtain ⟨D, ca, p, l, e, R, s, m, args, below, meth, c, Q, rfl, C, hX, hfr, hlo, hmc, hms, hs, hZ⟩ := C
  intro H locs ls hR hl T' hT X'
  have hH := ev_size C hs hk hR hT X'
  subst hq
  have hpre : PreS s H (va_Pc (As B) (fun U => Inz B D ca ks σ U ∧ SXt ca B tx U)) (As B) := ⟨fun a U g mk h => ⟨h.1, h.2.1, h.2.2.same rfl rfl⟩, fun U hU hW => ⟨rfl, ⟨by rw [hU]; exact hR.1, va_K.moved hW.alike C.2.2.2.2.2.1, by rw [hU]; exact hH⟩, hX.mv hW (by rw [hU]; exact hR.2.1.2.1)⟩⟩
  have hrun := va_runS (Ts := tbG) (rest := st) (As := As B) (H := H) (locs := locs) (cells := cells) (slots := slots) (g := F0 m pc ls st0) (l := l) (R := R) (e := e) (below := below) (meth := meth) ⟨C.1, C.2.1, C.2.2.1, C.2.2.2.1, C.2.2.2.2.1⟩ (hM l B D ca tx) (va_cwS np C.2.2.2.2.1 (fun w hw => (List.mem_append.mp hw).elim (fun hw => by rcases List.mem_cons.mp hw with rfl | hw; exact gin_one hw1; rcases List.mem_cons.mp hw with rfl | hw; exact gin_one hw2; rcases List.mem_cons.mp hw with rfl | hw; exact gin_one hw4; cases hw) (gin_tbW hcode w)) rfl rfl rfl hdd ⟨Nat.le_trans hf1 hfr, Nat.le_trans hf2 hlo⟩) hpre rfl hnp hl.1 hst.symm (lv_room hw8) hd ⟨by omega, by omega⟩
  suffices key : W p l e R s m args below meth c H locs cells slots Q (F0 m pc ls st0) from key T' hT X'
  refine va_callv hrun hR.2.1 (fun q _ h => h) (fun q h => h) ?_
  intro u t H1 locs1 ht hvm hp hB _ _ hS1
  obtain ⟨hB1, hB2, hB3⟩ := hB
  rw [ht] at hB1
  exact k u hp H1 locs1 ls ⟨hB1, hS1, trivial⟩ hl
theorem g_vret {nm : Bool} {P : Sto → Prop} {ks2 : List (Nat × Nat)} (C : Cz B n0 tx E own cc nL fr lo mc ms (Zi nm mc ms ks2 P)) (hks : ks = ks2) (hcs : cells ≤ mc) (hsl : slots ≤ ms) (hk : n0 + cells = ks.length) (hd : decode cc pc = .ok (.return_, 1)) (h : P σ) : E cells slots ks pc lv [] σ := by
  obtain ⟨D, ca, p, l, e, R, s, m, args, below, meth, c, Q, rfl, C, hX, hfr, hlo, hmc, hms, hs, hZ⟩ := C
  obtain ⟨-, hr, rfl⟩ := hZ
  subst hks
  intro H locs ls hR hl T' hT X'
  have hH := ev_size C hs hk hR hT X'
  suffices key : W p l e R s m args below meth c H locs cells slots (MQ below (va_Qv P (fun σ2 t => Inz B D ca ks σ2 t) (fun q => B < q)) args s mc ms (fun q => B < q)) (F0 m pc ls []) from key T' hT X'
  exact W.widen hcs hsl (W.vret C.1 C.2.1 hr (fun t ht hW => ⟨⟨σ, rfl, h, by rw [ht]; exact hR.1, va_K.moved hW.alike C.2.2.2.2.2.1, by rw [ht]; exact hH⟩, hR.2.1.F ht⟩) hR.2.1.2.2 hd C.2.2.2.2.2.2.1)
end GRows

/-- a maker's contract out of a walk -/
theorem Ci.of (nm : Bool) {y : MethodName} {cc : ByteArray} {n fr lo mc ms : Nat} {As : Nat → List Value} {σ : Sto} {ks ks2 : List (Nat × Nat)} {P : Sto → Prop} (hy : plainName y.cls = true) (hn : nm = true → y.name = "<init>") (hlen : ∀ B, (lg_sl (As B)).length ≤ n)
    (body : ∀ (B : Nat) (tx : Nat × Nat) (E : Nat → Nat → List (Nat × Nat) → Nat → List (Nat × Value) → List Value → Sto → Prop), Cz B ks.length tx E y.cls cc n fr lo mc ms (Zi nm mc ms ks2 P) → E 0 0 ks 0 (lv_args 0 (As B)) [] σ) : Ci y cc n fr lo mc ms As ks σ ks2 P := by
  intro l B D ca tx
  refine Met.ofW (cc := cc) (maxL := n) (ret := none) hy rfl ?_
  intro p e s m args below meth c s₁ Bd hml hv
  obtain ⟨rfl, ⟨hP, hK, hsz⟩, hX⟩ := hv
  have hts := atoms_spec (ws := tbW y cc n none) Bd.pre
  have hown : s.vm.findClass y.cls = some m.cls := findClass_of_methodNamed Bd.named
  have hin : nm = true → meth.name = "<init>" := fun q => (name_of_methodNamed Bd.named Bd.method).1.trans (hn q)
  have hl := lv_entry (As B) (n := n) (hlen B)
  have C : Cx B D ca n y.cls cc p s m (As B).toArray meth c := ⟨Bd.exec, Bd.bytes, hml, hown, fun w hw => hts w (List.mem_cons_of_mem _ hw), hK, Bd.notSynchronized, by omega⟩
  rw [lg_entry_eq]
  exact body B tx _ ⟨D, ca, p, l, e, _, s, m, _, below, meth, c, _, rfl, C, hX, Nat.le_refl _, Nat.le_refl _, Nat.le_refl _, Nat.le_refl _, hsz, hin, Bd.returns, rfl⟩ s.heap [] _ ⟨hP, va_S.rf, trivial⟩ hl
