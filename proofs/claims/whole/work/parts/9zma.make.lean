/-! ===== making: the judgement with exact cells ===== -/
def Cn (_ _ : Nat) : Option Nat := none
def ZA (σ : Sto) (a : Nat) : Prop := ∀ k, gi σ a k = 0 ∧ gl σ a k = 0 ∧ gr σ a k = 0
def kwText : String := "thing worth exempt makes from work needs voter hates ahead law year unmake remake spare joke when stands done votes loop end stop "
def kwByt : List Int32 := [116, 104, 105, 110, 103, 32, 119, 111, 114, 116, 104, 32, 101, 120, 101, 109, 112, 116, 32, 109, 97, 107, 101, 115, 32, 102, 114, 111, 109, 32, 119, 111, 114, 107, 32, 110, 101, 101, 100, 115, 32, 118, 111, 116, 101, 114, 32, 104, 97, 116, 101, 115, 32, 97, 104, 101, 97, 100, 32, 108, 97, 119, 32, 121, 101, 97, 114, 32, 117, 110, 109, 97, 107, 101, 32, 114, 101, 109, 97, 107, 101, 32, 115, 112, 97, 114, 101, 32, 106, 111, 107, 101, 32, 119, 104, 101, 110, 32, 115, 116, 97, 110, 100, 115, 32, 100, 111, 110, 101, 32, 118, 111, 116, 101, 115, 32, 108, 111, 111, 112, 32, 101, 110, 100, 32, 115, 116, 111, 112, 32]
/-- what the makers need of the start: the class of city arrays, of rows of rows, the text of the keywords, two statics -/
def SXt (ca : Nat → ClassId) (B : Nat) (tx : Nat × Nat) (U : State) : Prop :=
  va_AO "Unmade$City" U ∧ (∃ kA : Class, U.vm.classes[ca 5]? = some kA ∧ kA.kind = .array (ca 2) (.array .long)) ∧ (vk_R "Unmade$Tokens" 19 kwText tx.1 U ∧ vk_S 1 [130] [kwByt] (fun _ => tx.1) (fun _ => tx.2) (fun q => B < q) U U.heap) ∧
  va_Z "java/lang/String" "COMPACT_STRINGS" "Z" (.int 1) (fun q => B < q) U U.heap ∧ va_Zq "jdk/internal/util/Preconditions" "SIOOBE_FORMATTER" "Ljava/util/function/BiFunction;" (fun q => B < q) U U.heap
theorem SXt.mv {ca : Nat → ClassId} {B : Nat} {tx : Nat × Nat} {u U : State} (h : SXt ca B tx u) (hW : u.WarmedH U.vm) (hq : ∀ a : Nat, a < u.heap.size → ¬ B < a → U.heap[a]? = u.heap[a]?) : SXt ca B tx U := by
  obtain ⟨h1, ⟨kA, g1, g2⟩, ⟨k1, k2⟩, h4, h5⟩ := h
  have hal := hW.alike
  obtain ⟨k', g3, g4⟩ := hal.2.2 _ _ g1
  exact ⟨va_AO.moved hal h1, ⟨k', g3, by rw [g4]; exact g2⟩, ⟨vk_R.warm hW k1, (vk_S.moved hal k2).kept hq⟩, (va_Z.moved hal h4).kept hq, (va_Zq.moved hal h5).kept hq⟩
theorem SXt.same {ca : Nat → ClassId} {B : Nat} {tx : Nat × Nat} {u U : State} (h : SXt ca B tx u) (hv : U.vm = u.vm) (hh : U.heap = u.heap) : SXt ca B tx U := by
  obtain ⟨h1, ⟨kA, g1, g2⟩, ⟨k1, k2⟩, h4, h5⟩ := h
  have hal : u.vm.Alike U.vm := by rw [hv]; exact Vm.Alike.refl u.vm
  have hq : ∀ a : Nat, a < u.heap.size → ¬ B < a → U.heap[a]? = u.heap[a]? := fun a _ _ => by rw [hh]
  exact ⟨va_AO.moved hal h1, ⟨kA, by rw [hv]; exact g1, g2⟩, ⟨vk_R.same hv k1, (vk_S.moved hal k2).kept hq⟩, (va_Z.moved hal h4).kept hq, (va_Zq.moved hal h5).kept hq⟩
theorem SXt.nr {ca : Nat → ClassId} {B B2 : Nat} {tx : Nat × Nat} {U : State} (h : SXt ca B tx U) (hB : B ≤ B2) : SXt ca B2 tx U := by
  obtain ⟨h1, h2, ⟨k1, k2⟩, h4, h5⟩ := h
  have hn : ∀ q, B2 < q → B < q := fun q hq => by omega
  exact ⟨h1, h2, ⟨k1, k2.narrow hn⟩, h4.narrow hn, h5.narrow hn⟩
abbrev ZG : Type := Nat → va_G → (Nat → ClassId) → Program → Room → State → Array Value → List Frame → Method → (State → Prop) → Prop
def Cz (B n0 : Nat) (tx : Nat × Nat) (E : Nat → Nat → List (Nat × Nat) → Nat → List (Nat × Value) → List Value → Sto → Prop) (own : String) (cc : ByteArray) (nL fr lo mc ms : Nat) (Zf : ZG) : Prop :=
  ∃ (D : va_G) (ca : Nat → ClassId) (p : Program) (l : Launch) (e : Env) (R : Room) (s : State) (m : MethodId) (args : Array Value) (below : List Frame) (meth : Method) (c : Code) (Q : State → Prop),
    E = (fun cells slots ks pc lv st σ => Ev B D ca Cn WT nL p l e R s m args below meth c cells slots Q ks pc lv st σ) ∧ Cx B D ca nL own cc p s m args meth c ∧ SXt ca B tx s ∧ fr ≤ R.frames ∧ lo ≤ R.locals ∧ mc ≤ R.cells ∧ ms ≤ R.slots ∧ s.heap.size = B + n0 + 1 ∧ Zf B D ca p R s args below meth Q
/-- the world of a maker: exact in its size -/
def Inz (B : Nat) (D : va_G) (ca : Nat → ClassId) (ks : List (Nat × Nat)) (σ : Sto) (U : State) : Prop := va_P D vwCl (wsOf B ca Cn ks σ) U.heap ∧ va_K D vwCl (tysOf ca) U ∧ U.heap.size = B + ks.length + 1
/-- the contract of a maker -/
def Ci (y : MethodName) (cc : ByteArray) (n fr lo mc ms : Nat) (As : Nat → List Value) (ks : List (Nat × Nat)) (σ : Sto) (ks2 : List (Nat × Nat)) (P : Sto → Prop) : Prop :=
  ∀ (l : Launch) (B : Nat) (D : va_G) (ca : Nat → ClassId) (tx : Nat × Nat), Met l y (tbW y cc n none) { frames := fr, cells := mc, slots := ms, locals := lo } (va_Pc (As B) (fun U => Inz B D ca ks σ U ∧ SXt ca B tx U)) (va_Qv P (fun σ2 t => Inz B D ca ks2 σ2 t) (fun q => B < q)) mc ms (fun q => B < q)
/-- a maker's own -/
def Zi (nm : Bool) (mc ms : Nat) (ks2 : List (Nat × Nat)) (P : Sto → Prop) : ZG := fun B D ca _ _ s args below meth Q => (nm = true → meth.name = "<init>") ∧ meth.sig.returnType = none ∧ Q = MQ below (va_Qv P (fun σ2 t => Inz B D ca ks2 σ2 t) (fun q => B < q)) args s mc ms (fun q => B < q)
theorem wsOf_app {B : Nat} {ca : Nat → ClassId} {cst : Nat → Nat → Option Nat} {ks : List (Nat × Nat)} {σ : Sto} {kd : Nat × Nat} : wsOf B ca cst (ks ++ [kd]) σ = wsOf B ca cst ks σ ++ [(B + (ks.length + 1), cE B ca cst σ kd (ks.length + 1))] := by
  apply List.ext_getElem?
  intro j
  rcases Nat.lt_trichotomy j ks.length with h | h | h
  · have e1 : ks[j]? = some ks[j] := List.getElem?_eq_getElem h
    rw [List.getElem?_append_left (by rw [wsOf_len]; exact h), wsOf_at e1]
    exact wsOf_at (by rw [List.getElem?_append_left h]; exact e1)
  · subst h
    rw [List.getElem?_append_right (by rw [wsOf_len]; exact Nat.le_refl _), wsOf_len, Nat.sub_self, wsOf_at (kd := kd) (by simp)]
    rfl
  · rw [wsOf_none (by rw [List.getElem?_eq_none_iff]; simp; omega), List.getElem?_eq_none_iff.mpr (by rw [List.length_append, wsOf_len]; simp; omega)]
theorem va_P.one {D : va_G} {cl : List vw_C} {q : Nat × va_E} {H : Heap} (h : va_at D cl q H) : va_P D cl [q] H := fun k x hx => by
  have hz : k < 1 := (List.getElem?_eq_some_iff.mp hx).1
  rw [show k = 0 by omega] at hx
  cases hx
  exact h
theorem Rel.push {B : Nat} {D : va_G} {ca : Nat → ClassId} {ks : List (Nat × Nat)} {σ : Sto} {H0 H H1 : Heap} {locs : List Loc} {kd : Nat × Nat} (hR : Rel B D ca Cn WT ks σ H0 H locs) (hH : H.size = B + ks.length + 1) (z1 : H1.size = B + ks.length + 1 + 1) (o1 : ∀ q, q < B + ks.length + 1 → H1[q]? = H[q]?) (h : va_at D vwCl (B + (ks.length + 1), cE B ca Cn σ kd (ks.length + 1)) H1) : Rel B D ca Cn WT (ks ++ [kd]) σ H0 H1 locs := by
  have h0 := hR.2.1.1
  refine ⟨?_, ⟨by omega, fun x h1 h2 => (o1 x (by omega)).trans (hR.2.1.2.1 x h1 h2), hR.2.1.2.2⟩, trivial⟩
  rw [wsOf_app]
  exact (hR.1.kept (fun k x hx => o1 x.1 (by rw [← hH]; exact (hR.1 k x hx).lt))).app (va_P.one h)
theorem tA_long : Cond.arrayClass .long ∈ tbG := in_1 51 rfl rfl
theorem tA_int : Cond.arrayClass .int ∈ tbG := in_1 52 rfl rfl
theorem tA_byte : Cond.arrayClass .byte ∈ tbG := in_1 150 rfl rfl
theorem tO_inst : Cond.instanceMethod objectInit ∈ tbG := in_1 28 rfl rfl
theorem tO_code : Cond.code objectInit ⟨#[0xb1]⟩ 1 none ∈ tbG := in_1 29 rfl rfl
theorem ev_size {B n0 : Nat} {D : va_G} {ca : Nat → ClassId} {nL : Nat} {own : String} {cc : ByteArray} {p : Program} {l : Launch} {e : Env} {R : Room} {s : State} {m : MethodId} {args : Array Value} {below : List Frame} {meth : Method} {c : Code} {cells slots : Nat} {ks : List (Nat × Nat)} {σ : Sto} {H : Heap} {T : State} {locs : List Loc} (_ : Cx B D ca nL own cc p s m args meth c) (hs : s.heap.size = B + n0 + 1) (hk : n0 + cells = ks.length) (hR : Rel B D ca Cn WT ks σ s.heap H locs) (hT : T.heap = H) (X : Stand p l e R s m args below meth c T locs cells slots) : H.size = B + ks.length + 1 := by
  have h1 := X.heapSize
  rw [hT, hs] at h1
  have h2 : B + ks.length + 1 ≤ H.size := by
    by_cases h0 : ks.length = 0
    · have := hR.2.1.1
      omega
    · have hk2 : ks[ks.length - 1]? = some (ks[ks.length - 1]'(by omega)) := List.getElem?_eq_getElem _
      have h3 : B + (ks.length - 1 + 1) < H.size := (hR.1 (ks.length - 1) _ (wsOf_at hk2)).lt
      omega
  omega
