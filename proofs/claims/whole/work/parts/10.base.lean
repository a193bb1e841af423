/-- the words that every call may take along -/
def tbG : List Cond := lw_tbl.filter goodWord
theorem tg {w : Cond} (i : Nat) (h : lw_tbl[i]? = some w) (hg : goodWord w = true) : w ∈ tbG := List.mem_filter.mpr ⟨List.mem_of_getElem? h, hg⟩
/-! ===== the store: three planes (ints, longs, references) by address and slot ===== -/
abbrev Sto : Type := (Nat → Nat → Int32) × (Nat → Nat → Int64) × (Nat → Nat → Nat)
def gi (σ : Sto) (a k : Nat) : Int32 := σ.1 a k
def gl (σ : Sto) (a k : Nat) : Int64 := σ.2.1 a k
def gr (σ : Sto) (a k : Nat) : Nat := σ.2.2 a k
def si (σ : Sto) (a k : Nat) (v : Int32) : Sto := (fun x y => if x = a ∧ y = k then v else σ.1 x y, σ.2.1, σ.2.2)
def sl (σ : Sto) (a k : Nat) (v : Int64) : Sto := (σ.1, fun x y => if x = a ∧ y = k then v else σ.2.1 x y, σ.2.2)
def sr (σ : Sto) (a k : Nat) (v : Nat) : Sto := (σ.1, σ.2.1, fun x y => if x = a ∧ y = k then v else σ.2.2 x y)
/-- n numbers from place i of a on come to place j of b on -/
def cpi (σ : Sto) (a i b j n : Nat) : Sto := (fun x y => if x = b ∧ j ≤ y ∧ y < j + n then σ.1 a (i + (y - j)) else σ.1 x y, σ.2.1, σ.2.2)
def cpl (σ : Sto) (a i b j n : Nat) : Sto := (σ.1, fun x y => if x = b ∧ j ≤ y ∧ y < j + n then σ.2.1 a (i + (y - j)) else σ.2.1 x y, σ.2.2)
/-! ===== classes' field types, cells out of the store ===== -/
def fTy : Nat → Nat → FieldType := fun ci => match ci with
  | 0 => tyX0 | 1 => tyX1 | 2 => tyX2 | 3 => tyX3 | 4 => tyX4 | 5 => tyX5 | 6 => tyX6 | 7 => tyX7 | 8 => tyX8 | 9 => tyX9 | 10 => tyX10 | 11 => tyX11 | _ => tyX12
def fN : Nat → Nat := fun ci => match ci with
  | 0 => 5 | 1 => 16 | 2 => 3 | 3 => 6 | 4 => 4 | 5 => 7 | 6 => 4 | 7 => 8 | 8 => 5 | 9 => 11 | 10 => 3 | 11 => 20 | _ => 48
def ro (B r : Nat) : Option Nat := if r = 0 then none else some (B + r)
def rf (cst : Nat → Nat → Option Nat) (σ : Sto) (a k : Nat) : Nat := (cst a k).getD (gr σ a k)
def fpl (ty : FieldType) : Nat := match ty with
  | .long => 1 | .object _ => 2 | .array _ => 2 | _ => 0
def fv (B : Nat) (cst : Nat → Nat → Option Nat) (σ : Sto) (pl a k : Nat) : Value := match pl with
  | 0 => .int (gi σ a k) | 1 => .long (gl σ a k) | _ => va_rf (ro B (rf cst σ a k))
/-- what stands at address a, by its kind: (0, class), (1, n) ints, (2, n) longs, (3, n) bytes, (4, n) cities, (5, n) rows of longs -/
def cE (B : Nat) (ca : Nat → ClassId) (cst : Nat → Nat → Option Nat) (σ : Sto) (kd : Nat × Nat) (a : Nat) : va_E := match kd.1 with
  | 0 => .inr (kd.2, (List.range (fN kd.2)).map (fun k => fv B cst σ (fpl (fTy kd.2 k)) a k))
  | 1 => .inl (ca 1, kd.2, .inl (fun j => gi σ a j))
  | 2 => .inl (ca 2, kd.2, .inr (.inl (fun j => gl σ a j)))
  | 3 => .inl (ca 3, kd.2, .inl (fun j => gi σ a j))
  | 4 => .inl (ca 4, kd.2, .inr (.inr (.inr (.inr (fun j => ro B (rf cst σ a j))))))
  | _ => .inl (ca 5, kd.2, .inr (.inr (.inr (.inr (fun j => ro B (rf cst σ a j))))))
def wsOf (B : Nat) (ca : Nat → ClassId) (cst : Nat → Nat → Option Nat) (ks : List (Nat × Nat)) (σ : Sto) : va_W := (List.range ks.length).map (fun i => (B + (i + 1), cE B ca cst σ (ks.getD i (9, 0)) (i + 1)))
def tysOf (ca : Nat → ClassId) : List (ClassId × FieldType) := [(ca 1, .int), (ca 2, .long), (ca 3, .byte), (ca 4, .object "Unmade$City"), (ca 5, .array .long)]
theorem wsOf_at {B : Nat} {ca : Nat → ClassId} {cst : Nat → Nat → Option Nat} {ks : List (Nat × Nat)} {σ : Sto} {i : Nat} {kd : Nat × Nat} (h : ks[i]? = some kd) : (wsOf B ca cst ks σ)[i]? = some (B + (i + 1), cE B ca cst σ kd (i + 1)) := by
  have hl : i < ks.length := (List.getElem?_eq_some_iff.mp h).1
  unfold wsOf
  rw [List.getElem?_map, List.getElem?_range hl]
  simp [List.getD_eq_getElem?_getD, h]
theorem wsOf_none {B : Nat} {ca : Nat → ClassId} {cst : Nat → Nat → Option Nat} {ks : List (Nat × Nat)} {σ : Sto} {i : Nat} (h : ks[i]? = none) : (wsOf B ca cst ks σ)[i]? = none := by
  have hl : ks.length ≤ i := List.getElem?_eq_none_iff.mp h
  exact List.getElem?_eq_none_iff.mpr (by simp [wsOf]; exact hl)
theorem wsOf_get {B : Nat} {ca : Nat → ClassId} {cst : Nat → Nat → Option Nat} {ks : List (Nat × Nat)} {σ : Sto} {i : Nat} {q : Nat × va_E} (h : (wsOf B ca cst ks σ)[i]? = some q) : ∃ kd, ks[i]? = some kd ∧ q = (B + (i + 1), cE B ca cst σ kd (i + 1)) := by
  cases hk : ks[i]? with
  | none => rw [wsOf_none hk] at h; cases h
  | some kd => rw [wsOf_at hk] at h; exact ⟨kd, rfl, (Option.some.inj h).symm⟩
theorem wsOf_len {B : Nat} {ca : Nat → ClassId} {cst : Nat → Nat → Option Nat} {ks : List (Nat × Nat)} {σ : Sto} : (wsOf B ca cst ks σ).length = ks.length := by simp [wsOf]
theorem wsOf_D {B : Nat} {ca : Nat → ClassId} {cst : Nat → Nat → Option Nat} {ks : List (Nat × Nat)} {σ : Sto} : va_D (fun q => B < q) (wsOf B ca cst ks σ) := by
  refine ⟨fun i j p q hp hq e => ?_, fun k q hq => ?_⟩
  · obtain ⟨_, -, rfl⟩ := wsOf_get hp
    obtain ⟨_, -, rfl⟩ := wsOf_get hq
    have e : B + (i + 1) = B + (j + 1) := e
    omega
  · obtain ⟨_, -, rfl⟩ := wsOf_get hq
    show B < B + (k + 1)
    omega
theorem wsOf_set {B : Nat} {ca : Nat → ClassId} {cst : Nat → Nat → Option Nat} {ks : List (Nat × Nat)} {σ σ' : Sto} {i : Nat} {kd : Nat × Nat} {e : va_E} (h : ks[i]? = some kd) (he : cE B ca cst σ' kd (i + 1) = e) (ho : ∀ j kd', j ≠ i → cE B ca cst σ' kd' (j + 1) = cE B ca cst σ kd' (j + 1)) :
    (wsOf B ca cst ks σ).set i (B + (i + 1), e) = wsOf B ca cst ks σ' := by
  apply List.ext_getElem?
  intro j
  by_cases hj : j = i
  · subst hj
    rw [wsOf_at h, List.getElem?_set_self (by rw [wsOf_len]; exact (List.getElem?_eq_some_iff.mp h).1), he]
  · rw [List.getElem?_set_ne (fun q => hj q.symm)]
    cases hk : ks[j]? with
    | none => rw [wsOf_none hk, wsOf_none hk]
    | some kd' => rw [wsOf_at hk, wsOf_at hk, ho j kd' hj]
theorem cE_si {B : Nat} {ca : Nat → ClassId} {cst : Nat → Nat → Option Nat} {σ : Sto} {a k : Nat} {v : Int32} {kd : Nat × Nat} {x : Nat} (h : x ≠ a) : cE B ca cst (si σ a k v) kd x = cE B ca cst σ kd x := by
  have e1 : ∀ j, gi (si σ a k v) x j = gi σ x j := fun j => by simp [gi, si, h]
  have e2 : ∀ j, gl (si σ a k v) x j = gl σ x j := fun j => rfl
  have e3 : ∀ j, rf cst (si σ a k v) x j = rf cst σ x j := fun j => rfl
  simp only [cE, fv, e1, e2, e3]
theorem cE_sl {B : Nat} {ca : Nat → ClassId} {cst : Nat → Nat → Option Nat} {σ : Sto} {a k : Nat} {v : Int64} {kd : Nat × Nat} {x : Nat} (h : x ≠ a) : cE B ca cst (sl σ a k v) kd x = cE B ca cst σ kd x := by
  have e1 : ∀ j, gi (sl σ a k v) x j = gi σ x j := fun j => rfl
  have e2 : ∀ j, gl (sl σ a k v) x j = gl σ x j := fun j => by simp [gl, sl, h]
  have e3 : ∀ j, rf cst (sl σ a k v) x j = rf cst σ x j := fun j => rfl
  simp only [cE, fv, e1, e2, e3]
theorem cE_sr {B : Nat} {ca : Nat → ClassId} {cst : Nat → Nat → Option Nat} {σ : Sto} {a k : Nat} {v : Nat} {kd : Nat × Nat} {x : Nat} (h : x ≠ a) : cE B ca cst (sr σ a k v) kd x = cE B ca cst σ kd x := by
  have e1 : ∀ j, gi (sr σ a k v) x j = gi σ x j := fun j => rfl
  have e2 : ∀ j, gl (sr σ a k v) x j = gl σ x j := fun j => rfl
  have e3 : ∀ j, rf cst (sr σ a k v) x j = rf cst σ x j := fun j => by simp [rf, gr, sr, h]
  simp only [cE, fv, e1, e2, e3]
theorem cE_cpi {B : Nat} {ca : Nat → ClassId} {cst : Nat → Nat → Option Nat} {σ : Sto} {a i b j n : Nat} {kd : Nat × Nat} {x : Nat} (h : x ≠ b) : cE B ca cst (cpi σ a i b j n) kd x = cE B ca cst σ kd x := by
  have e1 : ∀ k, gi (cpi σ a i b j n) x k = gi σ x k := fun k => by simp [gi, cpi, h]
  have e2 : ∀ k, gl (cpi σ a i b j n) x k = gl σ x k := fun k => rfl
  have e3 : ∀ k, rf cst (cpi σ a i b j n) x k = rf cst σ x k := fun k => rfl
  simp only [cE, fv, e1, e2, e3]
theorem cE_cpl {B : Nat} {ca : Nat → ClassId} {cst : Nat → Nat → Option Nat} {σ : Sto} {a i b j n : Nat} {kd : Nat × Nat} {x : Nat} (h : x ≠ b) : cE B ca cst (cpl σ a i b j n) kd x = cE B ca cst σ kd x := by
  have e1 : ∀ k, gi (cpl σ a i b j n) x k = gi σ x k := fun k => rfl
  have e2 : ∀ k, gl (cpl σ a i b j n) x k = gl σ x k := fun k => by simp [gl, cpl, h]
  have e3 : ∀ k, rf cst (cpl σ a i b j n) x k = rf cst σ x k := fun k => rfl
  simp only [cE, fv, e1, e2, e3]
/-! ===== the judgement ===== -/
def Rel (B : Nat) (D : va_G) (ca : Nat → ClassId) (cst : Nat → Nat → Option Nat) (wt : (Nat → Nat → Nat) → Prop) (ks : List (Nat × Nat)) (σ : Sto) (H0 H : Heap) (locs : List Loc) : Prop :=
  va_P D vwCl (wsOf B ca cst ks σ) H ∧ va_S (fun q => B < q) H0 H locs ∧ wt σ.2.2
def Ev (B : Nat) (D : va_G) (ca : Nat → ClassId) (cst : Nat → Nat → Option Nat) (wt : (Nat → Nat → Nat) → Prop) (nL : Nat) (p : Program) (l : Launch) (e : Env) (R : Room) (s : State) (m : MethodId) (args : Array Value) (below : List Frame) (meth : Method) (c : Code) (cells slots : Nat) (Q : State → Prop) (ks : List (Nat × Nat)) (pc : Nat) (lv : List (Nat × Value)) (st : List Value) (σ : Sto) : Prop :=
  ∀ (H : Heap) (locs : List Loc) (ls : Array Slot), Rel B D ca cst wt ks σ s.heap H locs → lv_has ls nL lv → W p l e R s m args below meth c H locs cells slots Q (F0 m pc ls st)
/-- what a walk knows of its method and of the tables -/
def Cx (B : Nat) (D : va_G) (ca : Nat → ClassId) (nL : Nat) (own : String) (cc : ByteArray) (p : Program) (s : State) (m : MethodId) (args : Array Value) (meth : Method) (c : Code) : Prop :=
  p.tables.exec = Jvm.exec ∧ c.code = cc ∧ c.maxLocals = nL ∧ s.vm.findClass own = some m.cls ∧ (∀ w ∈ tbG, w.before args s = true) ∧ va_K D vwCl (tysOf ca) s ∧ meth.locks = false ∧ B + 1 ≤ s.heap.size
/-- a field: the class that links it, the entry, the class number, the slot -/
def Fl (own : String) (idx ci k : Nat) : Prop := ∃ (C : String) (T : u_T) (N : Nat), vwCl[ci]? = some (C, T, N) ∧ N = fN ci ∧ (∀ w ∈ u_ws C T N, w ∈ tbG) ∧ k < N ∧ Cond.fieldLink own idx (T k).1 (T k).2.1 (T k).2.2.1 ∈ tbG ∧ (∀ j, j < N → parseFieldDescriptor (T j).2.2.1 = some (fTy ci j)) ∧ (∀ a, a < N → ∀ b, b < N → a ≠ b → (T a).2.1 ≠ (T b).2.1)
def FlM (ci k : Nat) : Prop := ∃ (C : String) (T : u_T) (N : Nat), vwCl[ci]? = some (C, T, N) ∧ (T k).2.2.2 = false
def FlF (own : String) (ci k : Nat) : Prop := ∃ (C : String) (T : u_T) (N : Nat), vwCl[ci]? = some (C, T, N) ∧ (T k).2.2.2 = true ∧ (T k).1 = own
theorem nar_ref {ty : FieldType} {a : Nat} (h : fpl ty = 2) : narrow ty (.ref a) = .ref a := by cases ty <;> first | rfl | (simp [fpl] at h)
theorem fits_ref {ty : FieldType} {a : Nat} (h : fpl ty = 2) : fits ty (.ref a) = true := by cases ty <;> first | rfl | (simp [fpl] at h)
theorem arrV_get {c : ClassId} {n i : Nat} {f : Nat → Value} (h : i < n) : (arrV c n f).slots[i]? = some (f i) := by simp [arrV, h]
section EvRows
variable {B : Nat} {D : va_G} {ca : Nat → ClassId} {cst : Nat → Nat → Option Nat} {wt : (Nat → Nat → Nat) → Prop} {nL : Nat} {p : Program} {l : Launch} {e : Env} {R : Room} {s : State} {m : MethodId} {args : Array Value} {below : List Frame} {meth : Method} {c : Code} {cells slots : Nat} {Q : State → Prop} {ks : List (Nat × Nat)} {own : String} {cc : ByteArray} {pc q : Nat} {lv : List (Nat × Value)} {st : List Value} {σ : Sto}
theorem e_iadd (C : Cx B D ca nL own cc p s m args meth c) {x y : Int32} (hd : decode cc pc = .ok (.iadd, 1))  (hq : pc + 1 = q) (k : Ev B D ca cst wt nL p l e R s m args below meth c cells slots Q ks q lv (.int (x + y) :: st) σ) : Ev B D ca cst wt nL p l e R s m args below meth c cells slots Q ks pc lv (.int y :: .int x :: st) σ := by
  intro H locs ls hR hl
  subst hq
  exact lv_iadd C.1 C.2.1  hd  (k H locs ls hR hl)
theorem e_isub (C : Cx B D ca nL own cc p s m args meth c) {x y : Int32} (hd : decode cc pc = .ok (.isub, 1))  (hq : pc + 1 = q) (k : Ev B D ca cst wt nL p l e R s m args below meth c cells slots Q ks q lv (.int (x - y) :: st) σ) : Ev B D ca cst wt nL p l e R s m args below meth c cells slots Q ks pc lv (.int y :: .int x :: st) σ := by
  intro H locs ls hR hl
  subst hq
  exact lv_isub C.1 C.2.1  hd  (k H locs ls hR hl)
theorem e_imul (C : Cx B D ca nL own cc p s m args meth c) {x y : Int32} (hd : decode cc pc = .ok (.imul, 1))  (hq : pc + 1 = q) (k : Ev B D ca cst wt nL p l e R s m args below meth c cells slots Q ks q lv (.int (x * y) :: st) σ) : Ev B D ca cst wt nL p l e R s m args below meth c cells slots Q ks pc lv (.int y :: .int x :: st) σ := by
  intro H locs ls hR hl
  subst hq
  exact lv_imul C.1 C.2.1  hd  (k H locs ls hR hl)
theorem e_iand (C : Cx B D ca nL own cc p s m args meth c) {x y : Int32} (hd : decode cc pc = .ok (.iand, 1))  (hq : pc + 1 = q) (k : Ev B D ca cst wt nL p l e R s m args below meth c cells slots Q ks q lv (.int (x &&& y) :: st) σ) : Ev B D ca cst wt nL p l e R s m args below meth c cells slots Q ks pc lv (.int y :: .int x :: st) σ := by
  intro H locs ls hR hl
  subst hq
  exact lv_iand C.1 C.2.1  hd  (k H locs ls hR hl)
theorem e_ior (C : Cx B D ca nL own cc p s m args meth c) {x y : Int32} (hd : decode cc pc = .ok (.ior, 1))  (hq : pc + 1 = q) (k : Ev B D ca cst wt nL p l e R s m args below meth c cells slots Q ks q lv (.int (x ||| y) :: st) σ) : Ev B D ca cst wt nL p l e R s m args below meth c cells slots Q ks pc lv (.int y :: .int x :: st) σ := by
  intro H locs ls hR hl
  subst hq
  exact lv_ior C.1 C.2.1  hd  (k H locs ls hR hl)
theorem e_ixor (C : Cx B D ca nL own cc p s m args meth c) {x y : Int32} (hd : decode cc pc = .ok (.ixor, 1))  (hq : pc + 1 = q) (k : Ev B D ca cst wt nL p l e R s m args below meth c cells slots Q ks q lv (.int (x ^^^ y) :: st) σ) : Ev B D ca cst wt nL p l e R s m args below meth c cells slots Q ks pc lv (.int y :: .int x :: st) σ := by
  intro H locs ls hR hl
  subst hq
  exact lv_ixor C.1 C.2.1  hd  (k H locs ls hR hl)
theorem e_ishl (C : Cx B D ca nL own cc p s m args meth c) {x y : Int32} (hd : decode cc pc = .ok (.ishl, 1))  (hq : pc + 1 = q) (k : Ev B D ca cst wt nL p l e R s m args below meth c cells slots Q ks q lv (.int (x <<< (y &&& 31)) :: st) σ) : Ev B D ca cst wt nL p l e R s m args below meth c cells slots Q ks pc lv (.int y :: .int x :: st) σ := by
  intro H locs ls hR hl
  subst hq
  exact lv_ishl C.1 C.2.1  hd  (k H locs ls hR hl)
theorem e_ishr (C : Cx B D ca nL own cc p s m args meth c) {x y : Int32} (hd : decode cc pc = .ok (.ishr, 1))  (hq : pc + 1 = q) (k : Ev B D ca cst wt nL p l e R s m args below meth c cells slots Q ks q lv (.int (x >>> (y &&& 31)) :: st) σ) : Ev B D ca cst wt nL p l e R s m args below meth c cells slots Q ks pc lv (.int y :: .int x :: st) σ := by
  intro H locs ls hR hl
  subst hq
  exact lv_ishr C.1 C.2.1  hd  (k H locs ls hR hl)
theorem e_idiv (C : Cx B D ca nL own cc p s m args meth c) {x y : Int32} (hd : decode cc pc = .ok (.idiv, 1)) (hne : ¬ y = 0) (hq : pc + 1 = q) (k : Ev B D ca cst wt nL p l e R s m args below meth c cells slots Q ks q lv (.int (x / y) :: st) σ) : Ev B D ca cst wt nL p l e R s m args below meth c cells slots Q ks pc lv (.int y :: .int x :: st) σ := by
  intro H locs ls hR hl
  subst hq
  exact lv_idiv C.1 C.2.1  hd hne (k H locs ls hR hl)
theorem e_irem (C : Cx B D ca nL own cc p s m args meth c) {x y : Int32} (hd : decode cc pc = .ok (.irem, 1)) (hne : ¬ y = 0) (hq : pc + 1 = q) (k : Ev B D ca cst wt nL p l e R s m args below meth c cells slots Q ks q lv (.int (x - x / y * y) :: st) σ) : Ev B D ca cst wt nL p l e R s m args below meth c cells slots Q ks pc lv (.int y :: .int x :: st) σ := by
  intro H locs ls hR hl
  subst hq
  exact lv_irem C.1 C.2.1  hd hne (k H locs ls hR hl)
theorem e_ladd (C : Cx B D ca nL own cc p s m args meth c) {x y : Int64} (hd : decode cc pc = .ok (.ladd, 1))  (hq : pc + 1 = q) (k : Ev B D ca cst wt nL p l e R s m args below meth c cells slots Q ks q lv (.long (x + y) :: st) σ) : Ev B D ca cst wt nL p l e R s m args below meth c cells slots Q ks pc lv (.long y :: .long x :: st) σ := by
  intro H locs ls hR hl
  subst hq
  exact lv_ladd C.1 C.2.1  hd  (k H locs ls hR hl)
theorem e_lsub (C : Cx B D ca nL own cc p s m args meth c) {x y : Int64} (hd : decode cc pc = .ok (.lsub, 1))  (hq : pc + 1 = q) (k : Ev B D ca cst wt nL p l e R s m args below meth c cells slots Q ks q lv (.long (x - y) :: st) σ) : Ev B D ca cst wt nL p l e R s m args below meth c cells slots Q ks pc lv (.long y :: .long x :: st) σ := by
  intro H locs ls hR hl
  subst hq
  exact lv_lsub C.1 C.2.1  hd  (k H locs ls hR hl)
theorem e_lmul (C : Cx B D ca nL own cc p s m args meth c) {x y : Int64} (hd : decode cc pc = .ok (.lmul, 1))  (hq : pc + 1 = q) (k : Ev B D ca cst wt nL p l e R s m args below meth c cells slots Q ks q lv (.long (x * y) :: st) σ) : Ev B D ca cst wt nL p l e R s m args below meth c cells slots Q ks pc lv (.long y :: .long x :: st) σ := by
  intro H locs ls hR hl
  subst hq
  exact lv_lmul C.1 C.2.1  hd  (k H locs ls hR hl)
theorem e_land (C : Cx B D ca nL own cc p s m args meth c) {x y : Int64} (hd : decode cc pc = .ok (.land, 1))  (hq : pc + 1 = q) (k : Ev B D ca cst wt nL p l e R s m args below meth c cells slots Q ks q lv (.long (x &&& y) :: st) σ) : Ev B D ca cst wt nL p l e R s m args below meth c cells slots Q ks pc lv (.long y :: .long x :: st) σ := by
  intro H locs ls hR hl
  subst hq
  exact lv_land C.1 C.2.1  hd  (k H locs ls hR hl)
theorem e_lor (C : Cx B D ca nL own cc p s m args meth c) {x y : Int64} (hd : decode cc pc = .ok (.lor, 1))  (hq : pc + 1 = q) (k : Ev B D ca cst wt nL p l e R s m args below meth c cells slots Q ks q lv (.long (x ||| y) :: st) σ) : Ev B D ca cst wt nL p l e R s m args below meth c cells slots Q ks pc lv (.long y :: .long x :: st) σ := by
  intro H locs ls hR hl
  subst hq
  exact lv_lor C.1 C.2.1  hd  (k H locs ls hR hl)
theorem e_ldiv (C : Cx B D ca nL own cc p s m args meth c) {x y : Int64} (hd : decode cc pc = .ok (.ldiv, 1)) (hne : ¬ y = 0) (hq : pc + 1 = q) (k : Ev B D ca cst wt nL p l e R s m args below meth c cells slots Q ks q lv (.long (x / y) :: st) σ) : Ev B D ca cst wt nL p l e R s m args below meth c cells slots Q ks pc lv (.long y :: .long x :: st) σ := by
  intro H locs ls hR hl
  subst hq
  exact lv_ldiv C.1 C.2.1  hd hne (k H locs ls hR hl)
theorem e_lrem (C : Cx B D ca nL own cc p s m args meth c) {x y : Int64} (hd : decode cc pc = .ok (.lrem, 1)) (hne : ¬ y = 0) (hq : pc + 1 = q) (k : Ev B D ca cst wt nL p l e R s m args below meth c cells slots Q ks q lv (.long (x - x / y * y) :: st) σ) : Ev B D ca cst wt nL p l e R s m args below meth c cells slots Q ks pc lv (.long y :: .long x :: st) σ := by
  intro H locs ls hR hl
  subst hq
  exact lv_lrem C.1 C.2.1  hd hne (k H locs ls hR hl)
theorem e_lneg (C : Cx B D ca nL own cc p s m args meth c) {x : Int64} (hd : decode cc pc = .ok (.lneg, 1))  (hq : pc + 1 = q) (k : Ev B D ca cst wt nL p l e R s m args below meth c cells slots Q ks q lv (.long (-x) :: st) σ) : Ev B D ca cst wt nL p l e R s m args below meth c cells slots Q ks pc lv (.long x :: st) σ := by
  intro H locs ls hR hl
  subst hq
  exact lv_lneg C.1 C.2.1  hd  (k H locs ls hR hl)
theorem e_i2l (C : Cx B D ca nL own cc p s m args meth c) {x : Int32} (hd : decode cc pc = .ok (.i2l, 1))  (hq : pc + 1 = q) (k : Ev B D ca cst wt nL p l e R s m args below meth c cells slots Q ks q lv (.long x.toInt64 :: st) σ) : Ev B D ca cst wt nL p l e R s m args below meth c cells slots Q ks pc lv (.int x :: st) σ := by
  intro H locs ls hR hl
  subst hq
  exact lv_i2l C.1 C.2.1  hd rfl (k H locs ls hR hl)
theorem e_l2i (C : Cx B D ca nL own cc p s m args meth c) {x : Int64} (hd : decode cc pc = .ok (.l2i, 1))  (hq : pc + 1 = q) (k : Ev B D ca cst wt nL p l e R s m args below meth c cells slots Q ks q lv (.int x.toInt32 :: st) σ) : Ev B D ca cst wt nL p l e R s m args below meth c cells slots Q ks pc lv (.long x :: st) σ := by
  intro H locs ls hR hl
  subst hq
  exact lv_l2i C.1 C.2.1  hd rfl (k H locs ls hR hl)
theorem e_i2b (C : Cx B D ca nL own cc p s m args meth c) {x : Int32} (hd : decode cc pc = .ok (.i2b, 1))  (hq : pc + 1 = q) (k : Ev B D ca cst wt nL p l e R s m args below meth c cells slots Q ks q lv (.int x.toInt8.toInt32 :: st) σ) : Ev B D ca cst wt nL p l e R s m args below meth c cells slots Q ks pc lv (.int x :: st) σ := by
  intro H locs ls hR hl
  subst hq
  exact lv_i2b C.1 C.2.1  hd rfl (k H locs ls hR hl)
theorem e_i2s (C : Cx B D ca nL own cc p s m args meth c) {x : Int32} (hd : decode cc pc = .ok (.i2s, 1))  (hq : pc + 1 = q) (k : Ev B D ca cst wt nL p l e R s m args below meth c cells slots Q ks q lv (.int x.toInt16.toInt32 :: st) σ) : Ev B D ca cst wt nL p l e R s m args below meth c cells slots Q ks pc lv (.int x :: st) σ := by
  intro H locs ls hR hl
  subst hq
  exact lv_i2s C.1 C.2.1  hd rfl (k H locs ls hR hl)
theorem e_iushr (C : Cx B D ca nL own cc p s m args meth c) {x y : Int32} (hd : decode cc pc = .ok (.iushr, 1))  (hq : pc + 1 = q) (k : Ev B D ca cst wt nL p l e R s m args below meth c cells slots Q ks q lv (.int (x.toUInt32 >>> (y.toUInt32 &&& Int32.toUInt32 31)).toInt32 :: st) σ) : Ev B D ca cst wt nL p l e R s m args below meth c cells slots Q ks pc lv (.int y :: .int x :: st) σ := by
  intro H locs ls hR hl
  subst hq
  exact lv_iushr C.1 C.2.1  hd rfl (k H locs ls hR hl)
theorem e_lshl (C : Cx B D ca nL own cc p s m args meth c) {x : Int64} {y : Int32} (hd : decode cc pc = .ok (.lshl, 1))  (hq : pc + 1 = q) (k : Ev B D ca cst wt nL p l e R s m args below meth c cells slots Q ks q lv (.long (x <<< (y.toInt64 &&& 63)) :: st) σ) : Ev B D ca cst wt nL p l e R s m args below meth c cells slots Q ks pc lv (.int y :: .long x :: st) σ := by
  intro H locs ls hR hl
  subst hq
  exact lv_lshl C.1 C.2.1  hd rfl (k H locs ls hR hl)
theorem e_lcmp (C : Cx B D ca nL own cc p s m args meth c) {x y : Int64} (hd : decode cc pc = .ok (.lcmp, 1))  (hq : pc + 1 = q) (k : Ev B D ca cst wt nL p l e R s m args below meth c cells slots Q ks q lv (.int (lg_cmp x y) :: st) σ) : Ev B D ca cst wt nL p l e R s m args below meth c cells slots Q ks pc lv (.long y :: .long x :: st) σ := by
  intro H locs ls hR hl
  subst hq
  exact W.lcmp C.1 C.2.1  hd  (k H locs ls hR hl)
theorem e_dup (C : Cx B D ca nL own cc p s m args meth c) {v : Value} (hd : decode cc pc = .ok (.dup, 1)) (hv : v.category = 1) (hq : pc + 1 = q) (k : Ev B D ca cst wt nL p l e R s m args below meth c cells slots Q ks q lv (v :: v :: st) σ) : Ev B D ca cst wt nL p l e R s m args below meth c cells slots Q ks pc lv (v :: st) σ := by
  intro H locs ls hR hl
  subst hq
  exact lv_dup C.1 C.2.1  hd hv (k H locs ls hR hl)
theorem e_pop (C : Cx B D ca nL own cc p s m args meth c) {v : Value} (hd : decode cc pc = .ok (.pop, 1)) (hv : v.category = 1) (hq : pc + 1 = q) (k : Ev B D ca cst wt nL p l e R s m args below meth c cells slots Q ks q lv st σ) : Ev B D ca cst wt nL p l e R s m args below meth c cells slots Q ks pc lv (v :: st) σ := by
  intro H locs ls hR hl
  subst hq
  exact lv_pop C.1 C.2.1  hd hv (k H locs ls hR hl)
theorem e_dup2 (C : Cx B D ca nL own cc p s m args meth c) {v w : Value} (hd : decode cc pc = .ok (.dup2, 1)) (hv : v.category = 1) (hw : w.category = 1) (hq : pc + 1 = q) (k : Ev B D ca cst wt nL p l e R s m args below meth c cells slots Q ks q lv (v :: w :: v :: w :: st) σ) : Ev B D ca cst wt nL p l e R s m args below meth c cells slots Q ks pc lv (v :: w :: st) σ := by
  intro H locs ls hR hl
  subst hq
  exact lv_dup2_11 C.1 C.2.1  hd hv hw (k H locs ls hR hl)
theorem e_iconst (C : Cx B D ca nL own cc p s m args meth c) {n : Int} {v : Int32} (hd : decode cc pc = .ok (.iconst n, 1)) (hv : Int32.ofInt n = v) (hq : pc + 1 = q) (k : Ev B D ca cst wt nL p l e R s m args below meth c cells slots Q ks q lv (.int v :: st) σ) : Ev B D ca cst wt nL p l e R s m args below meth c cells slots Q ks pc lv st σ := by
  intro H locs ls hR hl
  subst hq
  exact lv_iconst C.1 C.2.1  hd hv (k H locs ls hR hl)
theorem e_bipush (C : Cx B D ca nL own cc p s m args meth c) {n : Int} {v : Int32} (hd : decode cc pc = .ok (.bipush n, 2)) (hv : (Int8.ofInt n).toInt32 = v) (hq : pc + 2 = q) (k : Ev B D ca cst wt nL p l e R s m args below meth c cells slots Q ks q lv (.int v :: st) σ) : Ev B D ca cst wt nL p l e R s m args below meth c cells slots Q ks pc lv st σ := by
  intro H locs ls hR hl
  subst hq
  exact lv_bipush C.1 C.2.1  hd hv (k H locs ls hR hl)
theorem e_sipush (C : Cx B D ca nL own cc p s m args meth c) {n : Int} {v : Int32} (hd : decode cc pc = .ok (.sipush n, 3)) (hv : (Int16.ofInt n).toInt32 = v) (hq : pc + 3 = q) (k : Ev B D ca cst wt nL p l e R s m args below meth c cells slots Q ks q lv (.int v :: st) σ) : Ev B D ca cst wt nL p l e R s m args below meth c cells slots Q ks pc lv st σ := by
  intro H locs ls hR hl
  subst hq
  exact lv_sipush C.1 C.2.1  hd hv (k H locs ls hR hl)
theorem e_lconst (C : Cx B D ca nL own cc p s m args meth c) {n : Fin 2} {v : Int64} (hd : decode cc pc = .ok (.lconst n, 1)) (hv : Int64.ofNat (n : Nat) = v) (hq : pc + 1 = q) (k : Ev B D ca cst wt nL p l e R s m args below meth c cells slots Q ks q lv (.long v :: st) σ) : Ev B D ca cst wt nL p l e R s m args below meth c cells slots Q ks pc lv st σ := by
  intro H locs ls hR hl
  subst hq
  exact lv_lconst C.1 C.2.1  hd hv (k H locs ls hR hl)
theorem e_iload_n (C : Cx B D ca nL own cc p s m args meth c) {j i : Nat} {x : Int32} {f : Fin 4} (hd : decode cc pc = .ok (.iload_n f, 1)) (hi : (f : Nat) = i) (hx : lv[j]? = some (i, .int x)) (hq : pc + 1 = q) (k : Ev B D ca cst wt nL p l e R s m args below meth c cells slots Q ks q lv (.int x :: st) σ) : Ev B D ca cst wt nL p l e R s m args below meth c cells slots Q ks pc lv st σ := by
  intro H locs ls hR hl
  subst hq
  exact lv_iload_n C.1 C.2.1 hd hi (lv_at hl j hx) (k H locs ls hR hl)
theorem e_iload (C : Cx B D ca nL own cc p s m args meth c) {j i : Nat} {x : Int32} (hd : decode cc pc = .ok (.iload i, 2)) (hx : lv[j]? = some (i, .int x)) (hq : pc + 2 = q) (k : Ev B D ca cst wt nL p l e R s m args below meth c cells slots Q ks q lv (.int x :: st) σ) : Ev B D ca cst wt nL p l e R s m args below meth c cells slots Q ks pc lv st σ := by
  intro H locs ls hR hl
  subst hq
  exact lv_iload C.1 C.2.1 hd (lv_at hl j hx) (k H locs ls hR hl)
theorem e_lload_n (C : Cx B D ca nL own cc p s m args meth c) {j i : Nat} {x : Int64} {f : Fin 4} (hd : decode cc pc = .ok (.lload_n f, 1)) (hi : (f : Nat) = i) (hx : lv[j]? = some (i, .long x)) (hq : pc + 1 = q) (k : Ev B D ca cst wt nL p l e R s m args below meth c cells slots Q ks q lv (.long x :: st) σ) : Ev B D ca cst wt nL p l e R s m args below meth c cells slots Q ks pc lv st σ := by
  intro H locs ls hR hl
  subst hq
  exact lv_lload_n C.1 C.2.1 hd hi (lv_at hl j hx) (k H locs ls hR hl)
theorem e_lload (C : Cx B D ca nL own cc p s m args meth c) {j i : Nat} {x : Int64} (hd : decode cc pc = .ok (.lload i, 2)) (hx : lv[j]? = some (i, .long x)) (hq : pc + 2 = q) (k : Ev B D ca cst wt nL p l e R s m args below meth c cells slots Q ks q lv (.long x :: st) σ) : Ev B D ca cst wt nL p l e R s m args below meth c cells slots Q ks pc lv st σ := by
  intro H locs ls hR hl
  subst hq
  exact lv_lload C.1 C.2.1 hd (lv_at hl j hx) (k H locs ls hR hl)
theorem e_aload_n (C : Cx B D ca nL own cc p s m args meth c) {j i : Nat} {x : Nat} {f : Fin 4} (hd : decode cc pc = .ok (.aload_n f, 1)) (hi : (f : Nat) = i) (hx : lv[j]? = some (i, .ref x)) (hq : pc + 1 = q) (k : Ev B D ca cst wt nL p l e R s m args below meth c cells slots Q ks q lv (.ref x :: st) σ) : Ev B D ca cst wt nL p l e R s m args below meth c cells slots Q ks pc lv st σ := by
  intro H locs ls hR hl
  subst hq
  exact lv_aload_n C.1 C.2.1 hd hi (lv_at hl j hx) (k H locs ls hR hl)
theorem e_aload (C : Cx B D ca nL own cc p s m args meth c) {j i : Nat} {x : Nat} (hd : decode cc pc = .ok (.aload i, 2)) (hx : lv[j]? = some (i, .ref x)) (hq : pc + 2 = q) (k : Ev B D ca cst wt nL p l e R s m args below meth c cells slots Q ks q lv (.ref x :: st) σ) : Ev B D ca cst wt nL p l e R s m args below meth c cells slots Q ks pc lv st σ := by
  intro H locs ls hR hl
  subst hq
  exact lv_aload C.1 C.2.1 hd (lv_at hl j hx) (k H locs ls hR hl)
theorem e_istore_n (C : Cx B D ca nL own cc p s m args meth c) {i : Nat} {x : Int32} {lv2 : List (Nat × Value)} {f : Fin 4} (hd : decode cc pc = .ok (.istore_n f, 1)) (hi : (f : Nat) = i) (hn : i < nL) (hl : (i, Value.int x) :: lv.filter (fun q => !(q.1 == i) && !(q.1 + 1 == i && q.2.category == 2)) = lv2) (hq : pc + 1 = q) (k : Ev B D ca cst wt nL p l e R s m args below meth c cells slots Q ks q lv2 st σ) : Ev B D ca cst wt nL p l e R s m args below meth c cells slots Q ks pc lv (.int x :: st) σ := by
  intro H locs ls hR h
  subst hq
  exact lv_istore_n C.1 C.2.1 hd hi h hn hl (fun ls2 h2 => k H locs ls2 hR h2)
theorem e_istore (C : Cx B D ca nL own cc p s m args meth c) {i : Nat} {x : Int32} {lv2 : List (Nat × Value)} (hd : decode cc pc = .ok (.istore i, 2)) (hn : i < nL) (hl : (i, Value.int x) :: lv.filter (fun q => !(q.1 == i) && !(q.1 + 1 == i && q.2.category == 2)) = lv2) (hq : pc + 2 = q) (k : Ev B D ca cst wt nL p l e R s m args below meth c cells slots Q ks q lv2 st σ) : Ev B D ca cst wt nL p l e R s m args below meth c cells slots Q ks pc lv (.int x :: st) σ := by
  intro H locs ls hR h
  subst hq
  exact lv_istore C.1 C.2.1 hd h hn hl (fun ls2 h2 => k H locs ls2 hR h2)
theorem e_lstore_n (C : Cx B D ca nL own cc p s m args meth c) {i : Nat} {x : Int64} {lv2 : List (Nat × Value)} {f : Fin 4} (hd : decode cc pc = .ok (.lstore_n f, 1)) (hi : (f : Nat) = i) (hn : i + 1 < nL) (hl : (i, Value.long x) :: lv.filter (fun q => !(q.1 == i) && (!(q.1 == i + 1) && !(q.1 + 1 == i && q.2.category == 2))) = lv2) (hq : pc + 1 = q) (k : Ev B D ca cst wt nL p l e R s m args below meth c cells slots Q ks q lv2 st σ) : Ev B D ca cst wt nL p l e R s m args below meth c cells slots Q ks pc lv (.long x :: st) σ := by
  intro H locs ls hR h
  subst hq
  exact lv_lstore_n C.1 C.2.1 hd hi h hn hl (fun ls2 h2 => k H locs ls2 hR h2)
theorem e_lstore (C : Cx B D ca nL own cc p s m args meth c) {i : Nat} {x : Int64} {lv2 : List (Nat × Value)} (hd : decode cc pc = .ok (.lstore i, 2)) (hn : i + 1 < nL) (hl : (i, Value.long x) :: lv.filter (fun q => !(q.1 == i) && (!(q.1 == i + 1) && !(q.1 + 1 == i && q.2.category == 2))) = lv2) (hq : pc + 2 = q) (k : Ev B D ca cst wt nL p l e R s m args below meth c cells slots Q ks q lv2 st σ) : Ev B D ca cst wt nL p l e R s m args below meth c cells slots Q ks pc lv (.long x :: st) σ := by
  intro H locs ls hR h
  subst hq
  exact lv_lstore C.1 C.2.1 hd h hn hl (fun ls2 h2 => k H locs ls2 hR h2)
theorem e_astore_n (C : Cx B D ca nL own cc p s m args meth c) {i : Nat} {x : Nat} {lv2 : List (Nat × Value)} {f : Fin 4} (hd : decode cc pc = .ok (.astore_n f, 1)) (hi : (f : Nat) = i) (hn : i < nL) (hl : (i, Value.ref x) :: lv.filter (fun q => !(q.1 == i) && !(q.1 + 1 == i && q.2.category == 2)) = lv2) (hq : pc + 1 = q) (k : Ev B D ca cst wt nL p l e R s m args below meth c cells slots Q ks q lv2 st σ) : Ev B D ca cst wt nL p l e R s m args below meth c cells slots Q ks pc lv (.ref x :: st) σ := by
  intro H locs ls hR h
  subst hq
  exact lv_astore_n C.1 C.2.1 hd hi h hn hl (fun ls2 h2 => k H locs ls2 hR h2)
theorem e_astore (C : Cx B D ca nL own cc p s m args meth c) {i : Nat} {x : Nat} {lv2 : List (Nat × Value)} (hd : decode cc pc = .ok (.astore i, 2)) (hn : i < nL) (hl : (i, Value.ref x) :: lv.filter (fun q => !(q.1 == i) && !(q.1 + 1 == i && q.2.category == 2)) = lv2) (hq : pc + 2 = q) (k : Ev B D ca cst wt nL p l e R s m args below meth c cells slots Q ks q lv2 st σ) : Ev B D ca cst wt nL p l e R s m args below meth c cells slots Q ks pc lv (.ref x :: st) σ := by
  intro H locs ls hR h
  subst hq
  exact lv_astore C.1 C.2.1 hd h hn hl (fun ls2 h2 => k H locs ls2 hR h2)
theorem e_iinc (C : Cx B D ca nL own cc p s m args meth c) {i j : Nat} {n : Int} {x v : Int32} {lv2 : List (Nat × Value)} (hd : decode cc pc = .ok (.iinc i n, 3)) (hx : lv[j]? = some (i, .int x)) (hv : x + Int32.ofInt n = v) (hn : i < nL) (hl : (i, Value.int v) :: lv.filter (fun q => !(q.1 == i) && !(q.1 + 1 == i && q.2.category == 2)) = lv2) (hq : pc + 3 = q) (k : Ev B D ca cst wt nL p l e R s m args below meth c cells slots Q ks q lv2 st σ) : Ev B D ca cst wt nL p l e R s m args below meth c cells slots Q ks pc lv st σ := by
  intro H locs ls hR h
  subst hq
  exact lv_iinc C.1 C.2.1 hd h hx hv hn hl (fun ls2 h2 => k H locs ls2 hR h2)
theorem e_if_eq (C : Cx B D ca nL own cc p s m args meth c) {x : Int32} {off : Int} {t : Nat} (hd : decode cc pc = .ok (.ifCond .eq off, 3)) (ht : (pc : Int) + off = (t : Int)) (hq : pc + 3 = q) (k1 : x = 0 → Ev B D ca cst wt nL p l e R s m args below meth c cells slots Q ks t lv st σ) (k2 : ¬ x = 0 → Ev B D ca cst wt nL p l e R s m args below meth c cells slots Q ks q lv st σ) : Ev B D ca cst wt nL p l e R s m args below meth c cells slots Q ks pc lv (.int x :: st) σ := by
  intro H locs ls hR hl
  subst hq
  exact lv_if_eq C.1 C.2.1 hd ht (fun h => k1 h H locs ls hR hl) (fun h => k2 h H locs ls hR hl)
theorem e_icmp_eq (C : Cx B D ca nL own cc p s m args meth c) {x y : Int32} {off : Int} {t : Nat} (hd : decode cc pc = .ok (.if_icmp .eq off, 3)) (ht : (pc : Int) + off = (t : Int)) (hq : pc + 3 = q) (k1 : x = y → Ev B D ca cst wt nL p l e R s m args below meth c cells slots Q ks t lv st σ) (k2 : ¬ x = y → Ev B D ca cst wt nL p l e R s m args below meth c cells slots Q ks q lv st σ) : Ev B D ca cst wt nL p l e R s m args below meth c cells slots Q ks pc lv (.int y :: .int x :: st) σ := by
  intro H locs ls hR hl
  subst hq
  exact lv_icmp_eq C.1 C.2.1 hd ht (fun h => k1 h H locs ls hR hl) (fun h => k2 h H locs ls hR hl)
theorem e_if_ne (C : Cx B D ca nL own cc p s m args meth c) {x : Int32} {off : Int} {t : Nat} (hd : decode cc pc = .ok (.ifCond .ne off, 3)) (ht : (pc : Int) + off = (t : Int)) (hq : pc + 3 = q) (k1 : ¬ x = 0 → Ev B D ca cst wt nL p l e R s m args below meth c cells slots Q ks t lv st σ) (k2 : x = 0 → Ev B D ca cst wt nL p l e R s m args below meth c cells slots Q ks q lv st σ) : Ev B D ca cst wt nL p l e R s m args below meth c cells slots Q ks pc lv (.int x :: st) σ := by
  intro H locs ls hR hl
  subst hq
  exact lv_if_ne C.1 C.2.1 hd ht (fun h => k1 h H locs ls hR hl) (fun h => k2 h H locs ls hR hl)
theorem e_icmp_ne (C : Cx B D ca nL own cc p s m args meth c) {x y : Int32} {off : Int} {t : Nat} (hd : decode cc pc = .ok (.if_icmp .ne off, 3)) (ht : (pc : Int) + off = (t : Int)) (hq : pc + 3 = q) (k1 : ¬ x = y → Ev B D ca cst wt nL p l e R s m args below meth c cells slots Q ks t lv st σ) (k2 : x = y → Ev B D ca cst wt nL p l e R s m args below meth c cells slots Q ks q lv st σ) : Ev B D ca cst wt nL p l e R s m args below meth c cells slots Q ks pc lv (.int y :: .int x :: st) σ := by
  intro H locs ls hR hl
  subst hq
  exact lv_icmp_ne C.1 C.2.1 hd ht (fun h => k1 h H locs ls hR hl) (fun h => k2 h H locs ls hR hl)
theorem e_if_lt (C : Cx B D ca nL own cc p s m args meth c) {x : Int32} {off : Int} {t : Nat} (hd : decode cc pc = .ok (.ifCond .lt off, 3)) (ht : (pc : Int) + off = (t : Int)) (hq : pc + 3 = q) (k1 : x < 0 → Ev B D ca cst wt nL p l e R s m args below meth c cells slots Q ks t lv st σ) (k2 : ¬ x < 0 → Ev B D ca cst wt nL p l e R s m args below meth c cells slots Q ks q lv st σ) : Ev B D ca cst wt nL p l e R s m args below meth c cells slots Q ks pc lv (.int x :: st) σ := by
  intro H locs ls hR hl
  subst hq
  exact lv_if_lt C.1 C.2.1 hd ht (fun h => k1 h H locs ls hR hl) (fun h => k2 h H locs ls hR hl)
theorem e_icmp_lt (C : Cx B D ca nL own cc p s m args meth c) {x y : Int32} {off : Int} {t : Nat} (hd : decode cc pc = .ok (.if_icmp .lt off, 3)) (ht : (pc : Int) + off = (t : Int)) (hq : pc + 3 = q) (k1 : x < y → Ev B D ca cst wt nL p l e R s m args below meth c cells slots Q ks t lv st σ) (k2 : ¬ x < y → Ev B D ca cst wt nL p l e R s m args below meth c cells slots Q ks q lv st σ) : Ev B D ca cst wt nL p l e R s m args below meth c cells slots Q ks pc lv (.int y :: .int x :: st) σ := by
  intro H locs ls hR hl
  subst hq
  exact lv_icmp_lt C.1 C.2.1 hd ht (fun h => k1 h H locs ls hR hl) (fun h => k2 h H locs ls hR hl)
theorem e_if_ge (C : Cx B D ca nL own cc p s m args meth c) {x : Int32} {off : Int} {t : Nat} (hd : decode cc pc = .ok (.ifCond .ge off, 3)) (ht : (pc : Int) + off = (t : Int)) (hq : pc + 3 = q) (k1 : 0 ≤ x → Ev B D ca cst wt nL p l e R s m args below meth c cells slots Q ks t lv st σ) (k2 : ¬ 0 ≤ x → Ev B D ca cst wt nL p l e R s m args below meth c cells slots Q ks q lv st σ) : Ev B D ca cst wt nL p l e R s m args below meth c cells slots Q ks pc lv (.int x :: st) σ := by
  intro H locs ls hR hl
  subst hq
  exact lv_if_ge C.1 C.2.1 hd ht (fun h => k1 h H locs ls hR hl) (fun h => k2 h H locs ls hR hl)
theorem e_icmp_ge (C : Cx B D ca nL own cc p s m args meth c) {x y : Int32} {off : Int} {t : Nat} (hd : decode cc pc = .ok (.if_icmp .ge off, 3)) (ht : (pc : Int) + off = (t : Int)) (hq : pc + 3 = q) (k1 : y ≤ x → Ev B D ca cst wt nL p l e R s m args below meth c cells slots Q ks t lv st σ) (k2 : ¬ y ≤ x → Ev B D ca cst wt nL p l e R s m args below meth c cells slots Q ks q lv st σ) : Ev B D ca cst wt nL p l e R s m args below meth c cells slots Q ks pc lv (.int y :: .int x :: st) σ := by
  intro H locs ls hR hl
  subst hq
  exact lv_icmp_ge C.1 C.2.1 hd ht (fun h => k1 h H locs ls hR hl) (fun h => k2 h H locs ls hR hl)
theorem e_if_gt (C : Cx B D ca nL own cc p s m args meth c) {x : Int32} {off : Int} {t : Nat} (hd : decode cc pc = .ok (.ifCond .gt off, 3)) (ht : (pc : Int) + off = (t : Int)) (hq : pc + 3 = q) (k1 : 0 < x → Ev B D ca cst wt nL p l e R s m args below meth c cells slots Q ks t lv st σ) (k2 : ¬ 0 < x → Ev B D ca cst wt nL p l e R s m args below meth c cells slots Q ks q lv st σ) : Ev B D ca cst wt nL p l e R s m args below meth c cells slots Q ks pc lv (.int x :: st) σ := by
  intro H locs ls hR hl
  subst hq
  exact lv_if_gt C.1 C.2.1 hd ht (fun h => k1 h H locs ls hR hl) (fun h => k2 h H locs ls hR hl)
theorem e_icmp_gt (C : Cx B D ca nL own cc p s m args meth c) {x y : Int32} {off : Int} {t : Nat} (hd : decode cc pc = .ok (.if_icmp .gt off, 3)) (ht : (pc : Int) + off = (t : Int)) (hq : pc + 3 = q) (k1 : y < x → Ev B D ca cst wt nL p l e R s m args below meth c cells slots Q ks t lv st σ) (k2 : ¬ y < x → Ev B D ca cst wt nL p l e R s m args below meth c cells slots Q ks q lv st σ) : Ev B D ca cst wt nL p l e R s m args below meth c cells slots Q ks pc lv (.int y :: .int x :: st) σ := by
  intro H locs ls hR hl
  subst hq
  exact lv_icmp_gt C.1 C.2.1 hd ht (fun h => k1 h H locs ls hR hl) (fun h => k2 h H locs ls hR hl)
theorem e_if_le (C : Cx B D ca nL own cc p s m args meth c) {x : Int32} {off : Int} {t : Nat} (hd : decode cc pc = .ok (.ifCond .le off, 3)) (ht : (pc : Int) + off = (t : Int)) (hq : pc + 3 = q) (k1 : x ≤ 0 → Ev B D ca cst wt nL p l e R s m args below meth c cells slots Q ks t lv st σ) (k2 : ¬ x ≤ 0 → Ev B D ca cst wt nL p l e R s m args below meth c cells slots Q ks q lv st σ) : Ev B D ca cst wt nL p l e R s m args below meth c cells slots Q ks pc lv (.int x :: st) σ := by
  intro H locs ls hR hl
  subst hq
  exact lv_if_le C.1 C.2.1 hd ht (fun h => k1 h H locs ls hR hl) (fun h => k2 h H locs ls hR hl)
theorem e_icmp_le (C : Cx B D ca nL own cc p s m args meth c) {x y : Int32} {off : Int} {t : Nat} (hd : decode cc pc = .ok (.if_icmp .le off, 3)) (ht : (pc : Int) + off = (t : Int)) (hq : pc + 3 = q) (k1 : x ≤ y → Ev B D ca cst wt nL p l e R s m args below meth c cells slots Q ks t lv st σ) (k2 : ¬ x ≤ y → Ev B D ca cst wt nL p l e R s m args below meth c cells slots Q ks q lv st σ) : Ev B D ca cst wt nL p l e R s m args below meth c cells slots Q ks pc lv (.int y :: .int x :: st) σ := by
  intro H locs ls hR hl
  subst hq
  exact lv_icmp_le C.1 C.2.1 hd ht (fun h => k1 h H locs ls hR hl) (fun h => k2 h H locs ls hR hl)
theorem e_goto (C : Cx B D ca nL own cc p s m args meth c) {off : Int} {t : Nat} (hd : decode cc pc = .ok (.goto off, 3)) (ht : (pc : Int) + off = (t : Int)) (k : Ev B D ca cst wt nL p l e R s m args below meth c cells slots Q ks t lv st σ) : Ev B D ca cst wt nL p l e R s m args below meth c cells slots Q ks pc lv st σ := by
  intro H locs ls hR hl
  exact lv_goto C.1 C.2.1 hd ht (k H locs ls hR hl)
theorem e_tableOut (C : Cx B D ca nL own cc p s m args meth c) {dflt lo hi : Int} {offs : Array Int} {len : Nat} {x : Int32} {t : Nat} (hd : decode cc pc = .ok (.tableswitch dflt lo hi offs, len)) (h : x.toInt < lo ∨ hi < x.toInt) (ht : (pc : Int) + dflt = (t : Int)) (k : Ev B D ca cst wt nL p l e R s m args below meth c cells slots Q ks t lv st σ) : Ev B D ca cst wt nL p l e R s m args below meth c cells slots Q ks pc lv (.int x :: st) σ := by
  intro H locs ls hR hl
  exact lv_tableOut C.1 C.2.1 hd h ht (k H locs ls hR hl)
theorem e_tableIn (C : Cx B D ca nL own cc p s m args meth c) {dflt lo hi off : Int} {offs : Array Int} {len : Nat} {x : Int32} {t : Nat} (hd : decode cc pc = .ok (.tableswitch dflt lo hi offs, len)) (h1 : ¬ x.toInt < lo) (h2 : ¬ hi < x.toInt) (ho : offs[(x.toInt - lo).toNat]? = some off) (ht : (pc : Int) + off = (t : Int)) (k : Ev B D ca cst wt nL p l e R s m args below meth c cells slots Q ks t lv st σ) : Ev B D ca cst wt nL p l e R s m args below meth c cells slots Q ks pc lv (.int x :: st) σ := by
  intro H locs ls hR hl
  exact lv_tableIn C.1 C.2.1 hd h1 h2 ho ht (k H locs ls hR hl)
theorem e_lookup (C : Cx B D ca nL own cc p s m args meth c) {dflt off : Int} {ps : Array (Int × Int)} {len : Nat} {x : Int32} {t : Nat} (hd : decode cc pc = .ok (.lookupswitch dflt ps, len)) (hp : (ps.toList.zip (ps.toList.drop 1)).all (fun (a, next) => a.1 < next.1) = true) (ho : Op.lookupswitch.offset ps.toList dflt x.toInt = off) (ht : (pc : Int) + off = (t : Int)) (k : Ev B D ca cst wt nL p l e R s m args below meth c cells slots Q ks t lv st σ) : Ev B D ca cst wt nL p l e R s m args below meth c cells slots Q ks pc lv (.int x :: st) σ := by
  intro H locs ls hR hl
  exact lv_lookup C.1 C.2.1 hd hp ho ht (k H locs ls hR hl)
theorem e_ldc (C : Cx B D ca nL own cc p s m args meth c) {idx : Nat} {v : Int32} (hw : Cond.constant own idx v ∈ tbG) (hd : decode cc pc = .ok (.ldc idx, 2)) (hq : pc + 2 = q) (k : Ev B D ca cst wt nL p l e R s m args below meth c cells slots Q ks q lv (.int v :: st) σ) : Ev B D ca cst wt nL p l e R s m args below meth c cells slots Q ks pc lv st σ := by
  intro H locs ls hR hl
  subst hq
  exact lv_ldc C.1 C.2.1 C.2.2.2.1 (C.2.2.2.2.1 _ hw) hd (k H locs ls hR hl)
theorem e_ldc_w (C : Cx B D ca nL own cc p s m args meth c) {idx : Nat} {v : Int32} (hw : Cond.constant own idx v ∈ tbG) (hd : decode cc pc = .ok (.ldc_w idx, 3)) (hq : pc + 3 = q) (k : Ev B D ca cst wt nL p l e R s m args below meth c cells slots Q ks q lv (.int v :: st) σ) : Ev B D ca cst wt nL p l e R s m args below meth c cells slots Q ks pc lv st σ := by
  intro H locs ls hR hl
  subst hq
  exact lv_ldcw C.1 C.2.1 C.2.2.2.1 (C.2.2.2.2.1 _ hw) hd (k H locs ls hR hl)
theorem e_ldc2_w (C : Cx B D ca nL own cc p s m args meth c) {idx : Nat} {v : Int64} (hw : Cond.constantLong own idx v ∈ tbG) (hd : decode cc pc = .ok (.ldc2_w idx, 3)) (hq : pc + 3 = q) (k : Ev B D ca cst wt nL p l e R s m args below meth c cells slots Q ks q lv (.long v :: st) σ) : Ev B D ca cst wt nL p l e R s m args below meth c cells slots Q ks pc lv st σ := by
  intro H locs ls hR hl
  subst hq
  exact lv_ldc2 C.1 C.2.1 C.2.2.2.1 (C.2.2.2.2.1 _ hw) hd (k H locs ls hR hl)
theorem e_lv {lv2 : List (Nat × Value)} (is : List Nat) (h : lv_pick lv is = lv2) (k : Ev B D ca cst wt nL p l e R s m args below meth c cells slots Q ks pc lv2 st σ) : Ev B D ca cst wt nL p l e R s m args below meth c cells slots Q ks pc lv st σ := by
  intro H locs ls hR hl
  exact k H locs ls hR (lv_sub hl is h)
theorem e_wt (k : wt σ.2.2 → Ev B D ca cst wt nL p l e R s m args below meth c cells slots Q ks pc lv st σ) : Ev B D ca cst wt nL p l e R s m args below meth c cells slots Q ks pc lv st σ := by
  intro H locs ls hR hl
  exact k hR.2.2 H locs ls hR hl
theorem fv_map {ci a k : Nat} (hk : k < fN ci) : ((List.range (fN ci)).map (fun j => fv B cst σ (fpl (fTy ci j)) a j))[k]? = some (fv B cst σ (fpl (fTy ci k)) a k) := by
  rw [List.getElem?_map, List.getElem?_range hk]
  rfl
theorem e_geti (C : Cx B D ca nL own cc p s m args meth c) {i idx ci k a : Nat} (F : Fl own idx ci k) (hp : fpl (fTy ci k) = 0) (ha : i + 1 = a) (hk : ks[i]? = some (0, ci)) (hd : decode cc pc = .ok (.getfield idx, 3)) (hq : pc + 3 = q) (kk : Ev B D ca cst wt nL p l e R s m args below meth c cells slots Q ks q lv (.int (gi σ a k) :: st) σ) : Ev B D ca cst wt nL p l e R s m args below meth c cells slots Q ks pc lv (.ref (B + a) :: st) σ := by
  intro H locs ls hR hl
  subst hq
  subst ha
  obtain ⟨Cn, T, N, hc, hN, hin, hkN, hw, -, -⟩ := F
  have hv : ((List.range (fN ci)).map (fun j => fv B cst σ (fpl (fTy ci j)) (i + 1) j))[k]? = some (.int (gi σ (i + 1) k)) := by
    rw [fv_map (hN ▸ hkN), hp]
    rfl
  exact va_get C.1 C.2.1 C.2.2.2.2.1 hin C.2.2.2.1 C.2.2.2.2.2.1 hR.1 i (wsOf_at hk) hc k hkN (C.2.2.2.2.1 _ hw) (fun x h => h) hv hd (kk H locs ls hR hl)
theorem e_getl (C : Cx B D ca nL own cc p s m args meth c) {i idx ci k a : Nat} (F : Fl own idx ci k) (hp : fpl (fTy ci k) = 1) (ha : i + 1 = a) (hk : ks[i]? = some (0, ci)) (hd : decode cc pc = .ok (.getfield idx, 3)) (hq : pc + 3 = q) (kk : Ev B D ca cst wt nL p l e R s m args below meth c cells slots Q ks q lv (.long (gl σ a k) :: st) σ) : Ev B D ca cst wt nL p l e R s m args below meth c cells slots Q ks pc lv (.ref (B + a) :: st) σ := by
  intro H locs ls hR hl
  subst hq
  subst ha
  obtain ⟨Cn, T, N, hc, hN, hin, hkN, hw, -, -⟩ := F
  have hv : ((List.range (fN ci)).map (fun j => fv B cst σ (fpl (fTy ci j)) (i + 1) j))[k]? = some (.long (gl σ (i + 1) k)) := by
    rw [fv_map (hN ▸ hkN), hp]
    rfl
  exact va_get C.1 C.2.1 C.2.2.2.2.1 hin C.2.2.2.1 C.2.2.2.2.2.1 hR.1 i (wsOf_at hk) hc k hkN (C.2.2.2.2.1 _ hw) (fun x h => h) hv hd (kk H locs ls hR hl)
theorem e_getr (C : Cx B D ca nL own cc p s m args meth c) {i idx ci k a b : Nat} (F : Fl own idx ci k) (hp : fpl (fTy ci k) = 2) (ha : i + 1 = a) (hk : ks[i]? = some (0, ci)) (hb : rf cst σ a k = b) (hz : b ≠ 0) (hd : decode cc pc = .ok (.getfield idx, 3)) (hq : pc + 3 = q) (kk : Ev B D ca cst wt nL p l e R s m args below meth c cells slots Q ks q lv (.ref (B + b) :: st) σ) : Ev B D ca cst wt nL p l e R s m args below meth c cells slots Q ks pc lv (.ref (B + a) :: st) σ := by
  intro H locs ls hR hl
  subst hq
  subst ha
  obtain ⟨Cn, T, N, hc, hN, hin, hkN, hw, -, -⟩ := F
  have hv : ((List.range (fN ci)).map (fun j => fv B cst σ (fpl (fTy ci j)) (i + 1) j))[k]? = some (.ref (B + b)) := by
    rw [fv_map (hN ▸ hkN), hp]
    simp only [fv, hb, ro, if_neg hz]
    rfl
  exact va_get C.1 C.2.1 C.2.2.2.2.1 hin C.2.2.2.1 C.2.2.2.2.2.1 hR.1 i (wsOf_at hk) hc k hkN (C.2.2.2.2.1 _ hw) (fun x h => h) hv hd (kk H locs ls hR hl)
theorem fv_set {ci a k : Nat} {v : Value} {σ' : Sto} (hk : k < fN ci) (hv : fv B cst σ' (fpl (fTy ci k)) a k = v) (ho : ∀ j, j ≠ k → fv B cst σ' (fpl (fTy ci j)) a j = fv B cst σ (fpl (fTy ci j)) a j) :
    (List.range (fN ci)).map (fun j => fv B cst σ' (fpl (fTy ci j)) a j) = ((List.range (fN ci)).map (fun j => fv B cst σ (fpl (fTy ci j)) a j)).set k v := by
  apply List.ext_getElem?
  intro j
  by_cases hj : j = k
  · subst hj
    rw [fv_map hk, List.getElem?_set_self (by simpa using hk), hv]
  · rw [List.getElem?_set_ne (fun q => hj q.symm)]
    by_cases hl : j < fN ci
    · rw [fv_map hl, fv_map hl, ho j hj]
    · rw [List.getElem?_eq_none (by simpa using hl), List.getElem?_eq_none (by simpa using hl)]
theorem e_puti (C : Cx B D ca nL own cc p s m args meth c) {i idx ci k a : Nat} {v : Int32} (F : Fl own idx ci k) (M : FlM ci k) (hp : fTy ci k = .int) (ha : i + 1 = a) (hk : ks[i]? = some (0, ci)) (hd : decode cc pc = .ok (.putfield idx, 3)) (hq : pc + 3 = q) (kk : Ev B D ca cst wt nL p l e R s m args below meth c cells slots Q ks q lv st (si σ a k v)) : Ev B D ca cst wt nL p l e R s m args below meth c cells slots Q ks pc lv (.int v :: .ref (B + a) :: st) σ := by
  intro H locs ls hR hl
  subst hq
  subst ha
  obtain ⟨Cn, T, N, hc, hN, hin, hkN, hw, hty, hnm⟩ := F
  obtain ⟨Cn2, T2, N2, hc2, hM⟩ := M
  cases hc.symm.trans hc2
  have hd1 : parseFieldDescriptor (T k).2.2.1 = some .int := by rw [hty k hkN, hp]
  refine va_put C.1 C.2.1 C.2.2.2.2.1 hin (fTy ci) hty hnm C.2.2.2.1 C.2.2.2.2.2.1 hR.1 wsOf_D hR.2.1 i (wsOf_at hk) hc k hkN (C.2.2.2.2.1 _ hw) (fun x h => h) hM hd1 rfl rfl (by simpa [← hN] using hkN) hd (fun H1 locs1 hP1 _ hS1 => ?_)
  have e1 : (wsOf B ca cst ks σ).set i (B + (i + 1), .inr (ci, ((List.range (fN ci)).map (fun j => fv B cst σ (fpl (fTy ci j)) (i + 1) j)).set k (.int v))) = wsOf B ca cst ks (si σ (i + 1) k v) := by
    refine wsOf_set hk ?_ (fun j kd' hj => cE_si (by omega))
    show Sum.inr (ci, _) = Sum.inr (ci, _)
    congr 2
    refine fv_set (hN ▸ hkN) ?_ (fun j hj => ?_)
    · rw [hp]; show Value.int (gi (si σ (i + 1) k v) (i + 1) k) = Value.int v; simp [gi, si]
    · rcases hpl : fpl (fTy ci j) with _ | _ | n <;> simp [fv, gi, gl, rf, gr, si, hj]
  rw [e1] at hP1
  exact kk H1 locs1 ls ⟨hP1, hS1, hR.2.2⟩ hl
theorem e_putl (C : Cx B D ca nL own cc p s m args meth c) {i idx ci k a : Nat} {v : Int64} (F : Fl own idx ci k) (M : FlM ci k) (hp : fTy ci k = .long) (ha : i + 1 = a) (hk : ks[i]? = some (0, ci)) (hd : decode cc pc = .ok (.putfield idx, 3)) (hq : pc + 3 = q) (kk : Ev B D ca cst wt nL p l e R s m args below meth c cells slots Q ks q lv st (sl σ a k v)) : Ev B D ca cst wt nL p l e R s m args below meth c cells slots Q ks pc lv (.long v :: .ref (B + a) :: st) σ := by
  intro H locs ls hR hl
  subst hq
  subst ha
  obtain ⟨Cn, T, N, hc, hN, hin, hkN, hw, hty, hnm⟩ := F
  obtain ⟨Cn2, T2, N2, hc2, hM⟩ := M
  cases hc.symm.trans hc2
  have hd1 : parseFieldDescriptor (T k).2.2.1 = some .long := by rw [hty k hkN, hp]
  refine va_put C.1 C.2.1 C.2.2.2.2.1 hin (fTy ci) hty hnm C.2.2.2.1 C.2.2.2.2.2.1 hR.1 wsOf_D hR.2.1 i (wsOf_at hk) hc k hkN (C.2.2.2.2.1 _ hw) (fun x h => h) hM hd1 rfl rfl (by simpa [← hN] using hkN) hd (fun H1 locs1 hP1 _ hS1 => ?_)
  have e1 : (wsOf B ca cst ks σ).set i (B + (i + 1), .inr (ci, ((List.range (fN ci)).map (fun j => fv B cst σ (fpl (fTy ci j)) (i + 1) j)).set k (.long v))) = wsOf B ca cst ks (sl σ (i + 1) k v) := by
    refine wsOf_set hk ?_ (fun j kd' hj => cE_sl (by omega))
    show Sum.inr (ci, _) = Sum.inr (ci, _)
    congr 2
    refine fv_set (hN ▸ hkN) ?_ (fun j hj => ?_)
    · rw [hp]; show Value.long (gl (sl σ (i + 1) k v) (i + 1) k) = Value.long v; simp [gl, sl]
    · rcases hpl : fpl (fTy ci j) with _ | _ | n <;> simp [fv, gi, gl, rf, gr, sl, hj]
  rw [e1] at hP1
  exact kk H1 locs1 ls ⟨hP1, hS1, hR.2.2⟩ hl
theorem e_putz (C : Cx B D ca nL own cc p s m args meth c) {i idx ci k a : Nat} {v : Int32} (F : Fl own idx ci k) (M : FlM ci k) (hp : fTy ci k = .boolean) (hb : v = 0 ∨ v = 1) (ha : i + 1 = a) (hk : ks[i]? = some (0, ci)) (hd : decode cc pc = .ok (.putfield idx, 3)) (hq : pc + 3 = q) (kk : Ev B D ca cst wt nL p l e R s m args below meth c cells slots Q ks q lv st (si σ a k v)) : Ev B D ca cst wt nL p l e R s m args below meth c cells slots Q ks pc lv (.int v :: .ref (B + a) :: st) σ := by
  intro H locs ls hR hl
  subst hq
  subst ha
  obtain ⟨Cn, T, N, hc, hN, hin, hkN, hw, hty, hnm⟩ := F
  obtain ⟨Cn2, T2, N2, hc2, hM⟩ := M
  cases hc.symm.trans hc2
  have hd1 : parseFieldDescriptor (T k).2.2.1 = some .boolean := by rw [hty k hkN, hp]
  refine va_put C.1 C.2.1 C.2.2.2.2.1 hin (fTy ci) hty hnm C.2.2.2.1 C.2.2.2.2.2.1 hR.1 wsOf_D hR.2.1 i (wsOf_at hk) hc k hkN (C.2.2.2.2.1 _ hw) (fun x h => h) hM hd1 (by rcases hb with rfl | rfl <;> rfl) (by rcases hb with rfl | rfl <;> rfl) (by simpa [← hN] using hkN) hd (fun H1 locs1 hP1 _ hS1 => ?_)
  have e1 : (wsOf B ca cst ks σ).set i (B + (i + 1), .inr (ci, ((List.range (fN ci)).map (fun j => fv B cst σ (fpl (fTy ci j)) (i + 1) j)).set k (.int v))) = wsOf B ca cst ks (si σ (i + 1) k v) := by
    refine wsOf_set hk ?_ (fun j kd' hj => cE_si (by omega))
    show Sum.inr (ci, _) = Sum.inr (ci, _)
    congr 2
    refine fv_set (hN ▸ hkN) ?_ (fun j hj => ?_)
    · rw [hp]; show Value.int (gi (si σ (i + 1) k v) (i + 1) k) = Value.int v; simp [gi, si]
    · rcases hpl : fpl (fTy ci j) with _ | _ | n <;> simp [fv, gi, gl, rf, gr, si, hj]
  rw [e1] at hP1
  exact kk H1 locs1 ls ⟨hP1, hS1, hR.2.2⟩ hl
theorem e_putr (C : Cx B D ca nL own cc p s m args meth c) {i idx ci k a b : Nat} (F : Fl own idx ci k) (M : FlM ci k) (hp : fpl (fTy ci k) = 2) (hz : b ≠ 0) (hcs : cst a k = none) (hwt : wt (sr σ a k b).2.2) (ha : i + 1 = a) (hk : ks[i]? = some (0, ci)) (hd : decode cc pc = .ok (.putfield idx, 3)) (hq : pc + 3 = q) (kk : Ev B D ca cst wt nL p l e R s m args below meth c cells slots Q ks q lv st (sr σ a k b)) : Ev B D ca cst wt nL p l e R s m args below meth c cells slots Q ks pc lv (.ref (B + b) :: .ref (B + a) :: st) σ := by
  intro H locs ls hR hl
  subst hq
  subst ha
  obtain ⟨Cn, T, N, hc, hN, hin, hkN, hw, hty, hnm⟩ := F
  obtain ⟨Cn2, T2, N2, hc2, hM⟩ := M
  cases hc.symm.trans hc2
  refine va_put C.1 C.2.1 C.2.2.2.2.1 hin (fTy ci) hty hnm C.2.2.2.1 C.2.2.2.2.2.1 hR.1 wsOf_D hR.2.1 i (wsOf_at hk) hc k hkN (C.2.2.2.2.1 _ hw) (fun x h => h) hM (hty k hkN) (nar_ref hp) (fits_ref hp) (by simpa [← hN] using hkN) hd (fun H1 locs1 hP1 _ hS1 => ?_)
  have e1 : (wsOf B ca cst ks σ).set i (B + (i + 1), .inr (ci, ((List.range (fN ci)).map (fun j => fv B cst σ (fpl (fTy ci j)) (i + 1) j)).set k (.ref (B + b)))) = wsOf B ca cst ks (sr σ (i + 1) k b) := by
    refine wsOf_set hk ?_ (fun j kd' hj => cE_sr (by omega))
    show Sum.inr (ci, _) = Sum.inr (ci, _)
    congr 2
    refine fv_set (hN ▸ hkN) ?_ (fun j hj => ?_)
    · rw [hp]; simp [fv, rf, hcs, gr, sr, ro, hz, va_rf]
    · rcases hpl : fpl (fTy ci j) with _ | _ | n <;> simp [fv, gi, gl, rf, gr, sr, hj]
  rw [e1] at hP1
  exact kk H1 locs1 ls ⟨hP1, hS1, hwt⟩ hl
theorem e_iald (C : Cx B D ca nL own cc p s m args meth c) {i a n : Nat} {x : Int32} (ha : i + 1 = a) (hk : ks[i]? = some (1, n)) (hin : vp_in x n) (hd : decode cc pc = .ok (.iaload, 1)) (hq : pc + 1 = q) (k : Ev B D ca cst wt nL p l e R s m args below meth c cells slots Q ks q lv (.int (gi σ a x.toNatClampNeg) :: st) σ) : Ev B D ca cst wt nL p l e R s m args below meth c cells slots Q ks pc lv (.int x :: .ref (B + a) :: st) σ := by
  intro H locs ls hR hl
  subst hq
  subst ha
  exact va_iald C.1 C.2.1 C.2.2.2.2.2.1 hR.1 i 0 (wsOf_at hk) rfl hin hd (k H locs ls hR hl)
theorem e_bald (C : Cx B D ca nL own cc p s m args meth c) {i a n : Nat} {x : Int32} (ha : i + 1 = a) (hk : ks[i]? = some (3, n)) (hin : vp_in x n) (hd : decode cc pc = .ok (.baload, 1)) (hq : pc + 1 = q) (k : Ev B D ca cst wt nL p l e R s m args below meth c cells slots Q ks q lv (.int (gi σ a x.toNatClampNeg) :: st) σ) : Ev B D ca cst wt nL p l e R s m args below meth c cells slots Q ks pc lv (.int x :: .ref (B + a) :: st) σ := by
  intro H locs ls hR hl
  subst hq
  subst ha
  exact va_bald C.1 C.2.1 C.2.2.2.2.2.1 hR.1 i 2 (wsOf_at hk) rfl hin hd (k H locs ls hR hl)
theorem e_lald (C : Cx B D ca nL own cc p s m args meth c) {i a n : Nat} {x : Int32} (ha : i + 1 = a) (hk : ks[i]? = some (2, n)) (hin : vp_in x n) (hd : decode cc pc = .ok (.laload, 1)) (hq : pc + 1 = q) (k : Ev B D ca cst wt nL p l e R s m args below meth c cells slots Q ks q lv (.long (gl σ a x.toNatClampNeg) :: st) σ) : Ev B D ca cst wt nL p l e R s m args below meth c cells slots Q ks pc lv (.int x :: .ref (B + a) :: st) σ := by
  intro H locs ls hR hl
  subst hq
  subst ha
  exact va_lald C.1 C.2.1 C.2.2.2.2.2.1 hR.1 i 1 (wsOf_at hk) rfl hin hd (k H locs ls hR hl)
theorem e_iast (C : Cx B D ca nL own cc p s m args meth c) {i a n : Nat} {x : Int32} {v : Int32} (ha : i + 1 = a) (hk : ks[i]? = some (1, n)) (hin : vp_in x n) (hd : decode cc pc = .ok (.iastore, 1)) (hq : pc + 1 = q) (k : Ev B D ca cst wt nL p l e R s m args below meth c cells slots Q ks q lv st (si σ a x.toNatClampNeg v)) : Ev B D ca cst wt nL p l e R s m args below meth c cells slots Q ks pc lv (.int v :: .int x :: .ref (B + a) :: st) σ := by
  intro H locs ls hR hl
  subst hq
  subst ha
  refine va_iast C.1 C.2.1 C.2.2.2.2.2.1 hR.1 wsOf_D hR.2.1 i 0 (wsOf_at hk) rfl hin hd (fun H1 locs1 hP1 _ hS1 => ?_)
  have e1 : (wsOf B ca cst ks σ).set i (B + (i + 1), .inl (ca 1, n, .inl (upd (fun j => gi σ (i + 1) j) x.toNatClampNeg v))) = wsOf B ca cst ks (si σ (i + 1) x.toNatClampNeg v) := by
    refine wsOf_set hk ?_ (fun j kd' hj => cE_si (by omega))
    have e2 : (fun j => gi (si σ (i + 1) x.toNatClampNeg v) (i + 1) j) = upd (fun j => gi σ (i + 1) j) x.toNatClampNeg v := by
      funext j
      simp [gi, si, upd]
    simp only [cE, e2]
  rw [e1] at hP1
  exact k H1 locs1 ls ⟨hP1, hS1, hR.2.2⟩ hl
theorem e_bast (C : Cx B D ca nL own cc p s m args meth c) {i a n : Nat} {x : Int32} {v : Int32} (ha : i + 1 = a) (hk : ks[i]? = some (3, n)) (hin : vp_in x n) (hd : decode cc pc = .ok (.bastore, 1)) (hq : pc + 1 = q) (k : Ev B D ca cst wt nL p l e R s m args below meth c cells slots Q ks q lv st (si σ a x.toNatClampNeg (vp_nar .byte v))) : Ev B D ca cst wt nL p l e R s m args below meth c cells slots Q ks pc lv (.int v :: .int x :: .ref (B + a) :: st) σ := by
  intro H locs ls hR hl
  subst hq
  subst ha
  refine va_bast C.1 C.2.1 C.2.2.2.2.2.1 hR.1 wsOf_D hR.2.1 i 2 (wsOf_at hk) rfl hin hd (fun H1 locs1 hP1 _ hS1 => ?_)
  have e1 : (wsOf B ca cst ks σ).set i (B + (i + 1), .inl (ca 3, n, .inl (upd (fun j => gi σ (i + 1) j) x.toNatClampNeg (vp_nar .byte v)))) = wsOf B ca cst ks (si σ (i + 1) x.toNatClampNeg (vp_nar .byte v)) := by
    refine wsOf_set hk ?_ (fun j kd' hj => cE_si (by omega))
    have e2 : (fun j => gi (si σ (i + 1) x.toNatClampNeg (vp_nar .byte v)) (i + 1) j) = upd (fun j => gi σ (i + 1) j) x.toNatClampNeg (vp_nar .byte v) := by
      funext j
      simp [gi, si, upd]
    simp only [cE, e2]
  rw [e1] at hP1
  exact k H1 locs1 ls ⟨hP1, hS1, hR.2.2⟩ hl
theorem e_last (C : Cx B D ca nL own cc p s m args meth c) {i a n : Nat} {x : Int32} {v : Int64} (ha : i + 1 = a) (hk : ks[i]? = some (2, n)) (hin : vp_in x n) (hd : decode cc pc = .ok (.lastore, 1)) (hq : pc + 1 = q) (k : Ev B D ca cst wt nL p l e R s m args below meth c cells slots Q ks q lv st (sl σ a x.toNatClampNeg v)) : Ev B D ca cst wt nL p l e R s m args below meth c cells slots Q ks pc lv (.long v :: .int x :: .ref (B + a) :: st) σ := by
  intro H locs ls hR hl
  subst hq
  subst ha
  refine va_last C.1 C.2.1 C.2.2.2.2.2.1 hR.1 wsOf_D hR.2.1 i 1 (wsOf_at hk) rfl hin hd (fun H1 locs1 hP1 _ hS1 => ?_)
  have e1 : (wsOf B ca cst ks σ).set i (B + (i + 1), .inl (ca 2, n, .inr (.inl (vp_updL (fun j => gl σ (i + 1) j) x.toNatClampNeg v)))) = wsOf B ca cst ks (sl σ (i + 1) x.toNatClampNeg v) := by
    refine wsOf_set hk ?_ (fun j kd' hj => cE_sl (by omega))
    have e2 : (fun j => gl (sl σ (i + 1) x.toNatClampNeg v) (i + 1) j) = vp_updL (fun j => gl σ (i + 1) j) x.toNatClampNeg v := by
      funext j
      simp [gl, sl, vp_updL]
    simp only [cE, e2]
  rw [e1] at hP1
  exact k H1 locs1 ls ⟨hP1, hS1, hR.2.2⟩ hl
theorem e_aald4 (C : Cx B D ca nL own cc p s m args meth c) {i a n b : Nat} {x : Int32} (ha : i + 1 = a) (hk : ks[i]? = some (4, n)) (hin : vp_in x n) (hb : rf cst σ a x.toNatClampNeg = b) (hz : b ≠ 0) (hd : decode cc pc = .ok (.aaload, 1)) (hq : pc + 1 = q) (k : Ev B D ca cst wt nL p l e R s m args below meth c cells slots Q ks q lv (.ref (B + b) :: st) σ) : Ev B D ca cst wt nL p l e R s m args below meth c cells slots Q ks pc lv (.int x :: .ref (B + a) :: st) σ := by
  intro H locs ls hR hl
  subst hq
  subst ha
  have hlt : x.toNatClampNeg < n := Nat.not_le.mp fun q => hin (Or.inr q)
  have hcell : H[B + (i + 1)]? = some (arrV (ca 4) n (fun j => va_rf (ro B (rf cst σ (i + 1) j)))) := hR.1 i _ (wsOf_at hk)
  refine W.aald (v := .ref (B + b)) (ty := .object "Unmade$City") C.1 C.2.1 hcell ((C.2.2.2.2.2.1.2 3 _ rfl).1 n _) rfl (fun q => by cases q) ?_ ?_ rfl rfl hd (k H locs ls hR hl)
  · rw [arrV_size]; exact hin
  · rw [arrV_get hlt]; simp [hb, ro, hz, va_rf]
theorem e_aald5 (C : Cx B D ca nL own cc p s m args meth c) {i a n b : Nat} {x : Int32} (ha : i + 1 = a) (hk : ks[i]? = some (5, n)) (hin : vp_in x n) (hb : rf cst σ a x.toNatClampNeg = b) (hz : b ≠ 0) (hd : decode cc pc = .ok (.aaload, 1)) (hq : pc + 1 = q) (k : Ev B D ca cst wt nL p l e R s m args below meth c cells slots Q ks q lv (.ref (B + b) :: st) σ) : Ev B D ca cst wt nL p l e R s m args below meth c cells slots Q ks pc lv (.int x :: .ref (B + a) :: st) σ := by
  intro H locs ls hR hl
  subst hq
  subst ha
  have hlt : x.toNatClampNeg < n := Nat.not_le.mp fun q => hin (Or.inr q)
  have hcell : H[B + (i + 1)]? = some (arrV (ca 5) n (fun j => va_rf (ro B (rf cst σ (i + 1) j)))) := hR.1 i _ (wsOf_at hk)
  refine W.aald (v := .ref (B + b)) (ty := .array .long) C.1 C.2.1 hcell ((C.2.2.2.2.2.1.2 4 _ rfl).1 n _) rfl (fun q => by cases q) ?_ ?_ rfl rfl hd (k H locs ls hR hl)
  · rw [arrV_size]; exact hin
  · rw [arrV_get hlt]; simp [hb, ro, hz, va_rf]
theorem e_alen1 (C : Cx B D ca nL own cc p s m args meth c) {i a n : Nat} (ha : i + 1 = a) (hk : ks[i]? = some (1, n)) (hd : decode cc pc = .ok (.arraylength, 1)) (hq : pc + 1 = q) (k : Ev B D ca cst wt nL p l e R s m args below meth c cells slots Q ks q lv (.int (nI n) :: st) σ) : Ev B D ca cst wt nL p l e R s m args below meth c cells slots Q ks pc lv (.ref (B + a) :: st) σ := by
  intro H locs ls hR hl
  subst hq
  subst ha
  exact va_alen C.1 C.2.1 C.2.2.2.2.2.1 hR.1 i 0 (wsOf_at hk) rfl rfl hd (k H locs ls hR hl)
theorem e_alen2 (C : Cx B D ca nL own cc p s m args meth c) {i a n : Nat} (ha : i + 1 = a) (hk : ks[i]? = some (2, n)) (hd : decode cc pc = .ok (.arraylength, 1)) (hq : pc + 1 = q) (k : Ev B D ca cst wt nL p l e R s m args below meth c cells slots Q ks q lv (.int (nI n) :: st) σ) : Ev B D ca cst wt nL p l e R s m args below meth c cells slots Q ks pc lv (.ref (B + a) :: st) σ := by
  intro H locs ls hR hl
  subst hq
  subst ha
  exact va_alen C.1 C.2.1 C.2.2.2.2.2.1 hR.1 i 1 (wsOf_at hk) rfl rfl hd (k H locs ls hR hl)
theorem e_alen3 (C : Cx B D ca nL own cc p s m args meth c) {i a n : Nat} (ha : i + 1 = a) (hk : ks[i]? = some (3, n)) (hd : decode cc pc = .ok (.arraylength, 1)) (hq : pc + 1 = q) (k : Ev B D ca cst wt nL p l e R s m args below meth c cells slots Q ks q lv (.int (nI n) :: st) σ) : Ev B D ca cst wt nL p l e R s m args below meth c cells slots Q ks pc lv (.ref (B + a) :: st) σ := by
  intro H locs ls hR hl
  subst hq
  subst ha
  exact va_alen C.1 C.2.1 C.2.2.2.2.2.1 hR.1 i 2 (wsOf_at hk) rfl rfl hd (k H locs ls hR hl)
theorem e_copyi (C : Cx B D ca nL own cc p s m args meth c) {idx i a n0 j0 b n1 : Nat} {sp dp n : Int32} (hw1 : Cond.methodLink own idx arraycopyName ∈ tbG) (hw2 : Cond.native arraycopyName ∈ tbG) (hw3 : Cond.static arraycopyName ∈ tbG) (hw4 : Cond.initialized "java/lang/System" ∈ tbG) (ha : i + 1 = a) (hk : ks[i]? = some (1, n0)) (hb : j0 + 1 = b) (hkb : ks[j0]? = some (1, n1)) (h1 : ¬ sp < 0) (h2 : ¬ dp < 0) (h3 : ¬ n < 0) (h4 : sp.toNatClampNeg + n.toNatClampNeg ≤ n0) (h5 : dp.toNatClampNeg + n.toNatClampNeg ≤ n1) (hR1 : 1 ≤ R.frames) (hR2 : (st.map fun v => v.category).sum + (nativeFrameWords "java/lang/System" "arraycopy" 5 + 11) ≤ R.locals) (hd : decode cc pc = .ok (.invokestatic idx, 3)) (hq : pc + 3 = q) (k : Ev B D ca cst wt nL p l e R s m args below meth c cells slots Q ks q lv st (cpi σ a sp.toNatClampNeg b dp.toNatClampNeg n.toNatClampNeg)) : Ev B D ca cst wt nL p l e R s m args below meth c cells slots Q ks pc lv (.int n :: .int dp :: .ref (B + b) :: .int sp :: .ref (B + a) :: st) σ := by
  intro H locs ls hR hl
  subst hq
  subst ha
  subst hb
  refine va_copyi C.1 C.2.1 (C.2.2.1.trans hl.1.symm) C.2.2.2.1 (C.2.2.2.2.1 _ hw1) (C.2.2.2.2.1 _ hw2) (C.2.2.2.2.1 _ hw3) (C.2.2.2.2.1 _ hw4) C.2.2.2.2.2.1 hR.1 wsOf_D hR.2.1 i j0 0 0 (wsOf_at hk) (wsOf_at hkb) rfl rfl rfl h1 h2 h3 h4 h5 (fun _ _ => rfl) hR1 hR2 hd (fun H1 locs1 hP1 _ hS1 => ?_)
  have e1 : (wsOf B ca cst ks σ).set j0 (B + (j0 + 1), .inl (ca 1, n1, .inl (va_cpy (fun j => gi σ (i + 1) j) (fun j => gi σ (j0 + 1) j) sp.toNatClampNeg dp.toNatClampNeg n.toNatClampNeg))) = wsOf B ca cst ks (cpi σ (i + 1) sp.toNatClampNeg (j0 + 1) dp.toNatClampNeg n.toNatClampNeg) := by
    refine wsOf_set hkb ?_ (fun j kd' hj => cE_cpi (by omega))
    have e2 : (fun j => gi (cpi σ (i + 1) sp.toNatClampNeg (j0 + 1) dp.toNatClampNeg n.toNatClampNeg) (j0 + 1) j) = va_cpy (fun j => gi σ (i + 1) j) (fun j => gi σ (j0 + 1) j) sp.toNatClampNeg dp.toNatClampNeg n.toNatClampNeg := by
      funext j
      simp [gi, cpi, va_cpy]
    simp only [cE, e2]
  rw [e1] at hP1
  exact k H1 locs1 ls ⟨hP1, hS1, hR.2.2⟩ hl
theorem e_copyl (C : Cx B D ca nL own cc p s m args meth c) {idx i a n0 j0 b n1 : Nat} {sp dp n : Int32} (hw1 : Cond.methodLink own idx arraycopyName ∈ tbG) (hw2 : Cond.native arraycopyName ∈ tbG) (hw3 : Cond.static arraycopyName ∈ tbG) (hw4 : Cond.initialized "java/lang/System" ∈ tbG) (ha : i + 1 = a) (hk : ks[i]? = some (2, n0)) (hb : j0 + 1 = b) (hkb : ks[j0]? = some (2, n1)) (h1 : ¬ sp < 0) (h2 : ¬ dp < 0) (h3 : ¬ n < 0) (h4 : sp.toNatClampNeg + n.toNatClampNeg ≤ n0) (h5 : dp.toNatClampNeg + n.toNatClampNeg ≤ n1) (hR1 : 1 ≤ R.frames) (hR2 : (st.map fun v => v.category).sum + (nativeFrameWords "java/lang/System" "arraycopy" 5 + 11) ≤ R.locals) (hd : decode cc pc = .ok (.invokestatic idx, 3)) (hq : pc + 3 = q) (k : Ev B D ca cst wt nL p l e R s m args below meth c cells slots Q ks q lv st (cpl σ a sp.toNatClampNeg b dp.toNatClampNeg n.toNatClampNeg)) : Ev B D ca cst wt nL p l e R s m args below meth c cells slots Q ks pc lv (.int n :: .int dp :: .ref (B + b) :: .int sp :: .ref (B + a) :: st) σ := by
  intro H locs ls hR hl
  subst hq
  subst ha
  subst hb
  refine va_copyl C.1 C.2.1 (C.2.2.1.trans hl.1.symm) C.2.2.2.1 (C.2.2.2.2.1 _ hw1) (C.2.2.2.2.1 _ hw2) (C.2.2.2.2.1 _ hw3) (C.2.2.2.2.1 _ hw4) C.2.2.2.2.2.1 hR.1 wsOf_D hR.2.1 i j0 1 1 (wsOf_at hk) (wsOf_at hkb) rfl rfl rfl h1 h2 h3 h4 h5 (fun _ _ => rfl) hR1 hR2 hd (fun H1 locs1 hP1 _ hS1 => ?_)
  have e1 : (wsOf B ca cst ks σ).set j0 (B + (j0 + 1), .inl (ca 2, n1, .inr (.inl (va_cpy (fun j => gl σ (i + 1) j) (fun j => gl σ (j0 + 1) j) sp.toNatClampNeg dp.toNatClampNeg n.toNatClampNeg)))) = wsOf B ca cst ks (cpl σ (i + 1) sp.toNatClampNeg (j0 + 1) dp.toNatClampNeg n.toNatClampNeg) := by
    refine wsOf_set hkb ?_ (fun j kd' hj => cE_cpl (by omega))
    have e2 : (fun j => gl (cpl σ (i + 1) sp.toNatClampNeg (j0 + 1) dp.toNatClampNeg n.toNatClampNeg) (j0 + 1) j) = va_cpy (fun j => gl σ (i + 1) j) (fun j => gl σ (j0 + 1) j) sp.toNatClampNeg dp.toNatClampNeg n.toNatClampNeg := by
      funext j
      simp [gl, cpl, va_cpy]
    simp only [cE, e2]
  rw [e1] at hP1
  exact k H1 locs1 ls ⟨hP1, hS1, hR.2.2⟩ hl
end EvRows
