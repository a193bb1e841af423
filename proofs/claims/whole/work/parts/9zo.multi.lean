/-! ===== four rows of sixty longs, made at once ===== -/
def mI (comp : ClassId) : Cell := { cls := comp, slots := Array.replicate 60 (.long 0), vm := .none }
def mO (cA : ClassId) : Cell := { cls := cA, slots := Array.replicate 4 .null, vm := .none }
/-- with i rows hung in: the state, the outer cell -/
def mN (T : State) (cA comp : ClassId) : Nat → State × Cell
  | 0 => (T.pushCell (mO cA), mO cA)
  | i + 1 => (((mN T cA comp i).1.pushCell (mI comp)).setCell T.heap.size ((mN T cA comp i).2.setSlot i (.ref (T.heap.size + 1 + i))), (mN T cA comp i).2.setSlot i (.ref (T.heap.size + 1 + i)))
theorem mN_o {T : State} {cA comp : ClassId} : ∀ i, (mN T cA comp i).2.cls = cA ∧ (mN T cA comp i).2.vm = .none ∧ (mN T cA comp i).2.slots.size = 4
  | 0 => ⟨rfl, rfl, by simp [mN, mO]⟩
  | i + 1 => by
    have h := mN_o (T := T) (cA := cA) (comp := comp) i
    simpa [mN, Cell.setSlot] using h
theorem mN_h {T : State} {cA comp : ClassId} : ∀ i, (mN T cA comp i).1.heap.size = T.heap.size + 1 + i ∧ (mN T cA comp i).1.heap[T.heap.size]? = some (mN T cA comp i).2
  | 0 => ⟨by simp [mN], by simp [mN]⟩
  | i + 1 => by
    obtain ⟨h1, h2⟩ := mN_h (T := T) (cA := cA) (comp := comp) i
    have hlt : T.heap.size < (mN T cA comp i).1.heap.size := by omega
    refine ⟨?_, ?_⟩
    · simp [mN, State.setCell, h1]
      omega
    · exact State.heap_setCell_self (c := (mN T cA comp i).2) (by rw [State.heap_pushCell_of_lt (h := hlt)]; exact h2)
theorem mN_v {T : State} {cA comp : ClassId} : ∀ i, (mN T cA comp i).1.vm = T.vm ∧ (mN T cA comp i).1.slotsUsed = T.slotsUsed + 4 + i * 60
  | 0 => ⟨rfl, by simp [mN, mO]⟩
  | i + 1 => by
    obtain ⟨h1, h2⟩ := mN_v (T := T) (cA := cA) (comp := comp) i
    refine ⟨by simp [mN, h1], ?_⟩
    simp [mN, h2, mI]
    omega
theorem mN_a {T : State} {cA comp : ClassId} {a : Nat} (ha : a < T.heap.size) : ∀ i, (mN T cA comp i).1.heap[a]? = T.heap[a]?
  | 0 => State.heap_pushCell_of_lt _ _ ha
  | i + 1 => by
    have h1 := (mN_h (T := T) (cA := cA) (comp := comp) i).1
    have hlt : a < (mN T cA comp i).1.heap.size := by omega
    show (((mN T cA comp i).1.pushCell (mI comp)).setCell T.heap.size _).heap[a]? = _
    rw [State.heap_setCell_other (show T.heap.size ≠ a by omega), State.heap_pushCell_of_lt (h := hlt)]
    exact mN_a ha i
theorem mN_r {T : State} {cA comp : ClassId} : ∀ i j, j < i → (mN T cA comp i).1.heap[T.heap.size + 1 + j]? = some (mI comp)
  | 0, _, h => absurd h (Nat.not_lt_zero _)
  | i + 1, j, h => by
    have h1 := (mN_h (T := T) (cA := cA) (comp := comp) i).1
    show (((mN T cA comp i).1.pushCell (mI comp)).setCell T.heap.size _).heap[T.heap.size + 1 + j]? = _
    rw [State.heap_setCell_other (show T.heap.size ≠ T.heap.size + 1 + j by omega)]
    by_cases hj : j = i
    · subst hj
      rw [← h1]
      exact State.heap_pushCell_size _ _
    · have hlt : T.heap.size + 1 + j < (mN T cA comp i).1.heap.size := by omega
      rw [State.heap_pushCell_of_lt (h := hlt)]
      exact mN_r i j (by omega)
theorem arrV_x {cI : ClassId} {N : Nat} {f g : Nat → Value} (h : ∀ j, j < N → f j = g j) : arrV cI N f = arrV cI N g := by
  unfold arrV
  congr 1
  congr 1
  funext j
  exact h j.val j.isLt
theorem mN_4 {T : State} {cA comp : ClassId} : (mN T cA comp 4).2 = arrV cA 4 (fun j => .ref (T.heap.size + 1 + j)) := by
  have h0 : mO cA = arrV cA 4 (fun _ => .null) := arrV_new _ _ _
  simp only [mN, h0, arrV_store]
  refine arrV_x (fun j hj => ?_)
  rcases (show j = 0 ∨ j = 1 ∨ j = 2 ∨ j = 3 by omega) with rfl | rfl | rfl | rfl <;> simp [updV]
theorem mN_t {T : State} {cA comp : ClassId} {f : JFrame} : ∀ i, (mN (T.setTop f) cA comp i).1 = (mN T cA comp i).1.setTop f ∧ (mN (T.setTop f) cA comp i).2 = (mN T cA comp i).2
  | 0 => ⟨rfl, rfl⟩
  | i + 1 => by
    obtain ⟨h1, h2⟩ := mN_t (T := T) (cA := cA) (comp := comp) (f := f) i
    simp only [mN, h1, h2, State.heap_setTop, State.pushCell_setTop, State.setCell_setTop, and_self]
section MUL
variable {p : Program} {l : Launch} {e : Env} {R : Room} {s : State} {m : MethodId} {args : Array Value} {below : List Frame} {meth : Method} {c : Code} {H : Heap} {locs : List Loc} {cells slots : Nat} {Q : State → Prop}
theorem mN_X {T : State} {cA comp : ClassId} (X : Stand p l e R s m args below meth c T locs cells slots) : ∀ i, ∃ locs2, (∀ x ∈ locs2, x ∈ locs ∨ x.base = T.heap.size) ∧ Stand p l e R s m args below meth c (mN T cA comp i).1 locs2 (cells + 1 + i) (slots + 4 + i * 60)
  | 0 => ⟨locs, fun x h => Or.inl h, by
    have h := X.pushed (mO cA)
    simpa [mN, mO] using h⟩
  | i + 1 => by
    obtain ⟨locs2, h1, h2⟩ := mN_X X i
    obtain ⟨h3, h4⟩ := mN_h (T := T) (cA := cA) (comp := comp) i
    have hlt : T.heap.size < (mN T cA comp i).1.heap.size := by omega
    have h := (h2.pushed (mI comp)).stored (a := T.heap.size) (cell := (mN T cA comp i).2) (by rw [State.heap_pushCell_of_lt (h := hlt)]; exact h4) i (.ref (T.heap.size + 1 + i))
    have e1 : (mI comp).slots.size = 60 := by simp [mI]
    rw [e1] at h
    refine ⟨_, fun x hx => ?_, by
      rw [show slots + 4 + (i + 1) * 60 = slots + 4 + i * 60 + 60 by omega, show cells + 1 + (i + 1) = cells + 1 + i + 1 by omega]
      exact h⟩
    rcases List.mem_append.mp hx with hx | hx
    · exact h1 x hx
    · right
      rw [List.mem_singleton] at hx
      rw [hx]
end MUL
section MULW
variable {E : CtlPost} {e : Env} {d : Bool} {acts : List Action} {s : State}
theorem wa_new {c comp : ClassId} {k : Class} {ty : FieldType} {n : Nat} {v : Value} (hk : s.vm.classes[c]? = some k) (hkd : k.kind = .array comp ty) (h1 : ¬ n > e.platform.arrayLengthLimit) (h2 : ¬ n * componentBytes ty > e.platform.maxHeapBytes) (hf : fits ty v = true) (hv : v.isDefault = true) {Q : Addr → Pre}
    (h3 : s.heap.size < e.platform.maxCells) (h4 : s.slotsUsed + n ≤ e.platform.maxSlots) (hq : Q s.heap.size d acts (s.pushCell { cls := c, slots := Array.replicate n v, vm := .none })) : wp (Jvm.newArray c n v) Q E e d acts s := by
  have hall : ((Array.replicate n v).all (·.isDefault)) = true := by
    rw [Array.all_replicate]
    split <;> simp [hv]
  have hda : allocActs (Array.replicate n v) s.heap.size acts = acts := by
    unfold allocActs
    rw [if_pos hall]
  have hfit : ∀ i w, (Array.replicate n v)[i]? = some w → s.fitsSlot c .none i w = true := by
    intro i w hw
    rw [Array.getElem?_replicate] at hw
    split at hw
    · cases hw
      simp [State.fitsSlot, State.slotType?, hk, hkd, hf]
    · cases hw
  simp only [Jvm.newArray, Jvm.arrayFits, wp_bind', W.ask, W.ite, h1, if_false, wp_pure', W.theClass, hk, hkd, h2, W.alloc, W.stop, Option.some.injEq, exists_eq_left', Array.size_replicate, hda]
  rw [if_neg (by omega)]
  exact ⟨h3, h4, hfit, hq⟩
theorem wa_row {comp cc : ClassId} {kc : Class} (hkc : s.vm.classes[comp]? = some kc) (hkd : kc.kind = .array cc .long) (h1 : ¬ 60 > e.platform.arrayLengthLimit) (h2 : ¬ 60 * 8 > e.platform.maxHeapBytes) (h3 : s.heap.size < e.platform.maxCells) (h4 : s.slotsUsed + 60 ≤ e.platform.maxSlots) {Q : Addr → Pre} (hq : Q s.heap.size d acts (s.pushCell (mI comp))) :
    wp (multianewarray.make comp [60]) Q E e d acts s := by
  rw [multianewarray.make]
  have e60 : (60 : Int32).toNatClampNeg = 60 := by decide
  simp only [wp_bind', W.ite, show ¬ (60 : Int32) < 0 by decide, if_false, wp_pure', W.theClass, hkc, hkd, Option.some.injEq, exists_eq_left', e60]
  exact wa_new hkc hkd h1 h2 rfl rfl h3 h4 hq
theorem wa_rows {cA comp cc : ClassId} {kA kc : Class} (hkA : s.vm.classes[cA]? = some kA) (hkdA : kA.kind = .array comp (.array .long)) (hkc : s.vm.classes[comp]? = some kc) (hkd : kc.kind = .array cc .long) (h0 : ¬ 4 > e.platform.arrayLengthLimit) (h00 : ¬ 4 * 4 > e.platform.maxHeapBytes) (h1 : ¬ 60 > e.platform.arrayLengthLimit) (h2 : ¬ 60 * 8 > e.platform.maxHeapBytes) (h3 : s.heap.size + 5 ≤ e.platform.maxCells) (h4 : s.slotsUsed + 244 ≤ e.platform.maxSlots) {Q : Addr → Pre} (hq : ∀ d acts, Q s.heap.size d acts (mN s cA comp 4).1) :
    wp (multianewarray.make cA [4, 60]) Q E e d acts s := by
  have e4 : (4 : Int32).toNatClampNeg = 4 := by decide
  have hfd : ([(60 : Int32)].find? (· < 0)) = none := by decide
  rw [multianewarray.make]
  simp only [wp_bind', W.ite, show ¬ (4 : Int32) < 0 by decide, if_false, wp_pure', W.theClass, hkA, hkdA, Option.some.injEq, exists_eq_left', e4]
  refine wa_new hkA hkdA h0 h00 rfl rfl (by omega) (by omega) ?_
  simp only [hfd]
  rw [ite_self, wp_bind', Std.Legacy.Range.forIn_eq_forIn_range']
  have hsz : ([:4] : Std.Legacy.Range).size = 4 := by simp [Std.Legacy.Range.size]
  rw [hsz]
  show wp (forIn (List.range' 0 4 1) PUnit.unit _) _ E e d acts _
  refine wp_forIn_inv (fun rest t => ∃ i, i ≤ 4 ∧ rest = List.range' i (4 - i) ∧ t = (mN s cA comp i).1) _ _ ⟨0, by decide, rfl, rfl⟩ ?_ ?_
  · rintro x rest t d2 acts2 Q2 ⟨i, hi, hl, rfl⟩ hnext
    have hlt : i < 4 := by
      rcases Nat.lt_or_ge i 4 with h | h
      · exact h
      · rw [show 4 - i = 0 by omega] at hl
        cases hl
    rw [show 4 - i = (4 - (i + 1)) + 1 by omega, List.range'_succ] at hl
    have hx : x = i := (List.cons.inj hl).1
    have hr : rest = List.range' (i + 1) (4 - (i + 1)) := (List.cons.inj hl).2
    subst hx
    obtain ⟨f1, f2⟩ := mN_h (T := s) (cA := cA) (comp := comp) x
    obtain ⟨g1, g2⟩ := mN_v (T := s) (cA := cA) (comp := comp) x
    obtain ⟨o1, o2, o3⟩ := mN_o (T := s) (cA := cA) (comp := comp) x
    simp only [wp_bind']
    refine wa_row (by rw [g1]; exact hkc) hkd h1 h2 (by rw [f1]; omega) (by rw [g2]; omega) ?_
    have hlt0 : s.heap.size < (mN s cA comp x).1.heap.size := by omega
    simp only [wp_bind', W.writeLoc, wp_pure']
    refine ⟨(mN s cA comp x).2, by rw [State.heap_pushCell_of_lt (h := hlt0)]; exact f2, by rw [o2]; simp, by rw [o3]; exact hlt, ?_, hnext _ _ _ ⟨x + 1, hlt, hr, ?_⟩⟩
    · rw [o1, o2]
      simp [State.fitsSlot, State.slotType?, g1, hkA, hkdA]
      rfl
    · rw [f1]; rfl
  · rintro t d2 acts2 ⟨i, hi, hl, rfl⟩
    have hi4 : i = 4 := by
      rcases Nat.lt_or_ge i 4 with h | h
      · rw [show 4 - i = (4 - (i + 1)) + 1 by omega, List.range'_succ] at hl
        cases hl
      · omega
    subst hi4
    simp only [wp_pure']
    exact hq _ _
end MULW
section MULX
variable {p : Program} {l : Launch} {e : Env} {R : Room} {s : State} {m : MethodId} {args : Array Value} {below : List Frame} {meth : Method} {c : Code} {H : Heap} {locs : List Loc} {cells slots : Nat} {Q : State → Prop}
theorem W_multi {cc : ByteArray} (hexec : p.tables.exec = Jvm.exec) (hb : c.code = cc) {own : String} {index : Nat} (hown : s.vm.findClass own = some m.cls) (hclink : (Cond.classLink own index "[[J").before args s = true) {cA comp cl : ClassId} {kA kC : Class} (hnm : s.vm.findClass "[[J" = some cA) (hkA : s.vm.classes[cA]? = some kA) (hkdA : kA.kind = .array comp (.array .long)) (hkC : s.vm.classes[comp]? = some kC) (hkdC : kC.kind = .array cl .long)
    {pc : Nat} {ls : Array Slot} {st : List Value} (hcells : cells + 5 ≤ R.cells) (hslots : slots + 244 ≤ R.slots) (hdg : decode cc pc = .ok (.multianewarray index 2, 4))
    (kk : ∀ (H1 : Heap) (locs1 : List Loc), H1.size = H.size + 5 → (∀ q, q < H.size → H1[q]? = H[q]?) → H1[H.size]? = some (arrV cA 4 (fun j => .ref (H.size + 1 + j))) → (∀ j, j < 4 → H1[H.size + 1 + j]? = some (mI comp)) → (∀ x ∈ locs1, x ∈ locs ∨ x.base = H.size) → W p l e R s m args below meth c H1 locs1 (cells + 5) (slots + 244) Q (F0 m (pc + 4) ls (.ref H.size :: st))) :
    W p l e R s m args below meth c H locs cells slots Q (F0 m pc ls (.int 60 :: .int 4 :: st)) := by
  intro T hT X
  subst hT; subst hb
  have hpl : e.platform.magicAccessors = ({} : Platform).magicAccessors := by rw [X.admits.platform]
  obtain ⟨c0, hfc0, hcl⟩ := Cond.classLink_spec hown hclink e.platform hpl
  cases hnm.symm.trans hfc0
  obtain ⟨hg1, hwarm, hready⟩ := State.classEntry (e := e) X.warmed hcl
  generalize T.vm.noted m.cls index (.cls cA) = vm1 at hg1 hwarm hready
  have hal : s.vm.Alike vm1 := hwarm.alike
  obtain ⟨kA1, hkA1, heA⟩ := hal.2.2 _ _ hkA
  obtain ⟨kC1, hkC1, heC⟩ := hal.2.2 _ _ hkC
  have hkdA1 : kA1.kind = .array comp (.array .long) := by rw [heA]; exact hkdA
  have hkdC1 : kC1.kind = .array cl .long := by rw [heC]; exact hkdC
  have X1 := X.noted hwarm
  obtain ⟨hr1, hr2⟩ := X.roomAbove hcells hslots
  obtain ⟨locs2, hl2, X2'⟩ := mN_X (cA := cA) (comp := comp) X1 4
  have X2 : Stand p l e R s m args below meth c (mN (T.setVm vm1) cA comp 4).1 locs2 (cells + 5) (slots + 244) := X2'
  have hh : ∀ i, (mN (T.setVm vm1) cA comp i).1.heap.size = T.heap.size + 1 + i := fun i => (mN_h i).1
  obtain ⟨t, a1, b1⟩ := kk (mN (T.setVm vm1) cA comp 4).1.heap locs2 (hh 4) (fun q hq => mN_a (T := T.setVm vm1) hq 4) (by
    have := (mN_h (T := T.setVm vm1) (cA := cA) (comp := comp) 4).2
    rw [mN_4] at this
    exact this) (fun j hj => mN_r (T := T.setVm vm1) 4 j hj) hl2 _ rfl X2
  refine ⟨t, ?_, b1⟩
  have hlim : ∀ n, n ≤ 60 → ¬ n > e.platform.arrayLengthLimit := fun n hn => by
    rw [Launch.admits_arrayLengthLimit X.admits]; omega
  have hby : ∀ n, n ≤ 480 → ¬ n > e.platform.maxHeapBytes := fun n hn => by
    rw [Launch.admits_maxHeapBytes X.admits]; omega
  jvm_step X.here [hexec, hdg]
  simp only [multianewarray.sem, wp_bind', W.resolveClassAt_links (State.method?_setTop (F0 m pc ls (.int 60 :: .int 4 :: st)) X.here.top) hg1]
  rw [W.popN, if_neg (by decide)]
  refine ⟨_, State.topJava?_setTop' (s := T.setVm vm1) _ X.here.top, [.int 4, .int 60], st, rfl, rfl, ?_⟩
  simp only [List.mapM_cons, List.mapM_nil, wp_bind', wp_pure']
  refine wa_rows (kA := kA1) (kc := kC1) (comp := comp) (cc := cl) hkA1 hkdA1 hkC1 hkdC1 (hlim 4 (by decide)) (hby 16 (by decide)) (hlim 60 (by decide)) (hby 480 (by decide)) (by show T.heap.size + 5 ≤ _; omega) (by show T.slotsUsed + 244 ≤ _; omega) (fun d2 acts2 => ?_)
  have eS : ((T.setTop (F0 m pc ls (.int 60 :: .int 4 :: st))).setVm vm1).setTop { (F0 m pc ls (.int 60 :: .int 4 :: st)) with stack := st } = (T.setVm vm1).setTop { (F0 m pc ls (.int 60 :: .int 4 :: st)) with stack := st } := by
    show ((T.setVm vm1).setTop _).setTop _ = _
    rw [State.setTop_setTop]
  rw [eS, (mN_t 4).1]
  simp only [wp_bind', W.mark, W.pushRef, State.topJava?_setTop' _ X2.here.top, Option.some.injEq, exists_eq_left', State.setTop_setTop, State.heap_setTop]
  intro acts
  simp [jvm, X2.here.top]
  exact a1
end MULX
section MULG
variable {B n0 : Nat} {tx : Nat × Nat} {E : Nat → Nat → List (Nat × Nat) → Nat → List (Nat × Value) → List Value → Sto → Prop} {own : String} {cc : ByteArray} {nL fr lo mc ms cells slots : Nat} {Zf : ZG} {ks : List (Nat × Nat)} {pc q : Nat} {lv : List (Nat × Value)} {st : List Value} {σ : Sto}
theorem wsOf_hi {B : Nat} {ca : Nat → ClassId} {ks : List (Nat × Nat)} {σ : Sto} {x j v : Nat} (h : ks.length < x) : wsOf B ca Cn ks (sr σ x j v) = wsOf B ca Cn ks σ := by
  apply List.ext_getElem?
  intro i
  cases hk : ks[i]? with
  | none => rw [wsOf_none hk, wsOf_none hk]
  | some kd =>
    have hi : i < ks.length := (List.getElem?_eq_some_iff.mp hk).1
    rw [wsOf_at hk, wsOf_at hk, cE_sr (by omega)]
theorem g_multi (C : Cz B n0 tx E own cc nL fr lo mc ms Zf) {idx a b1 b2 b3 b4 : Nat} (hw1 : Cond.classLink own idx "[[J" ∈ tbG) (hk : n0 + cells = ks.length) (ha : ks.length + 1 = a) (h1 : a + 1 = b1) (h2 : a + 2 = b2) (h3 : a + 3 = b3) (h4 : a + 4 = b4) (hz : ∀ j, j ≤ 4 → ZA σ (a + j)) (hcs : cells + 5 ≤ mc) (hsl : slots + 244 ≤ ms) (hd : decode cc pc = .ok (.multianewarray idx 2, 4)) (hq : pc + 4 = q)
    (k : E (cells + 5) (slots + 244) (ks ++ [(5, 4)] ++ [(2, 60)] ++ [(2, 60)] ++ [(2, 60)] ++ [(2, 60)]) q lv (.ref (B + a) :: st) (sr (sr (sr (sr σ a 0 b1) a 1 b2) a 2 b3) a 3 b4)) : E cells slots ks pc lv (.int 60 :: .int 4 :: st) σ := by
  obtain ⟨D, ca, p, l, e, R, s, m, args, below, meth, c, Q, rfl, C, hX, hfr, hlo, hmc, hms, hs, hZ⟩ := C
  intro H locs ls hR hl T' hT X'
  have hH := ev_size C hs hk hR hT X'
  obtain ⟨kA, hkA, hkdA⟩ := hX.2.1
  have hnm : s.vm.findClass "[[J" = some (ca 5) := (C.2.2.2.2.2.1.2 4 (ca 5, .array .long) rfl).2
  obtain ⟨-, kC, hkC, cl, hkdC⟩ := (C.2.2.2.2.2.1.2 1 (ca 2, .long) rfl).1 0 (fun _ => .null)
  subst hq h1 h2 h3 h4 ha
  suffices key : W p l e R s m args below meth c H locs cells slots Q (F0 m pc ls (.int 60 :: .int 4 :: st)) from key T' hT X'
  refine W_multi C.1 C.2.1 C.2.2.2.1 (C.2.2.2.2.1 _ hw1) hnm hkA hkdA hkC hkdC (by omega) (by omega) hd (fun H1 locs1 z1 o1 e1 e2 hlo1 => ?_)
  rw [hH] at z1 o1 e1 e2 hlo1 ⊢
  have hz0 := hz 0 (by decide)
  refine k H1 locs1 ls ⟨?_, ⟨by have := hR.2.1.1; omega, fun x q1 q2 => (o1 x (by have := hR.2.1.1; omega)).trans (hR.2.1.2.1 x q1 q2), fun x hx => ?_⟩, trivial⟩ hl
  · have hkept : va_P D vwCl (wsOf B ca Cn ks (sr (sr (sr (sr σ (ks.length + 1) 0 (ks.length + 1 + 1)) (ks.length + 1) 1 (ks.length + 1 + 2)) (ks.length + 1) 2 (ks.length + 1 + 3)) (ks.length + 1) 3 (ks.length + 1 + 4))) H1 := by
      rw [wsOf_hi (by omega), wsOf_hi (by omega), wsOf_hi (by omega), wsOf_hi (by omega)]
      exact hR.1.kept (fun k x hx => o1 x.1 (by rw [← hH]; exact (hR.1 k x hx).lt))
    have hrow : ∀ j, j < 4 → va_at D vwCl (B + (ks.length + 1 + j + 1), cE B ca Cn (sr (sr (sr (sr σ (ks.length + 1) 0 (ks.length + 1 + 1)) (ks.length + 1) 1 (ks.length + 1 + 2)) (ks.length + 1) 2 (ks.length + 1 + 3)) (ks.length + 1) 3 (ks.length + 1 + 4)) (2, 60) (ks.length + 1 + j + 1)) H1 := fun j hj => by
      show H1[B + (ks.length + 1 + j + 1)]? = some (vp_cell (ca 2) (60, .inr (.inl (fun i => gl σ (ks.length + 1 + j + 1) i))))
      have e3 : (fun i => gl σ (ks.length + 1 + j + 1) i) = fun _ => (0 : Int64) := funext (fun i => (hz (j + 1) (by omega) i).2.1)
      rw [e3, show B + (ks.length + 1 + j + 1) = B + ks.length + 1 + 1 + j by omega, e2 j hj]
      show some (mI (ca 2)) = some (arrV (ca 2) 60 (fun _ => .long 0))
      rw [← arrV_new]
      rfl
    have l1 : (ks ++ [(5, 4)]).length = ks.length + 1 := by simp
    have l2 : (ks ++ [(5, 4)] ++ [(2, 60)]).length = ks.length + 2 := by simp
    have l3 : (ks ++ [(5, 4)] ++ [(2, 60)] ++ [(2, 60)]).length = ks.length + 3 := by simp
    have l4 : (ks ++ [(5, 4)] ++ [(2, 60)] ++ [(2, 60)] ++ [(2, 60)]).length = ks.length + 4 := by simp
    rw [wsOf_app, wsOf_app, wsOf_app, wsOf_app, wsOf_app, l1, l2, l3, l4]
    refine ((((hkept.app (va_P.one ?_)).app (va_P.one (hrow 0 (by decide)))).app (va_P.one (hrow 1 (by decide)))).app (va_P.one (hrow 2 (by decide)))).app (va_P.one (hrow 3 (by decide)))
    show H1[B + ks.length + 1]? = some (vp_cell (ca 5) (4, .inr (.inr (.inr (.inr (fun j => ro B (rf Cn (sr (sr (sr (sr σ (ks.length + 1) 0 (ks.length + 1 + 1)) (ks.length + 1) 1 (ks.length + 1 + 2)) (ks.length + 1) 2 (ks.length + 1 + 3)) (ks.length + 1) 3 (ks.length + 1 + 4)) (ks.length + 1) j)))))))
    have e4 : ∀ j, j < 4 → rf Cn (sr (sr (sr (sr σ (ks.length + 1) 0 (ks.length + 1 + 1)) (ks.length + 1) 1 (ks.length + 1 + 2)) (ks.length + 1) 2 (ks.length + 1 + 3)) (ks.length + 1) 3 (ks.length + 1 + 4)) (ks.length + 1) j = ks.length + 1 + 1 + j := fun j hj => by
      rcases (show j = 0 ∨ j = 1 ∨ j = 2 ∨ j = 3 by omega) with rfl | rfl | rfl | rfl <;> simp [rf, Cn, gr, sr]
    rw [e1, vp_cell_q]
    refine congrArg some (arrV_x (fun j hj => ?_))
    rw [e4 j hj]
    unfold ro
    rw [if_neg (by omega)]
    show Value.ref (B + ks.length + 1 + 1 + j) = Value.ref (B + (ks.length + 1 + 1 + j))
    rw [show B + ks.length + 1 + 1 + j = B + (ks.length + 1 + 1 + j) by omega]
  · rcases hlo1 x hx with q | q
    · exact hR.2.1.2.2 x q
    · show B < x.base
      rw [q]
      show B < B + ks.length + 1
      omega
end MULG
