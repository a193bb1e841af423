/-! ===== making, rows ===== -/
section GRows
variable {B n0 : Nat} {tx : Nat × Nat} {E : Nat → Nat → List (Nat × Nat) → Nat → List (Nat × Value) → List Value → Sto → Prop} {own : String} {cc : ByteArray} {nL fr lo mc ms cells slots : Nat} {Zf : ZG} {ks : List (Nat × Nat)} {pc q : Nat} {lv : List (Nat × Value)} {st : List Value} {σ : Sto}
theorem g_iadd (C : Cz B n0 tx E own cc nL fr lo mc ms Zf) {x y : Int32} (hd : decode cc pc = .ok (.iadd, 1)) (hq : pc + 1 = q) (k : E cells slots ks q lv (.int (x + y) :: st) σ) : E cells slots ks pc lv (.int y :: .int x :: st) σ := by
  obtain ⟨D, ca, p, l, e, R, s, m, args, below, meth, c, Q, rfl, C, hX, hfr, hlo, hmc, hms, hs, hZ⟩ := C
  exact e_iadd C hd hq k
theorem g_isub (C : Cz B n0 tx E own cc nL fr lo mc ms Zf) {x y : Int32} (hd : decode cc pc = .ok (.isub, 1)) (hq : pc + 1 = q) (k : E cells slots ks q lv (.int (x - y) :: st) σ) : E cells slots ks pc lv (.int y :: .int x :: st) σ := by
  obtain ⟨D, ca, p, l, e, R, s, m, args, below, meth, c, Q, rfl, C, hX, hfr, hlo, hmc, hms, hs, hZ⟩ := C
  exact e_isub C hd hq k
theorem g_iand (C : Cz B n0 tx E own cc nL fr lo mc ms Zf) {x y : Int32} (hd : decode cc pc = .ok (.iand, 1)) (hq : pc + 1 = q) (k : E cells slots ks q lv (.int (x &&& y) :: st) σ) : E cells slots ks pc lv (.int y :: .int x :: st) σ := by
  obtain ⟨D, ca, p, l, e, R, s, m, args, below, meth, c, Q, rfl, C, hX, hfr, hlo, hmc, hms, hs, hZ⟩ := C
  exact e_iand C hd hq k
theorem g_ishr (C : Cz B n0 tx E own cc nL fr lo mc ms Zf) {x y : Int32} (hd : decode cc pc = .ok (.ishr, 1)) (hq : pc + 1 = q) (k : E cells slots ks q lv (.int (x >>> (y &&& 31)) :: st) σ) : E cells slots ks pc lv (.int y :: .int x :: st) σ := by
  obtain ⟨D, ca, p, l, e, R, s, m, args, below, meth, c, Q, rfl, C, hX, hfr, hlo, hmc, hms, hs, hZ⟩ := C
  exact e_ishr C hd hq k
theorem g_lor (C : Cz B n0 tx E own cc nL fr lo mc ms Zf) {x y : Int64} (hd : decode cc pc = .ok (.lor, 1)) (hq : pc + 1 = q) (k : E cells slots ks q lv (.long (x ||| y) :: st) σ) : E cells slots ks pc lv (.long y :: .long x :: st) σ := by
  obtain ⟨D, ca, p, l, e, R, s, m, args, below, meth, c, Q, rfl, C, hX, hfr, hlo, hmc, hms, hs, hZ⟩ := C
  exact e_lor C hd hq k
theorem g_i2l (C : Cz B n0 tx E own cc nL fr lo mc ms Zf) {x : Int32} (hd : decode cc pc = .ok (.i2l, 1)) (hq : pc + 1 = q) (k : E cells slots ks q lv (.long x.toInt64 :: st) σ) : E cells slots ks pc lv (.int x :: st) σ := by
  obtain ⟨D, ca, p, l, e, R, s, m, args, below, meth, c, Q, rfl, C, hX, hfr, hlo, hmc, hms, hs, hZ⟩ := C
  exact e_i2l C hd hq k
theorem g_lshl (C : Cz B n0 tx E own cc nL fr lo mc ms Zf) {x : Int64} {y : Int32} (hd : decode cc pc = .ok (.lshl, 1)) (hq : pc + 1 = q) (k : E cells slots ks q lv (.long (x <<< (y.toInt64 &&& 63)) :: st) σ) : E cells slots ks pc lv (.int y :: .long x :: st) σ := by
  obtain ⟨D, ca, p, l, e, R, s, m, args, below, meth, c, Q, rfl, C, hX, hfr, hlo, hmc, hms, hs, hZ⟩ := C
  exact e_lshl C hd hq k
theorem g_dup (C : Cz B n0 tx E own cc nL fr lo mc ms Zf) {v : Value} (hd : decode cc pc = .ok (.dup, 1)) (hv : v.category = 1) (hq : pc + 1 = q) (k : E cells slots ks q lv (v :: v :: st) σ) : E cells slots ks pc lv (v :: st) σ := by
  obtain ⟨D, ca, p, l, e, R, s, m, args, below, meth, c, Q, rfl, C, hX, hfr, hlo, hmc, hms, hs, hZ⟩ := C
  exact e_dup C hd hv hq k
theorem g_pop (C : Cz B n0 tx E own cc nL fr lo mc ms Zf) {v : Value} (hd : decode cc pc = .ok (.pop, 1)) (hv : v.category = 1) (hq : pc + 1 = q) (k : E cells slots ks q lv st σ) : E cells slots ks pc lv (v :: st) σ := by
  obtain ⟨D, ca, p, l, e, R, s, m, args, below, meth, c, Q, rfl, C, hX, hfr, hlo, hmc, hms, hs, hZ⟩ := C
  exact e_pop C hd hv hq k
theorem g_iconst (C : Cz B n0 tx E own cc nL fr lo mc ms Zf) {n : Int} {v : Int32} (hd : decode cc pc = .ok (.iconst n, 1)) (hv : Int32.ofInt n = v) (hq : pc + 1 = q) (k : E cells slots ks q lv (.int v :: st) σ) : E cells slots ks pc lv st σ := by
  obtain ⟨D, ca, p, l, e, R, s, m, args, below, meth, c, Q, rfl, C, hX, hfr, hlo, hmc, hms, hs, hZ⟩ := C
  exact e_iconst C hd hv hq k
theorem g_bipush (C : Cz B n0 tx E own cc nL fr lo mc ms Zf) {n : Int} {v : Int32} (hd : decode cc pc = .ok (.bipush n, 2)) (hv : (Int8.ofInt n).toInt32 = v) (hq : pc + 2 = q) (k : E cells slots ks q lv (.int v :: st) σ) : E cells slots ks pc lv st σ := by
  obtain ⟨D, ca, p, l, e, R, s, m, args, below, meth, c, Q, rfl, C, hX, hfr, hlo, hmc, hms, hs, hZ⟩ := C
  exact e_bipush C hd hv hq k
theorem g_sipush (C : Cz B n0 tx E own cc nL fr lo mc ms Zf) {n : Int} {v : Int32} (hd : decode cc pc = .ok (.sipush n, 3)) (hv : (Int16.ofInt n).toInt32 = v) (hq : pc + 3 = q) (k : E cells slots ks q lv (.int v :: st) σ) : E cells slots ks pc lv st σ := by
  obtain ⟨D, ca, p, l, e, R, s, m, args, below, meth, c, Q, rfl, C, hX, hfr, hlo, hmc, hms, hs, hZ⟩ := C
  exact e_sipush C hd hv hq k
theorem g_lconst (C : Cz B n0 tx E own cc nL fr lo mc ms Zf) {n : Fin 2} {v : Int64} (hd : decode cc pc = .ok (.lconst n, 1)) (hv : Int64.ofNat (n : Nat) = v) (hq : pc + 1 = q) (k : E cells slots ks q lv (.long v :: st) σ) : E cells slots ks pc lv st σ := by
  obtain ⟨D, ca, p, l, e, R, s, m, args, below, meth, c, Q, rfl, C, hX, hfr, hlo, hmc, hms, hs, hZ⟩ := C
  exact e_lconst C hd hv hq k
theorem g_iload_n (C : Cz B n0 tx E own cc nL fr lo mc ms Zf) {j i : Nat} {x : Int32} {f : Fin 4} (hd : decode cc pc = .ok (.iload_n f, 1)) (hi : (f : Nat) = i) (hx : lv[j]? = some (i, .int x)) (hq : pc + 1 = q) (k : E cells slots ks q lv (.int x :: st) σ) : E cells slots ks pc lv st σ := by
  obtain ⟨D, ca, p, l, e, R, s, m, args, below, meth, c, Q, rfl, C, hX, hfr, hlo, hmc, hms, hs, hZ⟩ := C
  exact e_iload_n C hd hi hx hq k
theorem g_iload (C : Cz B n0 tx E own cc nL fr lo mc ms Zf) {j i : Nat} {x : Int32} (hd : decode cc pc = .ok (.iload i, 2)) (hx : lv[j]? = some (i, .int x)) (hq : pc + 2 = q) (k : E cells slots ks q lv (.int x :: st) σ) : E cells slots ks pc lv st σ := by
  obtain ⟨D, ca, p, l, e, R, s, m, args, below, meth, c, Q, rfl, C, hX, hfr, hlo, hmc, hms, hs, hZ⟩ := C
  exact e_iload C hd hx hq k
theorem g_lload_n (C : Cz B n0 tx E own cc nL fr lo mc ms Zf) {j i : Nat} {x : Int64} {f : Fin 4} (hd : decode cc pc = .ok (.lload_n f, 1)) (hi : (f : Nat) = i) (hx : lv[j]? = some (i, .long x)) (hq : pc + 1 = q) (k : E cells slots ks q lv (.long x :: st) σ) : E cells slots ks pc lv st σ := by
  obtain ⟨D, ca, p, l, e, R, s, m, args, below, meth, c, Q, rfl, C, hX, hfr, hlo, hmc, hms, hs, hZ⟩ := C
  exact e_lload_n C hd hi hx hq k
theorem g_lload (C : Cz B n0 tx E own cc nL fr lo mc ms Zf) {j i : Nat} {x : Int64} (hd : decode cc pc = .ok (.lload i, 2)) (hx : lv[j]? = some (i, .long x)) (hq : pc + 2 = q) (k : E cells slots ks q lv (.long x :: st) σ) : E cells slots ks pc lv st σ := by
  obtain ⟨D, ca, p, l, e, R, s, m, args, below, meth, c, Q, rfl, C, hX, hfr, hlo, hmc, hms, hs, hZ⟩ := C
  exact e_lload C hd hx hq k
theorem g_aload_n (C : Cz B n0 tx E own cc nL fr lo mc ms Zf) {j i : Nat} {x : Nat} {f : Fin 4} (hd : decode cc pc = .ok (.aload_n f, 1)) (hi : (f : Nat) = i) (hx : lv[j]? = some (i, .ref x)) (hq : pc + 1 = q) (k : E cells slots ks q lv (.ref x :: st) σ) : E cells slots ks pc lv st σ := by
  obtain ⟨D, ca, p, l, e, R, s, m, args, below, meth, c, Q, rfl, C, hX, hfr, hlo, hmc, hms, hs, hZ⟩ := C
  exact e_aload_n C hd hi hx hq k
theorem g_aload (C : Cz B n0 tx E own cc nL fr lo mc ms Zf) {j i : Nat} {x : Nat} (hd : decode cc pc = .ok (.aload i, 2)) (hx : lv[j]? = some (i, .ref x)) (hq : pc + 2 = q) (k : E cells slots ks q lv (.ref x :: st) σ) : E cells slots ks pc lv st σ := by
  obtain ⟨D, ca, p, l, e, R, s, m, args, below, meth, c, Q, rfl, C, hX, hfr, hlo, hmc, hms, hs, hZ⟩ := C
  exact e_aload C hd hx hq k
theorem g_istore_n (C : Cz B n0 tx E own cc nL fr lo mc ms Zf) {i : Nat} {x : Int32} {lv2 : List (Nat × Value)} {f : Fin 4} (hd : decode cc pc = .ok (.istore_n f, 1)) (hi : (f : Nat) = i) (hn : i < nL) (hl : (i, Value.int x) :: lv.filter (fun q => !(q.1 == i) && !(q.1 + 1 == i && q.2.category == 2)) = lv2) (hq : pc + 1 = q) (k : E cells slots ks q lv2 st σ) : E cells slots ks pc lv (.int x :: st) σ := by
  obtain ⟨D, ca, p, l, e, R, s, m, args, below, meth, c, Q, rfl, C, hX, hfr, hlo, hmc, hms, hs, hZ⟩ := C
  exact e_istore_n C hd hi hn hl hq k
theorem g_istore (C : Cz B n0 tx E own cc nL fr lo mc ms Zf) {i : Nat} {x : Int32} {lv2 : List (Nat × Value)} (hd : decode cc pc = .ok (.istore i, 2)) (hn : i < nL) (hl : (i, Value.int x) :: lv.filter (fun q => !(q.1 == i) && !(q.1 + 1 == i && q.2.category == 2)) = lv2) (hq : pc + 2 = q) (k : E cells slots ks q lv2 st σ) : E cells slots ks pc lv (.int x :: st) σ := by
  obtain ⟨D, ca, p, l, e, R, s, m, args, below, meth, c, Q, rfl, C, hX, hfr, hlo, hmc, hms, hs, hZ⟩ := C
  exact e_istore C hd hn hl hq k
theorem g_lstore_n (C : Cz B n0 tx E own cc nL fr lo mc ms Zf) {i : Nat} {x : Int64} {lv2 : List (Nat × Value)} {f : Fin 4} (hd : decode cc pc = .ok (.lstore_n f, 1)) (hi : (f : Nat) = i) (hn : i + 1 < nL) (hl : (i, Value.long x) :: lv.filter (fun q => !(q.1 == i) && (!(q.1 == i + 1) && !(q.1 + 1 == i && q.2.category == 2))) = lv2) (hq : pc + 1 = q) (k : E cells slots ks q lv2 st σ) : E cells slots ks pc lv (.long x :: st) σ := by
  obtain ⟨D, ca, p, l, e, R, s, m, args, below, meth, c, Q, rfl, C, hX, hfr, hlo, hmc, hms, hs, hZ⟩ := C
  exact e_lstore_n C hd hi hn hl hq k
theorem g_lstore (C : Cz B n0 tx E own cc nL fr lo mc ms Zf) {i : Nat} {x : Int64} {lv2 : List (Nat × Value)} (hd : decode cc pc = .ok (.lstore i, 2)) (hn : i + 1 < nL) (hl : (i, Value.long x) :: lv.filter (fun q => !(q.1 == i) && (!(q.1 == i + 1) && !(q.1 + 1 == i && q.2.category == 2))) = lv2) (hq : pc + 2 = q) (k : E cells slots ks q lv2 st σ) : E cells slots ks pc lv (.long x :: st) σ := by
  obtain ⟨D, ca, p, l, e, R, s, m, args, below, meth, c, Q, rfl, C, hX, hfr, hlo, hmc, hms, hs, hZ⟩ := C
  exact e_lstore C hd hn hl hq k
theorem g_astore_n (C : Cz B n0 tx E own cc nL fr lo mc ms Zf) {i : Nat} {x : Nat} {lv2 : List (Nat × Value)} {f : Fin 4} (hd : decode cc pc = .ok (.astore_n f, 1)) (hi : (f : Nat) = i) (hn : i < nL) (hl : (i, Value.ref x) :: lv.filter (fun q => !(q.1 == i) && !(q.1 + 1 == i && q.2.category == 2)) = lv2) (hq : pc + 1 = q) (k : E cells slots ks q lv2 st σ) : E cells slots ks pc lv (.ref x :: st) σ := by
  obtain ⟨D, ca, p, l, e, R, s, m, args, below, meth, c, Q, rfl, C, hX, hfr, hlo, hmc, hms, hs, hZ⟩ := C
  exact e_astore_n C hd hi hn hl hq k
theorem g_iinc (C : Cz B n0 tx E own cc nL fr lo mc ms Zf) {i j : Nat} {n : Int} {x v : Int32} {lv2 : List (Nat × Value)} (hd : decode cc pc = .ok (.iinc i n, 3)) (hx : lv[j]? = some (i, .int x)) (hv : x + Int32.ofInt n = v) (hn : i < nL) (hl : (i, Value.int v) :: lv.filter (fun q => !(q.1 == i) && !(q.1 + 1 == i && q.2.category == 2)) = lv2) (hq : pc + 3 = q) (k : E cells slots ks q lv2 st σ) : E cells slots ks pc lv st σ := by
  obtain ⟨D, ca, p, l, e, R, s, m, args, below, meth, c, Q, rfl, C, hX, hfr, hlo, hmc, hms, hs, hZ⟩ := C
  exact e_iinc C hd hx hv hn hl hq k
theorem g_if_eq (C : Cz B n0 tx E own cc nL fr lo mc ms Zf) {x : Int32} {off : Int} {t : Nat} (hd : decode cc pc = .ok (.ifCond .eq off, 3)) (ht : (pc : Int) + off = (t : Int)) (hq : pc + 3 = q) (k1 : x = 0 → E cells slots ks t lv st σ) (k2 : ¬ x = 0 → E cells slots ks q lv st σ) : E cells slots ks pc lv (.int x :: st) σ := by
  obtain ⟨D, ca, p, l, e, R, s, m, args, below, meth, c, Q, rfl, C, hX, hfr, hlo, hmc, hms, hs, hZ⟩ := C
  exact e_if_eq C hd ht hq k1 k2
theorem g_if_ne (C : Cz B n0 tx E own cc nL fr lo mc ms Zf) {x : Int32} {off : Int} {t : Nat} (hd : decode cc pc = .ok (.ifCond .ne off, 3)) (ht : (pc : Int) + off = (t : Int)) (hq : pc + 3 = q) (k1 : ¬ x = 0 → E cells slots ks t lv st σ) (k2 : x = 0 → E cells slots ks q lv st σ) : E cells slots ks pc lv (.int x :: st) σ := by
  obtain ⟨D, ca, p, l, e, R, s, m, args, below, meth, c, Q, rfl, C, hX, hfr, hlo, hmc, hms, hs, hZ⟩ := C
  exact e_if_ne C hd ht hq k1 k2
theorem g_icmp_ne (C : Cz B n0 tx E own cc nL fr lo mc ms Zf) {x y : Int32} {off : Int} {t : Nat} (hd : decode cc pc = .ok (.if_icmp .ne off, 3)) (ht : (pc : Int) + off = (t : Int)) (hq : pc + 3 = q) (k1 : ¬ x = y → E cells slots ks t lv st σ) (k2 : x = y → E cells slots ks q lv st σ) : E cells slots ks pc lv (.int y :: .int x :: st) σ := by
  obtain ⟨D, ca, p, l, e, R, s, m, args, below, meth, c, Q, rfl, C, hX, hfr, hlo, hmc, hms, hs, hZ⟩ := C
  exact e_icmp_ne C hd ht hq k1 k2
theorem g_if_lt (C : Cz B n0 tx E own cc nL fr lo mc ms Zf) {x : Int32} {off : Int} {t : Nat} (hd : decode cc pc = .ok (.ifCond .lt off, 3)) (ht : (pc : Int) + off = (t : Int)) (hq : pc + 3 = q) (k1 : x < 0 → E cells slots ks t lv st σ) (k2 : ¬ x < 0 → E cells slots ks q lv st σ) : E cells slots ks pc lv (.int x :: st) σ := by
  obtain ⟨D, ca, p, l, e, R, s, m, args, below, meth, c, Q, rfl, C, hX, hfr, hlo, hmc, hms, hs, hZ⟩ := C
  exact e_if_lt C hd ht hq k1 k2
theorem g_icmp_lt (C : Cz B n0 tx E own cc nL fr lo mc ms Zf) {x y : Int32} {off : Int} {t : Nat} (hd : decode cc pc = .ok (.if_icmp .lt off, 3)) (ht : (pc : Int) + off = (t : Int)) (hq : pc + 3 = q) (k1 : x < y → E cells slots ks t lv st σ) (k2 : ¬ x < y → E cells slots ks q lv st σ) : E cells slots ks pc lv (.int y :: .int x :: st) σ := by
  obtain ⟨D, ca, p, l, e, R, s, m, args, below, meth, c, Q, rfl, C, hX, hfr, hlo, hmc, hms, hs, hZ⟩ := C
  exact e_icmp_lt C hd ht hq k1 k2
theorem g_icmp_ge (C : Cz B n0 tx E own cc nL fr lo mc ms Zf) {x y : Int32} {off : Int} {t : Nat} (hd : decode cc pc = .ok (.if_icmp .ge off, 3)) (ht : (pc : Int) + off = (t : Int)) (hq : pc + 3 = q) (k1 : y ≤ x → E cells slots ks t lv st σ) (k2 : ¬ y ≤ x → E cells slots ks q lv st σ) : E cells slots ks pc lv (.int y :: .int x :: st) σ := by
  obtain ⟨D, ca, p, l, e, R, s, m, args, below, meth, c, Q, rfl, C, hX, hfr, hlo, hmc, hms, hs, hZ⟩ := C
  exact e_icmp_ge C hd ht hq k1 k2
theorem g_goto (C : Cz B n0 tx E own cc nL fr lo mc ms Zf) {off : Int} {t : Nat} (hd : decode cc pc = .ok (.goto off, 3)) (ht : (pc : Int) + off = (t : Int)) (k : E cells slots ks t lv st σ) : E cells slots ks pc lv st σ := by
  obtain ⟨D, ca, p, l, e, R, s, m, args, below, meth, c, Q, rfl, C, hX, hfr, hlo, hmc, hms, hs, hZ⟩ := C
  exact e_goto C hd ht k
theorem g_lv (C : Cz B n0 tx E own cc nL fr lo mc ms Zf) {lv2 : List (Nat × Value)} (is : List Nat) (h : lv_pick lv is = lv2) (k : E cells slots ks pc lv2 st σ) : E cells slots ks pc lv st σ := by
  obtain ⟨D, ca, p, l, e, R, s, m, args, below, meth, c, Q, rfl, C, hX, hfr, hlo, hmc, hms, hs, hZ⟩ := C
  exact e_lv is h k
theorem g_geti (C : Cz B n0 tx E own cc nL fr lo mc ms Zf) {i idx ci k a : Nat} (F : Fl own idx ci k) (hp : fpl (fTy ci k) = 0) (ha : i + 1 = a) (hk : ks[i]? = some (0, ci)) (hd : decode cc pc = .ok (.getfield idx, 3)) (hq : pc + 3 = q) (kk : E cells slots ks q lv (.int (gi σ a k) :: st) σ) : E cells slots ks pc lv (.ref (B + a) :: st) σ := by
  obtain ⟨D, ca, p, l, e, R, s, m, args, below, meth, c, Q, rfl, C, hX, hfr, hlo, hmc, hms, hs, hZ⟩ := C
  exact e_geti C F hp ha hk hd hq kk
theorem g_getr (C : Cz B n0 tx E own cc nL fr lo mc ms Zf) {i idx ci k a b : Nat} (F : Fl own idx ci k) (hp : fpl (fTy ci k) = 2) (ha : i + 1 = a) (hk : ks[i]? = some (0, ci)) (hb : rf Cn σ a k = b) (hz : b ≠ 0) (hd : decode cc pc = .ok (.getfield idx, 3)) (hq : pc + 3 = q) (kk : E cells slots ks q lv (.ref (B + b) :: st) σ) : E cells slots ks pc lv (.ref (B + a) :: st) σ := by
  obtain ⟨D, ca, p, l, e, R, s, m, args, below, meth, c, Q, rfl, C, hX, hfr, hlo, hmc, hms, hs, hZ⟩ := C
  exact e_getr C F hp ha hk hb hz hd hq kk
theorem g_puti (C : Cz B n0 tx E own cc nL fr lo mc ms Zf) {i idx ci k a : Nat} {v : Int32} (F : Fl own idx ci k) (M : FlM ci k) (hp : fTy ci k = .int) (ha : i + 1 = a) (hk : ks[i]? = some (0, ci)) (hd : decode cc pc = .ok (.putfield idx, 3)) (hq : pc + 3 = q) (kk : E cells slots ks q lv st (si σ a k v)) : E cells slots ks pc lv (.int v :: .ref (B + a) :: st) σ := by
  obtain ⟨D, ca, p, l, e, R, s, m, args, below, meth, c, Q, rfl, C, hX, hfr, hlo, hmc, hms, hs, hZ⟩ := C
  exact e_puti C F M hp ha hk hd hq kk
theorem g_putl (C : Cz B n0 tx E own cc nL fr lo mc ms Zf) {i idx ci k a : Nat} {v : Int64} (F : Fl own idx ci k) (M : FlM ci k) (hp : fTy ci k = .long) (ha : i + 1 = a) (hk : ks[i]? = some (0, ci)) (hd : decode cc pc = .ok (.putfield idx, 3)) (hq : pc + 3 = q) (kk : E cells slots ks q lv st (sl σ a k v)) : E cells slots ks pc lv (.long v :: .ref (B + a) :: st) σ := by
  obtain ⟨D, ca, p, l, e, R, s, m, args, below, meth, c, Q, rfl, C, hX, hfr, hlo, hmc, hms, hs, hZ⟩ := C
  exact e_putl C F M hp ha hk hd hq kk
theorem g_putz (C : Cz B n0 tx E own cc nL fr lo mc ms Zf) {i idx ci k a : Nat} {v : Int32} (F : Fl own idx ci k) (M : FlM ci k) (hp : fTy ci k = .boolean) (hb : v = 0 ∨ v = 1) (ha : i + 1 = a) (hk : ks[i]? = some (0, ci)) (hd : decode cc pc = .ok (.putfield idx, 3)) (hq : pc + 3 = q) (kk : E cells slots ks q lv st (si σ a k v)) : E cells slots ks pc lv (.int v :: .ref (B + a) :: st) σ := by
  obtain ⟨D, ca, p, l, e, R, s, m, args, below, meth, c, Q, rfl, C, hX, hfr, hlo, hmc, hms, hs, hZ⟩ := C
  exact e_putz C F M hp hb ha hk hd hq kk
theorem g_putr (C : Cz B n0 tx E own cc nL fr lo mc ms Zf) {i idx ci k a b : Nat} (F : Fl own idx ci k) (M : FlM ci k) (hp : fpl (fTy ci k) = 2) (hz : b ≠ 0) (ha : i + 1 = a) (hk : ks[i]? = some (0, ci)) (hd : decode cc pc = .ok (.putfield idx, 3)) (hq : pc + 3 = q) (kk : E cells slots ks q lv st (sr σ a k b)) : E cells slots ks pc lv (.ref (B + b) :: .ref (B + a) :: st) σ := by
  obtain ⟨D, ca, p, l, e, R, s, m, args, below, meth, c, Q, rfl, C, hX, hfr, hlo, hmc, hms, hs, hZ⟩ := C
  exact e_putr C F M hp hz rfl trivial ha hk hd hq kk
theorem g_iast (C : Cz B n0 tx E own cc nL fr lo mc ms Zf) {i a n : Nat} {x : Int32} {v : Int32} (ha : i + 1 = a) (hk : ks[i]? = some (1, n)) (hin : vp_in x n) (hd : decode cc pc = .ok (.iastore, 1)) (hq : pc + 1 = q) (k : E cells slots ks q lv st (si σ a x.toNatClampNeg v)) : E cells slots ks pc lv (.int v :: .int x :: .ref (B + a) :: st) σ := by
  obtain ⟨D, ca, p, l, e, R, s, m, args, below, meth, c, Q, rfl, C, hX, hfr, hlo, hmc, hms, hs, hZ⟩ := C
  exact e_iast C ha hk hin hd hq k
theorem g_last (C : Cz B n0 tx E own cc nL fr lo mc ms Zf) {i a n : Nat} {x : Int32} {v : Int64} (ha : i + 1 = a) (hk : ks[i]? = some (2, n)) (hin : vp_in x n) (hd : decode cc pc = .ok (.lastore, 1)) (hq : pc + 1 = q) (k : E cells slots ks q lv st (sl σ a x.toNatClampNeg v)) : E cells slots ks pc lv (.long v :: .int x :: .ref (B + a) :: st) σ := by
  obtain ⟨D, ca, p, l, e, R, s, m, args, below, meth, c, Q, rfl, C, hX, hfr, hlo, hmc, hms, hs, hZ⟩ := C
  exact e_last C ha hk hin hd hq k
end GRows
