/-! ===== making, rows ===== -/
section GRows
variable {B n0 : Nat} {tx : Nat × Nat} {E : Nat → Nat → List (Nat × Nat) → Nat → List (Nat × Value) → List Value → Sto → Prop} {own : String} {cc : ByteArray} {nL fr lo mc ms cells slots : Nat} {Zf : ZG} {ks : List (Nat × Nat)} {pc q : Nat} {lv : List (Nat × Value)} {st : List Value} {σ : Sto}
def dfv (n : Nat) : Value := match n with
  | 0 => .int 0 | 1 => .long 0 | _ => .null
theorem fv_zero {B : Nat} {σ : Sto} {a k pl : Nat} (hz : ZA σ a) : fv B Cn σ pl a k = dfv pl := by
  match pl with
  | 0 =>
    show Value.int (gi σ a k) = .int 0
    rw [(hz k).1]
  | 1 =>
    show Value.long (gl σ a k) = .long 0
    rw [(hz k).2.1]
  | n + 2 =>
    show va_rf (ro B (rf Cn σ a k)) = .null
    rw [show rf Cn σ a k = 0 from (hz k).2.2]
    rfl
theorem g_new (C : Cz B n0 tx E own cc nL fr lo mc ms Zf) {idx ci N a : Nat} {Cl : String} {T : u_T} (hc : vwCl[ci]? = some (Cl, T, N)) (hN : N = fN ci) (hin : ∀ w ∈ u_ws Cl T N, w ∈ tbG) (hty : ∀ k, k < N → parseFieldDescriptor (T k).2.2.1 = some (fTy ci k)) (hdf : ∀ j, j < N → defaultValue (fTy ci j) = dfv (fpl (fTy ci j))) (hw1 : Cond.classLink own idx Cl ∈ tbG) (hw2 : Cond.instantiable Cl N ∈ tbG) (hw3 : Cond.initialized Cl ∈ tbG) (hk : n0 + cells = ks.length) (ha : ks.length + 1 = a) (hz : ZA σ a) (hcs : cells + 1 ≤ mc) (hsl : slots + N ≤ ms) (hd : decode cc pc = .ok (.new idx, 3)) (hq : pc + 3 = q) (k : E (cells + 1) (slots + N) (ks ++ [(0, ci)]) q lv (.ref (B + a) :: st) σ) : E cells slots ks pc lv st σ := by
  obtain ⟨D, ca, p, l, e, R, s, m, args, below, meth, c, Q, rfl, C, hX, hfr, hlo, hmc, hms, hs, hZ⟩ := C
  intro H locs ls hR hl T' hT X'
  have hH := ev_size C hs hk hR hT X'
  subst hq ha
  have hKn := C.2.2.2.2.2.1.1 ci _ hc
  suffices key : W p l e R s m args below meth c H locs cells slots Q (F0 m pc ls st) from key T' hT X'
  refine W.newcK (g := F0 m pc ls st) C.1 C.2.1 C.2.2.2.1 (C.2.2.2.2.1 _ hw1) (C.2.2.2.2.1 _ hw2) (C.2.2.2.2.1 _ hw3) rfl hd (by omega) (by omega) hKn.2.1 hH (fun H1 kC hkC e1 z1 o1 => ?_)
  refine k H1 locs ls (hR.push hH z1 o1 ?_) hl
  refine ⟨_, hc, (u_born (fTy ci) C.2.2.2.2.1 hin hKn hkC e1 hty).to (fun j hj => ?_)⟩
  have hj2 : j < fN ci := hN ▸ hj
  have e2 : (((List.range (fN ci)).map (fun k => fv B Cn σ (fpl (fTy ci k)) (ks.length + 1) k)).getD j .null) = fv B Cn σ (fpl (fTy ci j)) (ks.length + 1) j := by
    rw [List.getD_eq_getElem?_getD, fv_map hj2]
    rfl
  rw [hdf j hj]
  exact ((fv_zero hz).symm.trans e2.symm)
theorem g_anew (C : Cz B n0 tx E own cc nL fr lo mc ms Zf) {n : Int32} {idx N a : Nat} (hw1 : Cond.classLink own idx "Unmade$City" ∈ tbG) (hn : ¬ n < 0) (hN : n.toNatClampNeg = N) (hb : N * 4 ≤ 536870912) (hk : n0 + cells = ks.length) (ha : ks.length + 1 = a) (hz : ZA σ a) (hcs : cells + 1 ≤ mc) (hsl : slots + N ≤ ms) (hd : decode cc pc = .ok (.anewarray idx, 3)) (hq : pc + 3 = q) (k : E (cells + 1) (slots + N) (ks ++ [(4, N)]) q lv (.ref (B + a) :: st) σ) : E cells slots ks pc lv (.int n :: st) σ := by
  obtain ⟨D, ca, p, l, e, R, s, m, args, below, meth, c, Q, rfl, C, hX, hfr, hlo, hmc, hms, hs, hZ⟩ := C
  intro H locs ls hR hl T' hT X'
  have hH := ev_size C hs hk hR hT X'
  subst hq ha hN
  suffices key : W p l e R s m args below meth c H locs cells slots Q (F0 m pc ls (.int n :: st)) from key T' hT X'
  refine W.anew (g := F0 m pc ls (.int n :: st)) C.1 C.2.1 C.2.2.2.1 (C.2.2.2.2.1 _ hw1) (va_AO.use hX.1) rfl hd rfl hn hb (by omega) (by omega) (fun cA kA comp f1 f2 f3 f4 => ?_)
  have hca : cA = ca 4 := by
    obtain ⟨kA', comp', -, -, -, h4⟩ := (C.2.2.2.2.2.1.2 3 (ca 4, .object "Unmade$City") rfl).2
    exact Option.some.inj (f1.symm.trans h4)
  show W p l e R s m args below meth c _ locs (cells + 1) (slots + n.toNatClampNeg) Q (F0 m (pc + 3) ls (.ref H.size :: st))
  rw [hH]
  refine k _ locs ls (hR.push hH (by rw [Array.size_push, hH]) (fun q hq => by rw [Array.getElem?_push, if_neg (by omega)]) ?_) hl
  show (H.push _)[B + ks.length + 1]? = some (vp_cell (ca 4) (n.toNatClampNeg, .inr (.inr (.inr (.inr (fun j => ro B (rf Cn σ (ks.length + 1) j)))))))
  have e2 : (fun j => ro B (rf Cn σ (ks.length + 1) j)) = fun _ => (none : Option Nat) := funext (fun j => by
    have e : rf Cn σ (ks.length + 1) j = 0 := (hz j).2.2
    rw [e]; rfl)
  rw [e2, ← hca, ← hH, Array.getElem?_push_size, vp_cell_q, ← arrV_new]
  rfl
end GRows
