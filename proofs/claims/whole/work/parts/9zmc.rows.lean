/-! ===== making, rows ===== -/
section GRows
variable {B n0 : Nat} {tx : Nat × Nat} {E : Nat → Nat → List (Nat × Nat) → Nat → List (Nat × Value) → List Value → Sto → Prop} {own : String} {cc : ByteArray} {nL fr lo mc ms cells slots : Nat} {Zf : ZG} {ks : List (Nat × Nat)} {pc q : Nat} {lv : List (Nat × Value)} {st : List Value} {σ : Sto}
theorem g_newi (C : Cz B n0 tx E own cc nL fr lo mc ms Zf) {n : Int32} {N a : Nat} (hn : ¬ n < 0) (hN : n.toNatClampNeg = N) (hb : N * 4 ≤ 536870912) (hk : n0 + cells = ks.length) (ha : ks.length + 1 = a) (hz : ZA σ a) (hcs : cells + 1 ≤ mc) (hsl : slots + N ≤ ms) (hd : decode cc pc = .ok (.newarray .int, 2)) (hq : pc + 2 = q) (k : E (cells + 1) (slots + N) (ks ++ [(1, N)]) q lv (.ref (B + a) :: st) σ) : E cells slots ks pc lv (.int n :: st) σ := by
  obtain ⟨D, ca, p, l, e, R, s, m, args, below, meth, c, Q, rfl, C, hX, hfr, hlo, hmc, hms, hs, hZ⟩ := C
  intro H locs ls hR hl T' hT X'
  have hH := ev_size C hs hk hR hT X'
  subst hq ha
  suffices key : W p l e R s m args below meth c H locs cells slots Q (F0 m pc ls (.int n :: st)) from key T' hT X'
  refine va_newaK (g := F0 m pc ls (.int n :: st)) (atype := .int) C.1 C.2.1 (C.2.2.2.2.1 _ tA_int) rfl hd rfl hn hN hb (by omega) (by omega) hH (fun H1 cA e1 z1 o1 hAr hNm => ?_)
  have hca : cA = ca 1 := Option.some.inj (hNm.symm.trans (C.2.2.2.2.2.1.2 0 (ca 1, .int) rfl).2)
  refine k H1 locs ls (hR.push hH z1 o1 ?_) hl
  show H1[B + ks.length + 1]? = some (vp_cell (ca 1) (N, .inl (fun j => gi σ (ks.length + 1) j)))
  have e2 : (fun j => gi σ (ks.length + 1) j) = fun _ => (0 : Int32) := funext (fun j => (hz j).1)
  rw [e2, ← hca]
  exact e1
theorem g_newl (C : Cz B n0 tx E own cc nL fr lo mc ms Zf) {n : Int32} {N a : Nat} (hn : ¬ n < 0) (hN : n.toNatClampNeg = N) (hb : N * 8 ≤ 536870912) (hk : n0 + cells = ks.length) (ha : ks.length + 1 = a) (hz : ZA σ a) (hcs : cells + 1 ≤ mc) (hsl : slots + N ≤ ms) (hd : decode cc pc = .ok (.newarray .long, 2)) (hq : pc + 2 = q) (k : E (cells + 1) (slots + N) (ks ++ [(2, N)]) q lv (.ref (B + a) :: st) σ) : E cells slots ks pc lv (.int n :: st) σ := by
  obtain ⟨D, ca, p, l, e, R, s, m, args, below, meth, c, Q, rfl, C, hX, hfr, hlo, hmc, hms, hs, hZ⟩ := C
  intro H locs ls hR hl T' hT X'
  have hH := ev_size C hs hk hR hT X'
  subst hq ha
  suffices key : W p l e R s m args below meth c H locs cells slots Q (F0 m pc ls (.int n :: st)) from key T' hT X'
  refine va_newaK (g := F0 m pc ls (.int n :: st)) (atype := .long) C.1 C.2.1 (C.2.2.2.2.1 _ tA_long) rfl hd rfl hn hN hb (by omega) (by omega) hH (fun H1 cA e1 z1 o1 hAr hNm => ?_)
  have hca : cA = ca 2 := Option.some.inj (hNm.symm.trans (C.2.2.2.2.2.1.2 1 (ca 2, .long) rfl).2)
  refine k H1 locs ls (hR.push hH z1 o1 ?_) hl
  show H1[B + ks.length + 1]? = some (vp_cell (ca 2) (N, .inr <| .inl (fun j => gl σ (ks.length + 1) j)))
  have e2 : (fun j => gl σ (ks.length + 1) j) = fun _ => (0 : Int64) := funext (fun j => (hz j).2.1)
  rw [e2, ← hca]
  exact e1
theorem g_newb (C : Cz B n0 tx E own cc nL fr lo mc ms Zf) {n : Int32} {N a : Nat} (hn : ¬ n < 0) (hN : n.toNatClampNeg = N) (hb : N * 1 ≤ 536870912) (hk : n0 + cells = ks.length) (ha : ks.length + 1 = a) (hz : ZA σ a) (hcs : cells + 1 ≤ mc) (hsl : slots + N ≤ ms) (hd : decode cc pc = .ok (.newarray .byte, 2)) (hq : pc + 2 = q) (k : E (cells + 1) (slots + N) (ks ++ [(3, N)]) q lv (.ref (B + a) :: st) σ) : E cells slots ks pc lv (.int n :: st) σ := by
  obtain ⟨D, ca, p, l, e, R, s, m, args, below, meth, c, Q, rfl, C, hX, hfr, hlo, hmc, hms, hs, hZ⟩ := C
  intro H locs ls hR hl T' hT X'
  have hH := ev_size C hs hk hR hT X'
  subst hq ha
  suffices key : W p l e R s m args below meth c H locs cells slots Q (F0 m pc ls (.int n :: st)) from key T' hT X'
  refine va_newaK (g := F0 m pc ls (.int n :: st)) (atype := .byte) C.1 C.2.1 (C.2.2.2.2.1 _ tA_byte) rfl hd rfl hn hN hb (by omega) (by omega) hH (fun H1 cA e1 z1 o1 hAr hNm => ?_)
  have hca : cA = ca 3 := Option.some.inj (hNm.symm.trans (C.2.2.2.2.2.1.2 2 (ca 3, .byte) rfl).2)
  refine k H1 locs ls (hR.push hH z1 o1 ?_) hl
  show H1[B + ks.length + 1]? = some (vp_cell (ca 3) (N, .inl (fun j => gi σ (ks.length + 1) j)))
  have e2 : (fun j => gi σ (ks.length + 1) j) = fun _ => (0 : Int32) := funext (fun j => (hz j).1)
  rw [e2, ← hca]
  exact e1
end GRows
