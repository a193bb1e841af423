/-! ===== making, one row more ===== -/
section GRows
variable {B n0 : Nat} {tx : Nat × Nat} {E : Nat → Nat → List (Nat × Nat) → Nat → List (Nat × Value) → List Value → Sto → Prop} {own : String} {cc : ByteArray} {nL fr lo mc ms cells slots : Nat} {Zf : ZG} {ks : List (Nat × Nat)} {pc q : Nat} {lv : List (Nat × Value)} {st : List Value} {σ : Sto}
theorem g_alen1 (C : Cz B n0 tx E own cc nL fr lo mc ms Zf) {i a n : Nat} (ha : i + 1 = a) (hk : ks[i]? = some (1, n)) (hd : decode cc pc = .ok (.arraylength, 1)) (hq : pc + 1 = q) (k : E cells slots ks q lv (.int (nI n) :: st) σ) : E cells slots ks pc lv (.ref (B + a) :: st) σ := by
  obtain ⟨D, ca, p, l, e, R, s, m, args, below, meth, c, Q, rfl, C, hX, hfr, hlo, hmc, hms, hs, hZ⟩ := C
  exact e_alen1 C ha hk hd hq k
end GRows
