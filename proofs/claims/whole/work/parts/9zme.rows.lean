/-! ===== making, rows ===== -/
section GRows
variable {B n0 : Nat} {tx : Nat × Nat} {E : Nat → Nat → List (Nat × Nat) → Nat → List (Nat × Value) → List Value → Sto → Prop} {own : String} {cc : ByteArray} {nL fr lo mc ms cells slots : Nat} {Zf : ZG} {ks : List (Nat × Nat)} {pc q : Nat} {lv : List (Nat × Value)} {st : List Value} {σ : Sto}
theorem g_putrF {mc1 ms1 : Nat} {ks1 : List (Nat × Nat)} {P1 : Sto → Prop} (C : Cz B n0 tx E own cc nL fr lo mc ms (Zi true mc1 ms1 ks1 P1)) {i idx ci k a b : Nat} (F : Fl own idx ci k) (M : FlF own ci k) (hp : fpl (fTy ci k) = 2) (hz : b ≠ 0) (ha : i + 1 = a) (hk : ks[i]? = some (0, ci)) (hd : decode cc pc = .ok (.putfield idx, 3)) (hq : pc + 3 = q) (kk : E cells slots ks q lv st (sr σ a k b)) : E cells slots ks pc lv (.ref (B + b) :: .ref (B + a) :: st) σ := by
  obtain ⟨D, ca, p, l, e, R, s, m, args, below, meth, c, Q, rfl, C, hX, hfr, hlo, hmc, hms, hs, hZ⟩ := C
  intro H locs ls hR hl
  subst hq
  subst ha
  obtain ⟨Cn1, T, N, hc, hN, hin, hkN, hw, hty, hnm⟩ := F
  obtain ⟨Cn2, T2, N2, hc2, hM, hM2⟩ := M
  cases hc.symm.trans hc2
  refine va_putF C.1 C.2.1 C.2.2.2.2.1 hin (fTy ci) hty hnm C.2.2.2.1 C.2.2.2.2.2.1 hR.1 wsOf_D hR.2.1 i (wsOf_at hk) hc k hkN (C.2.2.2.2.1 _ hw) (fun x h => h) hM (hZ.1 rfl) hM2 (hty k hkN) (nar_ref hp) (fits_ref hp) (by simpa [← hN] using hkN) hd (fun H1 locs1 hP1 _ hS1 => ?_)
  have e1 : (wsOf B ca Cn ks σ).set i (B + (i + 1), .inr (ci, ((List.range (fN ci)).map (fun j => fv B Cn σ (fpl (fTy ci j)) (i + 1) j)).set k (.ref (B + b)))) = wsOf B ca Cn ks (sr σ (i + 1) k b) := by
    refine wsOf_set hk ?_ (fun j kd' hj => cE_sr (by omega))
    show Sum.inr (ci, _) = Sum.inr (ci, _)
    congr 2
    refine fv_set (hN ▸ hkN) ?_ (fun j hj => ?_)
    · rw [hp]; simp [fv, rf, Cn, gr, sr, ro, hz, va_rf]
    · rcases hpl : fpl (fTy ci j) with _ | _ | n <;> simp [fv, gi, gl, rf, gr, sr, hj]
  rw [e1] at hP1
  exact kk H1 locs1 ls ⟨hP1, hS1, hR.2.2⟩ hl
theorem g_aast (C : Cz B n0 tx E own cc nL fr lo mc ms Zf) {i i2 a b n : Nat} {x : Int32} (ha : i + 1 = a) (hk : ks[i]? = some (4, n)) (hb : i2 + 1 = b) (hk2 : ks[i2]? = some (0, 1)) (hin : vp_in x n) (hd : decode cc pc = .ok (.aastore, 1)) (hq : pc + 1 = q) (k : E cells slots ks q lv st (sr σ a x.toNatClampNeg b)) : E cells slots ks pc lv (.ref (B + b) :: .int x :: .ref (B + a) :: st) σ := by
  obtain ⟨D, ca, p, l, e, R, s, m, args, below, meth, c, Q, rfl, C, hX, hfr, hlo, hmc, hms, hs, hZ⟩ := C
  intro H locs ls hR hl
  subst hq ha hb
  refine va_astq (r := (RX1, TX1, 16)) C.1 C.2.1 C.2.2.2.2.2.1 hR.1 wsOf_D hR.2.1 i 3 i2 1 (wsOf_at hk) rfl (wsOf_at hk2) rfl hin hd (fun H1 locs1 hP1 _ hS1 => ?_)
  have e1 : (wsOf B ca Cn ks σ).set i (B + (i + 1), .inl (ca 4, n, .inr (.inr (.inr (.inr (va_up (fun j => ro B (rf Cn σ (i + 1) j)) x.toNatClampNeg (some (B + (i2 + 1))))))))) = wsOf B ca Cn ks (sr σ (i + 1) x.toNatClampNeg (i2 + 1)) := by
    refine wsOf_set hk ?_ (fun j kd' hj => cE_sr (by omega))
    have e2 : (fun j => ro B (rf Cn (sr σ (i + 1) x.toNatClampNeg (i2 + 1)) (i + 1) j)) = va_up (fun j => ro B (rf Cn σ (i + 1) j)) x.toNatClampNeg (some (B + (i2 + 1))) := by
      funext j
      by_cases hj : j = x.toNatClampNeg
      · simp [rf, Cn, gr, sr, va_up, ro, hj]
      · simp [rf, Cn, gr, sr, va_up, hj]
    simp only [cE, e2]
  rw [e1] at hP1
  exact k H1 locs1 ls ⟨hP1, hS1, hR.2.2⟩ hl
theorem g_obj (C : Cz B n0 tx E own cc nL fr lo mc ms Zf) {idx a : Nat} (hw1 : Cond.methodLink own idx objectInit ∈ tbG) (hf : 1 ≤ fr) (hlo1 : (st.map fun v => v.category).sum + 12 ≤ lo) (hd : decode cc pc = .ok (.invokespecial idx, 3)) (hq : pc + 3 = q) (k : E cells slots ks q lv st σ) : E cells slots ks pc lv (.ref a :: st) σ := by
  obtain ⟨D, ca, p, l, e, R, s, m, args, below, meth, c, Q, rfl, C, hX, hfr, hlo, hmc, hms, hs, hZ⟩ := C
  intro H locs ls hR hl
  subst hq
  refine W.objInit C.1 C.2.1 C.2.2.2.1 (C.2.2.2.2.1 _ hw1) (C.2.2.2.2.1 _ tO_inst) (C.2.2.2.2.1 _ tO_code) rfl (by rw [C.2.2.1]; exact hl.1) rfl hd (Nat.le_trans hf hfr) (by show 2 * 0 + _ + 12 ≤ _; omega) ?_
  exact k H locs ls hR hl
end GRows
