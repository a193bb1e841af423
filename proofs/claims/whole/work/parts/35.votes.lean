/-! ===== votes ===== -/
def oI : Nat → Int32
  | 0 => -1
  | t + 1 => nI t
def hateF (c : Nat → Nat) (v t : Nat) : Nat := c (58 + 12 * v + t)
def favS (c : Nat → Nat) (set v : Nat) (p : Nat × Nat) (t : Nat) : Nat × Nat := if set.testBit t && decide (p.2 < hateF c v t) then (t + 1, hateF c v t) else p
def favF (c : Nat → Nat) (set v : Nat) : Nat := (foldN (favS c set v) (0, 0) (c 0)).1
def cntF (c : Nat → Nat) (set n t : Nat) : Nat := foldN (fun s v => if favF c set v = t + 1 then s + 1 else s) 0 n
def countsF (c : Nat → Nat) (set t : Nat) : Nat := cntF c set (c 3) t
theorem favF_le {c : Nat → Nat} {set v : Nat} : favF c set v ≤ c 0 :=
  foldN_inv2 (c 0) (fun _ (p : Nat × Nat) => p.1 ≤ c 0) (Nat.zero_le _) (fun k p hk hp => by
    unfold favS; split
    · exact hk
    · exact hp) (c 0) (Nat.le_refl _)
theorem cntF_le {c : Nat → Nat} {set t : Nat} : ∀ n, cntF c set n t ≤ n
  | 0 => Nat.le_refl _
  | n + 1 => by
    have := cntF_le (c := c) (set := set) (t := t) n
    show (if favF c set n = t + 1 then cntF c set n t + 1 else cntF c set n t) ≤ n + 1
    split <;> omega
theorem MR.eo {S : Nat → Nat → Prop} {σ τ : Sto} {c : Nat → Nat} (h : MR σ c) (e : Eo S σ τ) (hs : ∀ k, ¬ S 106 k) : MR τ c := fun k hk => by rw [e.1 _ _ (hs k)]; exact h k hk
theorem t_counts_in {σ : Sto} {c : Nat → Nat} {P : Sto → Prop} (h : MR σ c) (ok : OK c) {set v a : Nat} (hv : v < c 3) (ha : isA a 1 12) {K20 : Int32 × Sto → Prop}
    (h1 : favF c set v = 0 → K20 (nI (v + 1), σ)) (h2 : ∀ t, favF c set v = t + 1 → t < 12 → K20 (nI (v + 1), si σ a t (gi σ a t + 1))) :
    Lp (fun (K : Int32 × Int32 × Int32 × Sto → Prop) s => w_X12_counts_39 K20 K (nI set) a 12 (nI v) s.1 s.2.1 s.2.2.1 s.2.2.2 P) ((-1), 0, 0, σ) := by
  have := ok.n0
  have := ok.n3
  refine Lp_det (c 0) (fun j => (oI (foldN (favS c set v) (0, 0) j).1, nI (foldN (favS c set v) (0, 0) j).2, nI j, σ)) rfl (fun j hj K hK => ?_) (fun K => ?_)
  · have hn : ¬ c 0 ≤ j := by omega
    have hm : (foldN (favS c set v) (0, 0) j).2 ≤ 9 := foldN_inv2 (c 0) (fun _ (p : Nat × Nat) => p.2 ≤ 9) (by decide) (fun k p hk hp => by
      unfold favS hateF; split
      · exact ok.hates v hv k (by omega)
      · exact hp) j (by omega)
    have hb := ok.hates v hv j (by omega)
    replace hK : K (oI (favS c set v (foldN (favS c set v) (0, 0) j) j).1, nI (favS c set v (foldN (favS c set v) (0, 0) j) j).2, nI (j + 1), σ) := hK
    generalize foldN (favS c set v) (0, 0) j = p at hK hm ⊢
    unfold favS hateF at hK
    simp (disch := omega) only [w_X12_counts_39, t_has, h _, N0, N1, N2, N3, N4, N5, N6, N7, N8, N9, N10, N11, N12, N13, N14, N15, N16, N17, N18, N19, N20, N21, N22, N23, N24, N25, N26, N27, N28, N29, N30, N32, N33, N34, N35, N36, N37, N38, N39, N40, N41, N42, N43, N44, N45, N46, N47, N48, N49, N50, N51, N52, N53, N54, N55, N56, N57, N58, N59, N60, N61, N62, N63, N64, N90, N96, N97, N98, N99, N100, N102, N103, N104, N107, N108, N109, N110, N111, N112, N114, N115, N116, N117, N118, N119, N120, N121, N122, N130, N138, N141, N142, N143, N144, N156, N240, N255, N256, N300, N400, N420, N421, N600, N900, N999, N1000, N1684, N2104, N2105, N2971, N4095, N4096, N9999, N10000, N10663, N65536, jI_add, jI_mul, jI_and, jI_or, jI_xor, jI_andn, jI_31, jI_shl, Nat.one_shiftLeft, jI_le, jI_lt, jI_eq, tn_nI, tc_nI, vp_nI, jI_allF, jI_bit, jI_bit0, jI_noneN, bI_N0, bI_N1, forall_eq, true_and, ↓reduceIte, hn]
    cases ht : set.testBit j <;> simp only [ht, Bool.false_and, Bool.true_and, Bool.false_eq_true, Bool.true_eq_false, decide_eq_true_eq, ↓reduceIte] at hK ⊢
    · exact hK
    · by_cases hl : p.2 < c (58 + 12 * v + j) <;> simp only [hl, ↓reduceIte] at hK ⊢
      · exact hK
      · exact hK
  · simp (disch := omega) only [w_X12_counts_39, h _, N0, N1, N2, N3, N4, N5, N6, N7, N8, N9, N10, N11, N12, N13, N14, N15, N16, N17, N18, N19, N20, N21, N22, N23, N24, N25, N26, N27, N28, N29, N30, N32, N33, N34, N35, N36, N37, N38, N39, N40, N41, N42, N43, N44, N45, N46, N47, N48, N49, N50, N51, N52, N53, N54, N55, N56, N57, N58, N59, N60, N61, N62, N63, N64, N90, N96, N97, N98, N99, N100, N102, N103, N104, N107, N108, N109, N110, N111, N112, N114, N115, N116, N117, N118, N119, N120, N121, N122, N130, N138, N141, N142, N143, N144, N156, N240, N255, N256, N300, N400, N420, N421, N600, N900, N999, N1000, N1684, N2104, N2105, N2971, N4095, N4096, N9999, N10000, N10663, N65536, jI_add, jI_mul, jI_and, jI_or, jI_xor, jI_andn, jI_31, jI_shl, Nat.one_shiftLeft, jI_le, jI_lt, jI_eq, tn_nI, tc_nI, vp_nI, jI_allF, jI_bit, jI_bit0, jI_noneN, bI_N0, bI_N1, forall_eq, true_and, ↓reduceIte, Nat.le_refl]
    simp only [show (foldN (favS c set v) (0, 0) (c 0)).1 = favF c set v from rfl]
    have hf := favF_le (c := c) (set := set) (v := v)
    revert h1 h2
    generalize favF c set v = b at hf ⊢
    intro h1 h2
    cases b with
    | zero => exact h1 rfl
    | succ t =>
      have ht : t < 12 := by omega
      simp (disch := omega) only [oI, jI_lt, Nat.not_lt_zero, ↓reduceIte, vp_nI, tn_nI, true_and]
      exact ⟨ha, h2 t rfl ht⟩
theorem t_counts {σ : Sto} {c : Nat → Nat} {P : Sto → Prop} (h : MR σ c) (ok : OK c) {set a : Nat} (ha : isA a 1 12) (hne : a ≠ 106) (k : ∀ τ, Eo (fun b _ => b = a) σ τ → (∀ t, t < 12 → gi τ a t = nI (countsF c set t)) → P τ) : w_X12_counts (nI set) a 12 σ P := by
  have := ok.n3
  refine Lp_for 12 (fun j q => q.1 = nI j ∧ Eo (fun b _ => b = a) σ q.2 ∧ ∀ t, t < j → gi q.2 a t = 0) ⟨rfl, Eo.rf, fun t ht => absurd ht (Nat.not_lt_zero _)⟩ ?_ ?_
  · rintro j hj K ⟨x, τ⟩ ⟨rfl, e, hz⟩ hK
    dsimp only at e hz hK ⊢
    have hn : ¬ 12 ≤ j := by omega
    simp (disch := omega) only [w_X12_counts_2, N0, N1, N2, N3, N4, N5, N6, N7, N8, N9, N10, N11, N12, N13, N14, N15, N16, N17, N18, N19, N20, N21, N22, N23, N24, N25, N26, N27, N28, N29, N30, N32, N33, N34, N35, N36, N37, N38, N39, N40, N41, N42, N43, N44, N45, N46, N47, N48, N49, N50, N51, N52, N53, N54, N55, N56, N57, N58, N59, N60, N61, N62, N63, N64, N90, N96, N97, N98, N99, N100, N102, N103, N104, N107, N108, N109, N110, N111, N112, N114, N115, N116, N117, N118, N119, N120, N121, N122, N130, N138, N141, N142, N143, N144, N156, N240, N255, N256, N300, N400, N420, N421, N600, N900, N999, N1000, N1684, N2104, N2105, N2971, N4095, N4096, N9999, N10000, N10663, N65536, jI_add, jI_mul, jI_and, jI_or, jI_xor, jI_andn, jI_31, jI_shl, Nat.one_shiftLeft, jI_le, jI_lt, jI_eq, tn_nI, tc_nI, vp_nI, jI_allF, jI_bit, jI_bit0, jI_noneN, bI_N0, bI_N1, forall_eq, true_and, ↓reduceIte, hn]
    refine ⟨ha, hK _ ⟨rfl, e.tr (Eo.si rfl), fun t ht => ?_⟩⟩
    dsimp only
    by_cases htj : t = j
    · subst htj; exact gi_si_s
    · rw [gi_si_k htj]; exact hz t (by omega)
  · rintro K ⟨x, τ⟩ ⟨rfl, e, hz⟩
    dsimp only at e hz ⊢
    simp (disch := omega) only [w_X12_counts_2, N0, N1, N2, N3, N4, N5, N6, N7, N8, N9, N10, N11, N12, N13, N14, N15, N16, N17, N18, N19, N20, N21, N22, N23, N24, N25, N26, N27, N28, N29, N30, N32, N33, N34, N35, N36, N37, N38, N39, N40, N41, N42, N43, N44, N45, N46, N47, N48, N49, N50, N51, N52, N53, N54, N55, N56, N57, N58, N59, N60, N61, N62, N63, N64, N90, N96, N97, N98, N99, N100, N102, N103, N104, N107, N108, N109, N110, N111, N112, N114, N115, N116, N117, N118, N119, N120, N121, N122, N130, N138, N141, N142, N143, N144, N156, N240, N255, N256, N300, N400, N420, N421, N600, N900, N999, N1000, N1684, N2104, N2105, N2971, N4095, N4096, N9999, N10000, N10663, N65536, jI_add, jI_mul, jI_and, jI_or, jI_xor, jI_andn, jI_31, jI_shl, Nat.one_shiftLeft, jI_le, jI_lt, jI_eq, tn_nI, tc_nI, vp_nI, jI_allF, jI_bit, jI_bit0, jI_noneN, bI_N0, bI_N1, forall_eq, true_and, ↓reduceIte, Nat.le_refl]
    refine Lp_for (c 3) (fun j q => q.1 = nI j ∧ Eo (fun b _ => b = a) σ q.2 ∧ ∀ t, t < 12 → gi q.2 a t = nI (cntF c set j t)) ⟨rfl, e, fun t ht => hz t ht⟩ ?_ ?_
    · rintro j hj K2 ⟨x, υ⟩ ⟨rfl, e2, hc⟩ hK
      dsimp only at e2 hc hK ⊢
      have h2 : MR υ c := h.eo e2 (fun _ q => hne q.symm)
      have hn : ¬ c 3 ≤ j := by omega
      simp (disch := omega) only [w_X12_counts_20, h2 _, N0, N1, N2, N3, N4, N5, N6, N7, N8, N9, N10, N11, N12, N13, N14, N15, N16, N17, N18, N19, N20, N21, N22, N23, N24, N25, N26, N27, N28, N29, N30, N32, N33, N34, N35, N36, N37, N38, N39, N40, N41, N42, N43, N44, N45, N46, N47, N48, N49, N50, N51, N52, N53, N54, N55, N56, N57, N58, N59, N60, N61, N62, N63, N64, N90, N96, N97, N98, N99, N100, N102, N103, N104, N107, N108, N109, N110, N111, N112, N114, N115, N116, N117, N118, N119, N120, N121, N122, N130, N138, N141, N142, N143, N144, N156, N240, N255, N256, N300, N400, N420, N421, N600, N900, N999, N1000, N1684, N2104, N2105, N2971, N4095, N4096, N9999, N10000, N10663, N65536, jI_add, jI_mul, jI_and, jI_or, jI_xor, jI_andn, jI_31, jI_shl, Nat.one_shiftLeft, jI_le, jI_lt, jI_eq, tn_nI, tc_nI, vp_nI, jI_allF, jI_bit, jI_bit0, jI_noneN, bI_N0, bI_N1, forall_eq, true_and, ↓reduceIte, hn]
      refine t_counts_in h2 ok hj ha (fun hf => hK _ ⟨rfl, e2, fun t ht => ?_⟩) (fun b hf hb => hK _ ⟨rfl, e2.tr (Eo.si rfl), fun t ht => ?_⟩)
      · dsimp only
        rw [hc t ht]
        show _ = nI (if favF c set j = t + 1 then _ else _)
        rw [hf, if_neg (by omega)]
        rfl
      · dsimp only
        show _ = nI (if favF c set j = t + 1 then _ else _)
        rw [hf]
        by_cases htb : t = b
        · subst htb
          rw [gi_si_s, hc t ht, if_pos rfl]
          exact jI_add
        · rw [gi_si_k htb, hc t ht, if_neg (by omega)]
          rfl
    · rintro K2 ⟨x, υ⟩ ⟨rfl, e2, hc⟩
      dsimp only at e2 hc ⊢
      have h2 : MR υ c := h.eo e2 (fun _ q => hne q.symm)
      simp (disch := omega) only [w_X12_counts_20, h2 _, N0, N1, N2, N3, N4, N5, N6, N7, N8, N9, N10, N11, N12, N13, N14, N15, N16, N17, N18, N19, N20, N21, N22, N23, N24, N25, N26, N27, N28, N29, N30, N32, N33, N34, N35, N36, N37, N38, N39, N40, N41, N42, N43, N44, N45, N46, N47, N48, N49, N50, N51, N52, N53, N54, N55, N56, N57, N58, N59, N60, N61, N62, N63, N64, N90, N96, N97, N98, N99, N100, N102, N103, N104, N107, N108, N109, N110, N111, N112, N114, N115, N116, N117, N118, N119, N120, N121, N122, N130, N138, N141, N142, N143, N144, N156, N240, N255, N256, N300, N400, N420, N421, N600, N900, N999, N1000, N1684, N2104, N2105, N2971, N4095, N4096, N9999, N10000, N10663, N65536, jI_add, jI_mul, jI_and, jI_or, jI_xor, jI_andn, jI_31, jI_shl, Nat.one_shiftLeft, jI_le, jI_lt, jI_eq, tn_nI, tc_nI, vp_nI, jI_allF, jI_bit, jI_bit0, jI_noneN, bI_N0, bI_N1, forall_eq, true_and, ↓reduceIte, Nat.le_refl]
      exact k υ e2 hc
