/-! ===== votes of the model: sums, most, the last one ===== -/
def hatF (c : Nat → Nat) (n t : Nat) : Nat := foldN (fun s v => s + hateF c v t) 0 n
def sumN (c : Nat → Nat) (set n t : Nat) : Nat := if set.testBit t then hatF c n t else 0
def sumF (c : Nat → Nat) (set t : Nat) : Nat := sumN c set (c 3) t
def mostS (got : Nat → Nat) (b t : Nat) : Nat := if 0 < got t ∧ (b = 0 ∨ got (b - 1) < got t) then t + 1 else b
def mostF (c : Nat → Nat) (got : Nat → Nat) : Nat := foldN (mostS got) 0 (c 0)
def holdS (s : Nat) (cnt : Nat → Nat) (p : Nat × Nat) (t : Nat) : Nat × Nat := if s.testBit t && decide (0 < cnt t) then (p.1 + 1, if p.2 = 0 ∨ cnt t ≤ cnt (p.2 - 1) then t + 1 else p.2) else p
def holdF (c : Nat → Nat) (s : Nat) (cnt : Nat → Nat) : Nat × Nat := foldN (holdS s cnt) (0, 0) (c 0)
def updF (s : Nat) (cnt got : Nat → Nat) (t : Nat) : Nat := if s.testBit t then cnt t else got t
def l2F (c : Nat → Nat) : Nat → Nat → (Nat → Nat) → Nat × (Nat → Nat)
  | 0, _, got => (0, got)
  | f + 1, s, got => if (holdF c s (countsF c s)).1 < 2 then ((holdF c s (countsF c s)).2, updF s (countsF c s) got) else l2F c f (sd s (2 ^ ((holdF c s (countsF c s)).2 - 1))) (updF s (countsF c s) got)
def gotF (c : Nat → Nat) (law set : Nat) : Nat → Nat := if law = 2 then (l2F c 13 set (fun _ => 0)).2 else if law = 1 then sumF c set else countsF c set
def nameF (c : Nat → Nat) (law set : Nat) : Nat := if law = 2 then (l2F c 13 set (fun _ => 0)).1 else mostF c (gotF c law set)
def S109 (a _ : Nat) : Prop := a = 109 ∨ a = 110
theorem hatF_le {c : Nat → Nat} (ok : OK c) {t : Nat} (ht : t < 12) : ∀ n, n ≤ c 3 → hatF c n t ≤ 9 * n
  | 0, _ => Nat.le_refl _
  | n + 1, h => by
    have h1 := hatF_le ok ht n (by omega)
    have h2 := ok.hates n (by omega) t ht
    show hatF c n t + hateF c n t ≤ _
    unfold hateF
    omega
theorem sumN_le {c : Nat → Nat} (ok : OK c) {set t n : Nat} (ht : t < 12) (hn : n ≤ c 3) : sumN c set n t ≤ 54 := by
  have := hatF_le ok ht n hn
  have := ok.n3
  unfold sumN
  split <;> omega
theorem t_sums {σ : Sto} {c : Nat → Nat} {P : Sto → Prop} (h : MR σ c) (ok : OK c) {set : Nat} (hs : set < 2 ^ c 0) (k : ∀ τ, Eo (fun b _ => b = 109) σ τ → (∀ t, t < 12 → gi τ 109 t = nI (sumF c set t)) → P τ) : w_X12_sums (nI set) σ P := by
  have := ok.n0
  have := ok.n3
  refine Lp_for 12 (fun j q => q.1 = nI j ∧ Eo (fun b _ => b = 109) σ q.2 ∧ ∀ t, t < j → gi q.2 109 t = 0) ⟨rfl, Eo.rf, fun t ht => absurd ht (Nat.not_lt_zero _)⟩ ?_ ?_
  · rintro j hj K ⟨x, τ⟩ ⟨rfl, e, hz⟩ hK
    dsimp only at e hz hK ⊢
    have hn : ¬ 12 ≤ j := by omega
    simp (disch := omega) only [w_X12_sums_2, N0, N1, N2, N3, N4, N5, N6, N7, N8, N9, N10, N11, N12, N13, N14, N15, N16, N17, N18, N19, N20, N21, N22, N23, N24, N25, N26, N27, N28, N29, N30, N32, N33, N34, N35, N36, N37, N38, N39, N40, N41, N42, N43, N44, N45, N46, N47, N48, N49, N50, N51, N52, N53, N54, N55, N56, N57, N58, N59, N60, N61, N62, N63, N64, N90, N96, N97, N98, N99, N100, N102, N103, N104, N107, N108, N109, N110, N111, N112, N114, N115, N116, N117, N118, N119, N120, N121, N122, N130, N138, N141, N142, N143, N144, N156, N240, N255, N256, N300, N400, N420, N421, N600, N900, N999, N1000, N1684, N2104, N2105, N2971, N4095, N4096, N9999, N10000, N10663, N65536, jI_add, jI_mul, jI_and, jI_or, jI_xor, jI_andn, jI_31, jI_shl, Nat.one_shiftLeft, jI_le, jI_lt, jI_eq, tn_nI, tc_nI, vp_nI, jI_allF, jI_bit, jI_bit0, jI_noneN, bI_N0, bI_N1, forall_eq, true_and, ↓reduceIte, hn]
    refine hK _ ⟨rfl, e.tr (Eo.si rfl), fun t ht => ?_⟩
    dsimp only
    by_cases htj : t = j
    · subst htj; exact gi_si_s
    · rw [gi_si_k htj]; exact hz t (by omega)
  · rintro K ⟨x, τ⟩ ⟨rfl, e, hz⟩
    dsimp only at e hz ⊢
    simp (disch := omega) only [w_X12_sums_2, N0, N1, N2, N3, N4, N5, N6, N7, N8, N9, N10, N11, N12, N13, N14, N15, N16, N17, N18, N19, N20, N21, N22, N23, N24, N25, N26, N27, N28, N29, N30, N32, N33, N34, N35, N36, N37, N38, N39, N40, N41, N42, N43, N44, N45, N46, N47, N48, N49, N50, N51, N52, N53, N54, N55, N56, N57, N58, N59, N60, N61, N62, N63, N64, N90, N96, N97, N98, N99, N100, N102, N103, N104, N107, N108, N109, N110, N111, N112, N114, N115, N116, N117, N118, N119, N120, N121, N122, N130, N138, N141, N142, N143, N144, N156, N240, N255, N256, N300, N400, N420, N421, N600, N900, N999, N1000, N1684, N2104, N2105, N2971, N4095, N4096, N9999, N10000, N10663, N65536, jI_add, jI_mul, jI_and, jI_or, jI_xor, jI_andn, jI_31, jI_shl, Nat.one_shiftLeft, jI_le, jI_lt, jI_eq, tn_nI, tc_nI, vp_nI, jI_allF, jI_bit, jI_bit0, jI_noneN, bI_N0, bI_N1, forall_eq, true_and, ↓reduceIte, Nat.le_refl]
    refine Lp_for (c 3) (fun j q => q.1 = nI j ∧ Eo (fun b _ => b = 109) σ q.2 ∧ ∀ t, t < 12 → gi q.2 109 t = nI (sumN c set j t)) ⟨rfl, e, fun t ht => by rw [hz t ht]; unfold sumN; split <;> rfl⟩ ?_ ?_
    · rintro v hv K2 ⟨x, υ⟩ ⟨rfl, e2, hc⟩ hK
      dsimp only at e2 hc hK ⊢
      have h2 : MR υ c := h.eo e2 (fun k q => absurd q (by decide))
      have hn : ¬ c 3 ≤ v := by omega
      simp (disch := omega) only [w_X12_sums_23, h2 _, N0, N1, N2, N3, N4, N5, N6, N7, N8, N9, N10, N11, N12, N13, N14, N15, N16, N17, N18, N19, N20, N21, N22, N23, N24, N25, N26, N27, N28, N29, N30, N32, N33, N34, N35, N36, N37, N38, N39, N40, N41, N42, N43, N44, N45, N46, N47, N48, N49, N50, N51, N52, N53, N54, N55, N56, N57, N58, N59, N60, N61, N62, N63, N64, N90, N96, N97, N98, N99, N100, N102, N103, N104, N107, N108, N109, N110, N111, N112, N114, N115, N116, N117, N118, N119, N120, N121, N122, N130, N138, N141, N142, N143, N144, N156, N240, N255, N256, N300, N400, N420, N421, N600, N900, N999, N1000, N1684, N2104, N2105, N2971, N4095, N4096, N9999, N10000, N10663, N65536, jI_add, jI_mul, jI_and, jI_or, jI_xor, jI_andn, jI_31, jI_shl, Nat.one_shiftLeft, jI_le, jI_lt, jI_eq, tn_nI, tc_nI, vp_nI, jI_allF, jI_bit, jI_bit0, jI_noneN, bI_N0, bI_N1, forall_eq, true_and, ↓reduceIte, hn]
      refine Lp_for (c 0) (fun j q => q.1 = nI j ∧ Eo (fun b _ => b = 109) σ q.2 ∧ ∀ t, t < 12 → gi q.2 109 t = nI (if t < j then sumN c set (v + 1) t else sumN c set v t)) ⟨rfl, e2, fun t ht => hc t ht⟩ ?_ ?_
      · rintro j hj K3 ⟨x, φ⟩ ⟨rfl, e3, hc3⟩ hK3
        dsimp only at e3 hc3 hK3 ⊢
        have h3 : MR φ c := h.eo e3 (fun k q => absurd q (by decide))
        have hn3 : ¬ c 0 ≤ j := by omega
        have hcj := hc3 j (by omega)
        rw [if_neg (Nat.lt_irrefl _)] at hcj
        simp (disch := omega) only [w_X12_sums_35, t_has, h3 _, N0, N1, N2, N3, N4, N5, N6, N7, N8, N9, N10, N11, N12, N13, N14, N15, N16, N17, N18, N19, N20, N21, N22, N23, N24, N25, N26, N27, N28, N29, N30, N32, N33, N34, N35, N36, N37, N38, N39, N40, N41, N42, N43, N44, N45, N46, N47, N48, N49, N50, N51, N52, N53, N54, N55, N56, N57, N58, N59, N60, N61, N62, N63, N64, N90, N96, N97, N98, N99, N100, N102, N103, N104, N107, N108, N109, N110, N111, N112, N114, N115, N116, N117, N118, N119, N120, N121, N122, N130, N138, N141, N142, N143, N144, N156, N240, N255, N256, N300, N400, N420, N421, N600, N900, N999, N1000, N1684, N2104, N2105, N2971, N4095, N4096, N9999, N10000, N10663, N65536, jI_add, jI_mul, jI_and, jI_or, jI_xor, jI_andn, jI_31, jI_shl, Nat.one_shiftLeft, jI_le, jI_lt, jI_eq, tn_nI, tc_nI, vp_nI, jI_allF, jI_bit, jI_bit0, jI_noneN, bI_N0, bI_N1, forall_eq, true_and, ↓reduceIte, hn3, hcj]
        have fin : ∀ x : Nat, x = sumN c set (v + 1) j → K3 (nI (j + 1), si φ 109 j (nI x)) := fun x hx => hK3 _ ⟨rfl, e3.tr (Eo.si rfl), fun t ht => by
          dsimp only
          by_cases htj : t = j
          · subst htj; rw [gi_si_s, if_pos (by omega), hx]
          · rw [gi_si_k htj, hc3 t ht]
            congr 1
            by_cases htl : t < j
            · rw [if_pos htl, if_pos (by omega)]
            · rw [if_neg htl, if_neg (by omega)]⟩
        cases ht : set.testBit j <;> simp only [ht, Bool.false_eq_true, Bool.true_eq_false, ↓reduceIte]
        · exact fin _ (by simp [sumN, ht])
        · exact fin _ (by simp only [sumN, ht, ↓reduceIte]; rfl)
      · rintro K3 ⟨x, φ⟩ ⟨rfl, e3, hc3⟩
        dsimp only at e3 hc3 ⊢
        have h3 : MR φ c := h.eo e3 (fun k q => absurd q (by decide))
        simp (disch := omega) only [w_X12_sums_35, h3 _, N0, N1, N2, N3, N4, N5, N6, N7, N8, N9, N10, N11, N12, N13, N14, N15, N16, N17, N18, N19, N20, N21, N22, N23, N24, N25, N26, N27, N28, N29, N30, N32, N33, N34, N35, N36, N37, N38, N39, N40, N41, N42, N43, N44, N45, N46, N47, N48, N49, N50, N51, N52, N53, N54, N55, N56, N57, N58, N59, N60, N61, N62, N63, N64, N90, N96, N97, N98, N99, N100, N102, N103, N104, N107, N108, N109, N110, N111, N112, N114, N115, N116, N117, N118, N119, N120, N121, N122, N130, N138, N141, N142, N143, N144, N156, N240, N255, N256, N300, N400, N420, N421, N600, N900, N999, N1000, N1684, N2104, N2105, N2971, N4095, N4096, N9999, N10000, N10663, N65536, jI_add, jI_mul, jI_and, jI_or, jI_xor, jI_andn, jI_31, jI_shl, Nat.one_shiftLeft, jI_le, jI_lt, jI_eq, tn_nI, tc_nI, vp_nI, jI_allF, jI_bit, jI_bit0, jI_noneN, bI_N0, bI_N1, forall_eq, true_and, ↓reduceIte, Nat.le_refl]
        refine hK _ ⟨rfl, e3, fun t ht => ?_⟩
        dsimp only
        rw [hc3 t ht]
        congr 1
        by_cases htl : t < c 0
        · rw [if_pos htl]
        · rw [if_neg htl]
          have : set.testBit t = false := lt_two.mp hs t (by omega)
          simp [sumN, this]
    · rintro K2 ⟨x, υ⟩ ⟨rfl, e2, hc⟩
      dsimp only at e2 hc ⊢
      have h2 : MR υ c := h.eo e2 (fun k q => absurd q (by decide))
      simp (disch := omega) only [w_X12_sums_23, h2 _, N0, N1, N2, N3, N4, N5, N6, N7, N8, N9, N10, N11, N12, N13, N14, N15, N16, N17, N18, N19, N20, N21, N22, N23, N24, N25, N26, N27, N28, N29, N30, N32, N33, N34, N35, N36, N37, N38, N39, N40, N41, N42, N43, N44, N45, N46, N47, N48, N49, N50, N51, N52, N53, N54, N55, N56, N57, N58, N59, N60, N61, N62, N63, N64, N90, N96, N97, N98, N99, N100, N102, N103, N104, N107, N108, N109, N110, N111, N112, N114, N115, N116, N117, N118, N119, N120, N121, N122, N130, N138, N141, N142, N143, N144, N156, N240, N255, N256, N300, N400, N420, N421, N600, N900, N999, N1000, N1684, N2104, N2105, N2971, N4095, N4096, N9999, N10000, N10663, N65536, jI_add, jI_mul, jI_and, jI_or, jI_xor, jI_andn, jI_31, jI_shl, Nat.one_shiftLeft, jI_le, jI_lt, jI_eq, tn_nI, tc_nI, vp_nI, jI_allF, jI_bit, jI_bit0, jI_noneN, bI_N0, bI_N1, forall_eq, true_and, ↓reduceIte, Nat.le_refl]
      exact k υ e2 hc
theorem mostF_le {c : Nat → Nat} {got : Nat → Nat} {n : Nat} : foldN (mostS got) 0 n ≤ n :=
  foldN_inv2 n (fun j b => b ≤ j) (Nat.le_refl _) (fun k b _ hb => by unfold mostS; split <;> omega) n (Nat.le_refl _)
theorem t_mostVotes {σ : Sto} {c : Nat → Nat} {P : Int32 → Sto → Prop} (h : MR σ c) (ok : OK c) {got : Nat → Nat} (hb : ∀ t, t < 12 → got t ≤ 1000) (hg : ∀ t, t < 12 → gi σ 109 t = nI (got t)) (k : P (oI (mostF c got)) σ) : w_X12_mostVotes σ P := by
  have := ok.n0
  refine Lp_det (c 0) (fun j => (oI (foldN (mostS got) 0 j), nI j, σ)) rfl (fun j hj K hK => ?_) (fun K => ?_)
  · have hn : ¬ c 0 ≤ j := by omega
    have hle := mostF_le (c := c) (got := got) (n := j)
    have hb1 := hb j (by omega)
    replace hK : K (oI (mostS got (foldN (mostS got) 0 j) j), nI (j + 1), σ) := hK
    generalize foldN (mostS got) 0 j = b at hK hle ⊢
    simp (disch := omega) only [w_X12_mostVotes_4, h _, N0, N1, N2, N3, N4, N5, N6, N7, N8, N9, N10, N11, N12, N13, N14, N15, N16, N17, N18, N19, N20, N21, N22, N23, N24, N25, N26, N27, N28, N29, N30, N32, N33, N34, N35, N36, N37, N38, N39, N40, N41, N42, N43, N44, N45, N46, N47, N48, N49, N50, N51, N52, N53, N54, N55, N56, N57, N58, N59, N60, N61, N62, N63, N64, N90, N96, N97, N98, N99, N100, N102, N103, N104, N107, N108, N109, N110, N111, N112, N114, N115, N116, N117, N118, N119, N120, N121, N122, N130, N138, N141, N142, N143, N144, N156, N240, N255, N256, N300, N400, N420, N421, N600, N900, N999, N1000, N1684, N2104, N2105, N2971, N4095, N4096, N9999, N10000, N10663, N65536, jI_add, jI_mul, jI_and, jI_or, jI_xor, jI_andn, jI_31, jI_shl, Nat.one_shiftLeft, jI_le, jI_lt, jI_eq, tn_nI, tc_nI, vp_nI, jI_allF, jI_bit, jI_bit0, jI_noneN, bI_N0, bI_N1, forall_eq, true_and, ↓reduceIte, hn, hg j]
    unfold mostS at hK
    by_cases h0 : got j ≤ 0
    · simp only [h0, ↓reduceIte]
      rw [if_neg (by omega)] at hK
      exact hK
    · simp only [h0, ↓reduceIte]
      cases b with
      | zero =>
        rw [if_pos ⟨by omega, Or.inl rfl⟩] at hK
        simp only [oI, show (-1 : Int32) < nI 0 by decide, ↓reduceIte]
        exact hK
      | succ i =>
        have hb2 := hb i (by omega)
        simp (disch := omega) only [oI, jI_lt, Nat.not_lt_zero, ↓reduceIte, vp_nI, tn_nI, true_and, hg i, jI_le]
        by_cases hl : got j ≤ got i
        · simp only [hl, ↓reduceIte]
          rw [if_neg (by simp; omega)] at hK
          exact hK
        · simp only [hl, ↓reduceIte]
          rw [if_pos ⟨by omega, Or.inr (by simp; omega)⟩] at hK
          exact hK
  · simp (disch := omega) only [w_X12_mostVotes_4, h _, N0, N1, N2, N3, N4, N5, N6, N7, N8, N9, N10, N11, N12, N13, N14, N15, N16, N17, N18, N19, N20, N21, N22, N23, N24, N25, N26, N27, N28, N29, N30, N32, N33, N34, N35, N36, N37, N38, N39, N40, N41, N42, N43, N44, N45, N46, N47, N48, N49, N50, N51, N52, N53, N54, N55, N56, N57, N58, N59, N60, N61, N62, N63, N64, N90, N96, N97, N98, N99, N100, N102, N103, N104, N107, N108, N109, N110, N111, N112, N114, N115, N116, N117, N118, N119, N120, N121, N122, N130, N138, N141, N142, N143, N144, N156, N240, N255, N256, N300, N400, N420, N421, N600, N900, N999, N1000, N1684, N2104, N2105, N2971, N4095, N4096, N9999, N10000, N10663, N65536, jI_add, jI_mul, jI_and, jI_or, jI_xor, jI_andn, jI_31, jI_shl, Nat.one_shiftLeft, jI_le, jI_lt, jI_eq, tn_nI, tc_nI, vp_nI, jI_allF, jI_bit, jI_bit0, jI_noneN, bI_N0, bI_N1, forall_eq, true_and, ↓reduceIte, Nat.le_refl]
    exact k
