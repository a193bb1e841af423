/-! ===== the model's vote ===== -/
theorem cnt_le {c : Nat → Nat} (ok : OK c) {set t : Nat} : countsF c set t ≤ 6 := Nat.le_trans (cntF_le _) ok.n3
theorem holdF_le {s : Nat} {cnt : Nat → Nat} {n : Nat} : (foldN (holdS s cnt) (0, 0) n).1 ≤ n ∧ (foldN (holdS s cnt) (0, 0) n).2 ≤ n :=
  foldN_inv2 n (fun j (p : Nat × Nat) => p.1 ≤ j ∧ p.2 ≤ j) ⟨Nat.le_refl _, Nat.le_refl _⟩ (fun k p _ hp => by
    unfold holdS; split
    · dsimp only
      refine ⟨by omega, ?_⟩
      split <;> omega
    · exact ⟨by omega, by omega⟩) n (Nat.le_refl _)
theorem holdF_pos {s : Nat} {cnt : Nat → Nat} {n : Nat} : 0 < (foldN (holdS s cnt) (0, 0) n).1 → 0 < (foldN (holdS s cnt) (0, 0) n).2 :=
  foldN_inv2 n (fun j (p : Nat × Nat) => 0 < p.1 → 0 < p.2) (fun h => absurd h (Nat.lt_irrefl _)) (fun k p _ hp => by
    unfold holdS; split
    · dsimp only
      intro _
      split
      · omega
      · rename_i h
        have : p.2 ≠ 0 := fun e => h (Or.inl e)
        omega
    · exact hp) n (Nat.le_refl _)
theorem t_lastOne_in {σ : Sto} {c : Nat → Nat} {P : Int32 → Sto → Prop} (h : MR σ c) (ok : OK c) {s j : Nat} {got : Nat → Nat} (hs : s < 2 ^ c 0) (hj : j < 13) (hg : ∀ t, t < 12 → gi σ 109 t = nI (got t)) (hr : ∀ t, t < 12 → gi σ 110 t = nI (countsF c s t))
    {K4 : Int32 × Int32 × Sto → Prop}
    (h1 : ∀ τ, Eo S109 σ τ → (∀ t, t < 12 → gi τ 109 t = nI (updF s (countsF c s) got t)) → (holdF c s (countsF c s)).1 < 2 → P (oI (holdF c s (countsF c s)).2) τ)
    (h2 : ∀ τ, Eo S109 σ τ → (∀ t, t < 12 → gi τ 109 t = nI (updF s (countsF c s) got t)) → ¬ (holdF c s (countsF c s)).1 < 2 → K4 (nI (sd s (2 ^ ((holdF c s (countsF c s)).2 - 1))), nI (j + 1), τ)) :
    Lp (fun (K : Int32 × Int32 × Int32 × Sto → Prop) q => w_X12_lastOne_28 K4 K (nI s) (nI j) q.1 q.2.1 q.2.2.1 q.2.2.2 P) (0, (-1), 0, σ) := by
  have := ok.n0
  have hc6 : ∀ t, countsF c s t ≤ 6 := fun t => cnt_le ok
  generalize hcnt : countsF c s = cnt at hr h1 h2 hc6
  unfold holdF at h1 h2
  refine Lp_for (c 0) (fun i q => q.1 = nI (foldN (holdS s cnt) (0, 0) i).1 ∧ q.2.1 = oI (foldN (holdS s cnt) (0, 0) i).2 ∧ q.2.2.1 = nI i ∧ Eo S109 σ q.2.2.2 ∧ (∀ t, t < 12 → gi q.2.2.2 110 t = nI (cnt t)) ∧ ∀ t, t < 12 → gi q.2.2.2 109 t = nI (if t < i then updF s cnt got t else got t)) ⟨rfl, rfl, rfl, Eo.rf, hr, fun t ht => hg t ht⟩ ?_ ?_
  · rintro i hi K ⟨x4, x5, x6, τ⟩ ⟨r4, r5, r6, e, hr2, hg2⟩ hK
    dsimp only at r4 r5 r6 e hr2 hg2 hK ⊢
    subst r4 r5 r6
    have hτ : MR τ c := h.eo e (fun k q => by rcases q with q | q <;> cases q)
    have hn : ¬ c 0 ≤ i := by omega
    have hle := holdF_le (s := s) (cnt := cnt) (n := i)
    have hst : foldN (holdS s cnt) (0, 0) (i + 1) = holdS s cnt (foldN (holdS s cnt) (0, 0) i) i := rfl
    rw [hst] at hK
    generalize foldN (holdS s cnt) (0, 0) i = p at hK hle ⊢
    unfold holdS at hK
    have hci := hc6 i
    have hstep : ∀ υ, Eo S109 τ υ → (∀ t, t < 12 → gi υ 110 t = gi τ 110 t) → (∀ t, t < 12 → gi υ 109 t = if t = i then nI (updF s cnt got i) else gi τ 109 t) → Eo S109 σ υ ∧ (∀ t, t < 12 → gi υ 110 t = nI (cnt t)) ∧ ∀ t, t < 12 → gi υ 109 t = nI (if t < i + 1 then updF s cnt got t else got t) := fun υ eυ hυ1 hυ2 => ⟨e.tr eυ, fun t ht => by rw [hυ1 t ht, hr2 t ht], fun t ht => by
      rw [hυ2 t ht]
      by_cases hti : t = i
      · subst hti; rw [if_pos rfl, if_pos (by omega)]
      · rw [if_neg hti, hg2 t ht]
        congr 1
        by_cases htl : t < i
        · rw [if_pos htl, if_pos (by omega)]
        · rw [if_neg htl, if_neg (by omega)]⟩
    simp (disch := omega) only [w_X12_lastOne_28, t_has, hτ _, N0, N1, N2, N3, N4, N5, N6, N7, N8, N9, N10, N11, N12, N13, N14, N15, N16, N17, N18, N19, N20, N21, N22, N23, N24, N25, N26, N27, N28, N29, N30, N32, N33, N34, N35, N36, N37, N38, N39, N40, N41, N42, N43, N44, N45, N46, N47, N48, N49, N50, N51, N52, N53, N54, N55, N56, N57, N58, N59, N60, N61, N62, N63, N64, N90, N96, N97, N98, N99, N100, N102, N103, N104, N107, N108, N109, N110, N111, N112, N114, N115, N116, N117, N118, N119, N120, N121, N122, N130, N138, N141, N142, N143, N144, N156, N240, N255, N256, N300, N400, N420, N421, N600, N900, N999, N1000, N1684, N2104, N2105, N2971, N4095, N4096, N9999, N10000, N10663, N65536, jI_add, jI_mul, jI_and, jI_or, jI_xor, jI_andn, jI_31, jI_shl, Nat.one_shiftLeft, jI_le, jI_lt, jI_eq, tn_nI, tc_nI, vp_nI, jI_allF, jI_bit, jI_bit0, jI_noneN, bI_N0, bI_N1, forall_eq, true_and, ↓reduceIte, hn]
    cases hb : s.testBit i <;> simp only [hb, Bool.false_and, Bool.true_and, Bool.false_eq_true, Bool.true_eq_false, decide_eq_true_eq, ↓reduceIte] at hK ⊢
    · refine hK _ ⟨rfl, rfl, rfl, hstep τ Eo.rf (fun _ _ => rfl) (fun t ht => ?_)⟩
      by_cases hti : t = i
      · subst hti
        rw [if_pos rfl, hg2 t ht, if_neg (Nat.lt_irrefl _)]
        simp [updF, hb]
      · rw [if_neg hti]
    · have hυ := hstep (si τ 109 i (nI (cnt i))) (Eo.si (Or.inl rfl)) (fun t _ => gi_si_a (by decide)) (fun t ht => by
        by_cases hti : t = i
        · subst hti; rw [if_pos rfl, gi_si_s]; simp [updF, hb]
        · rw [if_neg hti, gi_si_k hti])
      have h110 : ∀ t, t < 12 → gi (si τ 109 i (nI (cnt i))) 110 t = nI (cnt t) := hυ.2.1
      simp (disch := omega) only [hr2 i, h110 i, N0, N1, N2, N3, N4, N5, N6, N7, N8, N9, N10, N11, N12, N13, N14, N15, N16, N17, N18, N19, N20, N21, N22, N23, N24, N25, N26, N27, N28, N29, N30, N32, N33, N34, N35, N36, N37, N38, N39, N40, N41, N42, N43, N44, N45, N46, N47, N48, N49, N50, N51, N52, N53, N54, N55, N56, N57, N58, N59, N60, N61, N62, N63, N64, N90, N96, N97, N98, N99, N100, N102, N103, N104, N107, N108, N109, N110, N111, N112, N114, N115, N116, N117, N118, N119, N120, N121, N122, N130, N138, N141, N142, N143, N144, N156, N240, N255, N256, N300, N400, N420, N421, N600, N900, N999, N1000, N1684, N2104, N2105, N2971, N4095, N4096, N9999, N10000, N10663, N65536, jI_add, jI_mul, jI_and, jI_or, jI_xor, jI_andn, jI_31, jI_shl, Nat.one_shiftLeft, jI_le, jI_lt, jI_eq, tn_nI, tc_nI, vp_nI, jI_allF, jI_bit, jI_bit0, jI_noneN, bI_N0, bI_N1, forall_eq, true_and, ↓reduceIte]
      by_cases h0 : cnt i = 0
      · simp only [h0, Nat.lt_irrefl, ↓reduceIte] at hK hυ ⊢
        exact hK _ ⟨rfl, rfl, rfl, hυ⟩
      · have h0' : 0 < cnt i := by omega
        simp only [h0, h0', ↓reduceIte] at hK ⊢
        obtain ⟨many, few⟩ := p
        cases few with
        | zero =>
          simp only [oI, show (-1 : Int32) < nI 0 by decide, ↓reduceIte, true_or] at hK ⊢
          exact hK _ ⟨rfl, rfl, rfl, hυ⟩
        | succ f =>
          have hcf := hc6 f
          dsimp only at hle
          simp (disch := omega) only [oI, jI_lt, Nat.not_lt_zero, ↓reduceIte, vp_nI, tn_nI, true_and, h110 f]
          by_cases hl : cnt f < cnt i
          · simp only [hl, ↓reduceIte]
            have : ¬ (f + 1 = 0 ∨ cnt i ≤ cnt (f + 1 - 1)) := by simp; omega
            simp only [this, ↓reduceIte] at hK
            exact hK _ ⟨rfl, rfl, rfl, hυ⟩
          · simp only [hl, ↓reduceIte]
            have : (f + 1 = 0 ∨ cnt i ≤ cnt (f + 1 - 1)) := by simp; omega
            simp only [this, ↓reduceIte] at hK
            exact hK _ ⟨rfl, rfl, rfl, hυ⟩
  · rintro K ⟨x4, x5, x6, τ⟩ ⟨r4, r5, r6, e, hr2, hg2⟩
    dsimp only at r4 r5 r6 e hr2 hg2 ⊢
    subst r4 r5 r6
    have hτ : MR τ c := h.eo e (fun k q => by rcases q with q | q <;> cases q)
    have hle := holdF_le (s := s) (cnt := cnt) (n := c 0)
    have hpos := holdF_pos (s := s) (cnt := cnt) (n := c 0)
    have hg3 : ∀ t, t < 12 → gi τ 109 t = nI (updF s cnt got t) := fun t ht => by
      rw [hg2 t ht]
      congr 1
      by_cases htl : t < c 0
      · rw [if_pos htl]
      · rw [if_neg htl]
        have : s.testBit t = false := lt_two.mp hs t (by omega)
        simp [updF, this]
    have h1' := h1 τ e hg3
    have h2' := h2 τ e hg3
    generalize foldN (holdS s cnt) (0, 0) (c 0) = p at h1' h2' hle hpos ⊢
    simp (disch := omega) only [w_X12_lastOne_28, hτ _, N0, N1, N2, N3, N4, N5, N6, N7, N8, N9, N10, N11, N12, N13, N14, N15, N16, N17, N18, N19, N20, N21, N22, N23, N24, N25, N26, N27, N28, N29, N30, N32, N33, N34, N35, N36, N37, N38, N39, N40, N41, N42, N43, N44, N45, N46, N47, N48, N49, N50, N51, N52, N53, N54, N55, N56, N57, N58, N59, N60, N61, N62, N63, N64, N90, N96, N97, N98, N99, N100, N102, N103, N104, N107, N108, N109, N110, N111, N112, N114, N115, N116, N117, N118, N119, N120, N121, N122, N130, N138, N141, N142, N143, N144, N156, N240, N255, N256, N300, N400, N420, N421, N600, N900, N999, N1000, N1684, N2104, N2105, N2971, N4095, N4096, N9999, N10000, N10663, N65536, jI_add, jI_mul, jI_and, jI_or, jI_xor, jI_andn, jI_31, jI_shl, Nat.one_shiftLeft, jI_le, jI_lt, jI_eq, tn_nI, tc_nI, vp_nI, jI_allF, jI_bit, jI_bit0, jI_noneN, bI_N0, bI_N1, forall_eq, true_and, ↓reduceIte, Nat.le_refl]
    by_cases hm : 2 ≤ p.1
    · have h2'' := h2' (by omega)
      have hp2 := hpos (by omega)
      simp only [hm, ↓reduceIte]
      obtain ⟨many, few⟩ := p
      dsimp only at hm hp2 h2'' hle ⊢
      cases few with
      | zero => exact absurd hp2 (Nat.lt_irrefl _)
      | succ f =>
        simp (disch := omega) only [oI, jI_31, jI_shl, Nat.one_shiftLeft, jI_andn]
        exact h2''
    · simp only [hm, ↓reduceIte]
      exact h1' (by omega)
theorem t_lastOne {σ : Sto} {c : Nat → Nat} {P : Int32 → Sto → Prop} (h : MR σ c) (ok : OK c) {s : Nat} {got : Nat → Nat} (hs : s < 2 ^ c 0) (hg : ∀ t, t < 12 → gi σ 109 t = nI (got t))
    (k : ∀ τ, Eo S109 σ τ → (∀ t, t < 12 → gi τ 109 t = nI ((l2F c 13 s got).2 t)) → P (oI (l2F c 13 s got).1) τ) : w_X12_lastOne (nI s) σ P := by
  generalize hR : l2F c 13 s got = R at k
  refine Lp_for 13 (fun j q => ∃ s' got', s' < 2 ^ c 0 ∧ q.1 = nI s' ∧ q.2.1 = nI j ∧ Eo S109 σ q.2.2 ∧ (∀ t, t < 12 → gi q.2.2 109 t = nI (got' t)) ∧ l2F c (13 - j) s' got' = R) ⟨s, got, hs, rfl, rfl, Eo.rf, hg, hR⟩ ?_ ?_
  · rintro j hj K ⟨x2, x3, τ⟩ ⟨s', got', hs', r2, r3, e, hg', hl⟩ hK
    dsimp only at r2 r3 e hg' hK ⊢
    subst r2 r3
    have hτ : MR τ c := h.eo e (fun k q => by rcases q with q | q <;> cases q)
    have hn : ¬ 12 < j := by omega
    simp (disch := omega) only [w_X12_lastOne_4, N0, N1, N2, N3, N4, N5, N6, N7, N8, N9, N10, N11, N12, N13, N14, N15, N16, N17, N18, N19, N20, N21, N22, N23, N24, N25, N26, N27, N28, N29, N30, N32, N33, N34, N35, N36, N37, N38, N39, N40, N41, N42, N43, N44, N45, N46, N47, N48, N49, N50, N51, N52, N53, N54, N55, N56, N57, N58, N59, N60, N61, N62, N63, N64, N90, N96, N97, N98, N99, N100, N102, N103, N104, N107, N108, N109, N110, N111, N112, N114, N115, N116, N117, N118, N119, N120, N121, N122, N130, N138, N141, N142, N143, N144, N156, N240, N255, N256, N300, N400, N420, N421, N600, N900, N999, N1000, N1684, N2104, N2105, N2971, N4095, N4096, N9999, N10000, N10663, N65536, jI_add, jI_mul, jI_and, jI_or, jI_xor, jI_andn, jI_31, jI_shl, Nat.one_shiftLeft, jI_le, jI_lt, jI_eq, tn_nI, tc_nI, vp_nI, jI_allF, jI_bit, jI_bit0, jI_noneN, bI_N0, bI_N1, forall_eq, true_and, ↓reduceIte, hn]
    refine t_counts hτ ok a110 (by decide) (fun υ e2 hc => ?_)
    have e2' : Eo S109 τ υ := e2.mo (fun a k q => Or.inr q)
    have hυ : MR υ c := hτ.eo e2' (fun k q => by rcases q with q | q <;> cases q)
    have hl' : l2F c ((12 - j) + 1) s' got' = R := by rw [← hl]; congr 1; omega
    unfold l2F at hl'
    refine t_lastOne_in hυ ok hs' hj (fun t ht => by rw [e2.1 _ _ (fun q => absurd (show (109 : Nat) = 110 from q) (by decide))]; exact hg' t ht) hc (fun φ e3 hφ hm => ?_) (fun φ e3 hφ hm => ?_)
    · rw [if_pos hm] at hl'
      have := k φ ((e.tr e2').tr e3)
      rw [← hl'] at this
      exact this hφ
    · rw [if_neg hm] at hl'
      refine hK _ ⟨_, _, sub_lt sub_sd hs', rfl, rfl, (e.tr e2').tr e3, hφ, ?_⟩
      rw [show 13 - (j + 1) = 12 - j by omega]
      exact hl'
  · rintro K ⟨x2, x3, τ⟩ ⟨s', got', hs', r2, r3, e, hg', hl⟩
    dsimp only at r2 r3 e hg' ⊢
    subst r2 r3
    unfold w_X12_lastOne_4
    rw [if_pos (by decide)]
    have := k τ e
    rw [← hl] at this
    exact this hg'
theorem t_namedBy {σ : Sto} {c : Nat → Nat} {P : Int32 → Sto → Prop} (h : MR σ c) (ok : OK c) {law s : Nat} (hl : law ≤ 2) (hs : s < 2 ^ c 0) (k : ∀ τ, Eo S109 σ τ → (∀ t, t < 12 → gi τ 109 t = nI (gotF c law s t)) → P (oI (nameF c law s)) τ) : w_X12_namedBy (nI law) (nI s) σ P := by
  refine Lp_for 12 (fun j q => q.1 = nI j ∧ Eo (fun b _ => b = 109) σ q.2 ∧ ∀ t, t < j → gi q.2 109 t = 0) ⟨rfl, Eo.rf, fun t ht => absurd ht (Nat.not_lt_zero _)⟩ ?_ ?_
  · rintro j hj K ⟨x, τ⟩ ⟨rfl, e, hz⟩ hK
    dsimp only at e hz hK ⊢
    have hn : ¬ 12 ≤ j := by omega
    simp (disch := omega) only [w_X12_namedBy_2, N0, N1, N2, N3, N4, N5, N6, N7, N8, N9, N10, N11, N12, N13, N14, N15, N16, N17, N18, N19, N20, N21, N22, N23, N24, N25, N26, N27, N28, N29, N30, N32, N33, N34, N35, N36, N37, N38, N39, N40, N41, N42, N43, N44, N45, N46, N47, N48, N49, N50, N51, N52, N53, N54, N55, N56, N57, N58, N59, N60, N61, N62, N63, N64, N90, N96, N97, N98, N99, N100, N102, N103, N104, N107, N108, N109, N110, N111, N112, N114, N115, N116, N117, N118, N119, N120, N121, N122, N130, N138, N141, N142, N143, N144, N156, N240, N255, N256, N300, N400, N420, N421, N600, N900, N999, N1000, N1684, N2104, N2105, N2971, N4095, N4096, N9999, N10000, N10663, N65536, jI_add, jI_mul, jI_and, jI_or, jI_xor, jI_andn, jI_31, jI_shl, Nat.one_shiftLeft, jI_le, jI_lt, jI_eq, tn_nI, tc_nI, vp_nI, jI_allF, jI_bit, jI_bit0, jI_noneN, bI_N0, bI_N1, forall_eq, true_and, ↓reduceIte, hn]
    refine hK _ ⟨rfl, e.tr (Eo.si rfl), fun t ht => ?_⟩
    dsimp only
    by_cases htj : t = j
    · subst htj; exact gi_si_s
    · rw [gi_si_k htj]; exact hz t (by omega)
  · rintro K ⟨x, τ⟩ ⟨rfl, e, hz⟩
    dsimp only at e hz ⊢
    have hτ : MR τ c := h.eo e (fun k q => absurd q (by decide))
    have e1 : Eo S109 σ τ := e.mo (fun a k q => Or.inl q)
    simp (disch := omega) only [w_X12_namedBy_2, w_X12_namedBy_54, N0, N1, N2, N3, N4, N5, N6, N7, N8, N9, N10, N11, N12, N13, N14, N15, N16, N17, N18, N19, N20, N21, N22, N23, N24, N25, N26, N27, N28, N29, N30, N32, N33, N34, N35, N36, N37, N38, N39, N40, N41, N42, N43, N44, N45, N46, N47, N48, N49, N50, N51, N52, N53, N54, N55, N56, N57, N58, N59, N60, N61, N62, N63, N64, N90, N96, N97, N98, N99, N100, N102, N103, N104, N107, N108, N109, N110, N111, N112, N114, N115, N116, N117, N118, N119, N120, N121, N122, N130, N138, N141, N142, N143, N144, N156, N240, N255, N256, N300, N400, N420, N421, N600, N900, N999, N1000, N1684, N2104, N2105, N2971, N4095, N4096, N9999, N10000, N10663, N65536, jI_add, jI_mul, jI_and, jI_or, jI_xor, jI_andn, jI_31, jI_shl, Nat.one_shiftLeft, jI_le, jI_lt, jI_eq, tn_nI, tc_nI, vp_nI, jI_allF, jI_bit, jI_bit0, jI_noneN, bI_N0, bI_N1, forall_eq, true_and, ↓reduceIte, Nat.le_refl]
    by_cases h2 : law = 2
    · subst h2
      simp only [↓reduceIte]
      refine t_lastOne hτ ok (got := fun _ => 0) hs hz (fun υ e2 hg => ?_)
      exact k υ (e1.tr e2) hg
    · simp only [h2, ↓reduceIte]
      by_cases h1 : law = 1
      · subst h1
        simp only [↓reduceIte]
        refine t_sums hτ ok hs (fun υ e2 hg => ?_)
        have e3 : Eo S109 τ υ := e2.mo (fun a k q => Or.inl q)
        refine t_mostVotes (hτ.eo e3 (fun k q => by rcases q with q | q <;> cases q)) ok (got := sumF c s) (fun t ht => by have := sumN_le ok (set := s) ht (Nat.le_refl (c 3)); unfold sumF; omega) hg ?_
        exact k υ (e1.tr e3) hg
      · simp only [h1, ↓reduceIte]
        refine t_counts hτ ok a109 (by decide) (fun υ e2 hg => ?_)
        have e3 : Eo S109 τ υ := e2.mo (fun a k q => Or.inl q)
        refine t_mostVotes (hτ.eo e3 (fun k q => by rcases q with q | q <;> cases q)) ok (got := countsF c s) (fun t ht => by have := cnt_le ok (set := s) (t := t); omega) hg ?_
        have hgot : gotF c law s = countsF c s := by simp [gotF, h1, h2]
        have hnm : nameF c law s = mostF c (countsF c s) := by simp [nameF, h2, hgot]
        rw [← hnm]
        exact k υ (e1.tr e3) (by rw [hgot]; exact hg)
/-- what the vote would name, by what is unmade and exempt -/
def votedF (c : Nat → Nat) (g x : Nat) : Nat := nameF c (c 4) (sd (upF c g) x)
theorem t_voted {σ : Sto} {c : Nat → Nat} {P : Int32 → Sto → Prop} (h : MR σ c) (ok : OK c) {g x : Nat} (k : ∀ τ, Eo S109 σ τ → P (oI (votedF c g x)) τ) : w_X12_voted (nI g) (nI x) σ P := by
  unfold w_X12_voted
  refine t_standing h ok ?_
  rw [h 4 (by decide), jI_andn]
  exact t_namedBy h ok ok.n4 (sub_lt sub_sd (upF_lt ok)) (fun τ e _ => k τ e)
def openF (c : Nat → Nat) : Nat := sd (nowF c) (c 7)
theorem openF_lt {c : Nat → Nat} (ok : OK c) : openF c < 2 ^ c 0 := sub_lt sub_sd (upF_lt ok)
theorem t_inVote {σ : Sto} {c : Nat → Nat} {P : Int32 → Sto → Prop} (h : MR σ c) (ok : OK c) (k : P (nI (openF c)) σ) : w_X12_inVote σ P := by
  unfold w_X12_inVote
  refine t_now h ok ?_
  rw [h 7 (by decide), jI_andn]
  exact k
