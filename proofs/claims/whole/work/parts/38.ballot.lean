/-! ===== the class's ballot ===== -/
def BC (σ : Sto) (c : Nat → Nat) : Prop := isCity (gr σ 90 3) ∧ CR σ (gr σ 90 3) c
def S92 (a _ : Nat) : Prop := a = 92
/-- no cell of a city is among S -/
def NoC (S : Nat → Nat → Prop) : Prop := ∀ a k, S a k → (a < 13 ∨ 40 < a) ∧ (a < 45 ∨ 86 < a)
theorem NoC92 : NoC S92 := fun a k (h : a = 92) => by omega
theorem BC.eo {S : Nat → Nat → Prop} {σ τ : Sto} {c : Nat → Nat} (h : BC σ c) (e : Eo S σ τ) (hs : NoC S) : BC τ c := by
  have hrg := h.1.rg
  have hcr : CR τ (gr σ 90 3) c := h.2.eo e (fun i k hi q => by
    have := hs _ _ q
    omega)
  exact ⟨by rw [e.2.2]; exact h.1, by rw [e.2.2]; exact hcr⟩
theorem BC.f {σ : Sto} {c : Nat → Nat} (h : BC σ c) {k : Nat} (hk : k < 8) : gi σ (gr σ 90 3) (8 + k) = nI (c k) := h.2.1 k hk
theorem BC.hate {σ : Sto} {c : Nat → Nat} (h : BC σ c) {v t : Nat} (hv : v < c 3) (ht : t < c 0) : gi σ (gr σ 90 3 + 6) (v * 12 + t) = nI (hateF c v t) := by
  rw [Nat.mul_comm]
  exact h.2.2.2.2.2.2.1 v hv t ht
def cntB (c : Nat → Nat) (sk : Nat → Bool) (set n t : Nat) : Nat := foldN (fun s v => if sk v = false ∧ favF c set v = t + 1 then s + 1 else s) 0 n
theorem cntB_le {c : Nat → Nat} {sk : Nat → Bool} {set t : Nat} : ∀ n, cntB c sk set n t ≤ n
  | 0 => Nat.le_refl _
  | n + 1 => by
    have := cntB_le (c := c) (sk := sk) (set := set) (t := t) n
    show (if sk n = false ∧ favF c set n = t + 1 then cntB c sk set n t + 1 else cntB c sk set n t) ≤ n + 1
    split <;> omega
theorem cntB_none {c : Nat → Nat} {set t : Nat} {sk : Nat → Bool} (h : ∀ v, v < c 3 → sk v = false) : cntB c sk set (c 3) t = countsF c set t :=
  foldN_congr (c 3) (fun v hv x => by rw [h v hv]; simp)
theorem t_hatredOf {σ : Sto} {c : Nat → Nat} {P : Int32 → Sto → Prop} (h : BC σ c) (ok : OK c) {t : Nat} (ht : t < c 0) (k : P (nI (hatF c (c 3) t)) σ) : w_X0_hatredOf (nI t) σ P := by
  have := ok.n0
  have := ok.n3
  have h11 : gi σ (gr σ 90 3) 11 = nI (c 3) := h.f (k := 3) (by decide)
  refine Lp_det (c 3) (fun j => (nI (hatF c j t), nI j, σ)) rfl (fun j hj K hK => ?_) (fun K => ?_)
  · have hn : ¬ c 3 ≤ j := by omega
    dsimp only
    unfold w_X0_hatredOf_4
    refine ⟨h.1, ?_⟩
    rw [h11]
    have hh := h.hate hj ht
    simp (disch := omega) only [N0, N1, N2, N3, N4, N5, N6, N7, N8, N9, N10, N11, N12, N13, N14, N15, N16, N17, N18, N19, N20, N21, N22, N23, N24, N25, N26, N27, N28, N29, N30, N32, N33, N34, N35, N36, N37, N38, N39, N40, N41, N42, N43, N44, N45, N46, N47, N48, N49, N50, N51, N52, N53, N54, N55, N56, N57, N58, N59, N60, N61, N62, N63, N64, N90, N96, N97, N98, N99, N100, N102, N103, N104, N107, N108, N109, N110, N111, N112, N114, N115, N116, N117, N118, N119, N120, N121, N122, N130, N138, N141, N142, N143, N144, N156, N240, N255, N256, N300, N400, N420, N421, N600, N900, N999, N1000, N1684, N2104, N2105, N2971, N4095, N4096, N9999, N10000, N10663, N65536, jI_add, jI_mul, jI_and, jI_or, jI_xor, jI_andn, jI_31, jI_shl, Nat.one_shiftLeft, jI_le, jI_lt, jI_eq, tn_nI, tc_nI, vp_nI, jI_allF, jI_bit, jI_bit0, jI_noneN, bI_N0, bI_N1, forall_eq, true_and, ↓reduceIte, hn, hh]
    exact hK
  · dsimp only
    unfold w_X0_hatredOf_4
    refine ⟨h.1, ?_⟩
    rw [h11]
    simp (disch := omega) only [jI_le, Nat.le_refl, ↓reduceIte]
    exact k
theorem t_most {σ : Sto} {c : Nat → Nat} {P : Int32 → Sto → Prop} (h : BC σ c) (ok : OK c) {s : Nat} {got : Nat → Nat} (hb : ∀ t, t < 12 → got t ≤ 1000) (hg : ∀ t, t < c 0 → gi σ 92 t = nI (got t)) (k : P (oI (mostF c (fun t => if s.testBit t then got t else 0))) σ) : w_X0_most (nI s) σ P := by
  have := ok.n0
  have h8 : gi σ (gr σ 90 3) 8 = nI (c 0) := h.f (k := 0) (by decide)
  generalize hG : (fun t => if s.testBit t then got t else 0) = G at k
  have hGb : ∀ t, G t = if s.testBit t then got t else 0 := fun t => by rw [← hG]
  refine Lp_det (c 0) (fun j => (oI (foldN (mostS G) 0 j), nI (if foldN (mostS G) 0 j = 0 then 0 else G (foldN (mostS G) 0 j - 1)), nI j, σ)) rfl (fun j hj K hK => ?_) (fun K => ?_)
  · have hn : ¬ c 0 ≤ j := by omega
    have hle := mostF_le (c := c) (got := G) (n := j)
    have hb1 := hb j (by omega)
    have hGj := hGb j
    replace hK : K (oI (mostS G (foldN (mostS G) 0 j) j), nI (if mostS G (foldN (mostS G) 0 j) j = 0 then 0 else G (mostS G (foldN (mostS G) 0 j) j - 1)), nI (j + 1), σ) := hK
    generalize foldN (mostS G) 0 j = b at hK hle ⊢
    have hGb2 : (if b = 0 then 0 else G (b - 1)) ≤ 1000 := by
      split
      · omega
      · rw [hGb]
        have := hb (b - 1) (by omega)
        split <;> omega
    dsimp only
    unfold w_X0_most_7
    refine ⟨h.1, ?_⟩
    rw [h8]
    simp (disch := omega) only [N0, N1, N2, N3, N4, N5, N6, N7, N8, N9, N10, N11, N12, N13, N14, N15, N16, N17, N18, N19, N20, N21, N22, N23, N24, N25, N26, N27, N28, N29, N30, N32, N33, N34, N35, N36, N37, N38, N39, N40, N41, N42, N43, N44, N45, N46, N47, N48, N49, N50, N51, N52, N53, N54, N55, N56, N57, N58, N59, N60, N61, N62, N63, N64, N90, N96, N97, N98, N99, N100, N102, N103, N104, N107, N108, N109, N110, N111, N112, N114, N115, N116, N117, N118, N119, N120, N121, N122, N130, N138, N141, N142, N143, N144, N156, N240, N255, N256, N300, N400, N420, N421, N600, N900, N999, N1000, N1684, N2104, N2105, N2971, N4095, N4096, N9999, N10000, N10663, N65536, jI_add, jI_mul, jI_and, jI_or, jI_xor, jI_andn, jI_31, jI_shl, Nat.one_shiftLeft, jI_le, jI_lt, jI_eq, tn_nI, tc_nI, vp_nI, jI_allF, jI_bit, jI_bit0, jI_noneN, bI_N0, bI_N1, forall_eq, true_and, ↓reduceIte, hn, hg j hj]
    unfold mostS at hK
    by_cases h0 : got j ≤ (if b = 0 then 0 else G (b - 1))
    · simp only [h0, ↓reduceIte]
      have : ¬ (0 < G j ∧ (b = 0 ∨ G (b - 1) < G j)) := by
        rintro ⟨g1, g2⟩
        have : G j ≤ got j := by rw [hGj]; split <;> omega
        by_cases hb0 : b = 0
        · rw [if_pos hb0] at h0; omega
        · rw [if_neg hb0] at h0
          rcases g2 with g2 | g2
          · exact hb0 g2
          · omega
      rw [if_neg this] at hK
      exact hK
    · simp only [h0, ↓reduceIte]
      cases hs : s.testBit j <;> simp only [hs, Bool.false_eq_true, Bool.true_eq_false, ↓reduceIte] at hGj ⊢
      · rw [if_neg (by omega)] at hK
        exact hK
      · have : 0 < G j ∧ (b = 0 ∨ G (b - 1) < G j) := by
          rw [hGj]
          by_cases hb0 : b = 0
          · rw [if_pos hb0] at h0; exact ⟨by omega, Or.inl hb0⟩
          · rw [if_neg hb0] at h0; exact ⟨by omega, Or.inr (by omega)⟩
        rw [if_pos this, if_neg (by omega)] at hK
        simp only [Nat.add_sub_cancel] at hK
        rw [hGj] at hK
        exact hK
  · dsimp only
    unfold w_X0_most_7
    refine ⟨h.1, ?_⟩
    rw [h8]
    simp (disch := omega) only [jI_le, Nat.le_refl, ↓reduceIte]
    exact k
theorem t_lastOfFewest {σ : Sto} {c : Nat → Nat} {P : Int32 → Sto → Prop} (h : BC σ c) (ok : OK c) {s : Nat} {got : Nat → Nat} (hb : ∀ t, t < 12 → got t ≤ 1000) (hg : ∀ t, t < c 0 → gi σ 92 t = nI (got t)) (k : P (oI (if (holdF c s got).1 ≤ 1 then 0 else (holdF c s got).2)) σ) : w_X0_lastOfFewest (nI s) σ P := by
  have := ok.n0
  have h8 : gi σ (gr σ 90 3) 8 = nI (c 0) := h.f (k := 0) (by decide)
  unfold holdF at k
  refine Lp_det (c 0) (fun j => (oI (foldN (holdS s got) (0, 0) j).2, nI (foldN (holdS s got) (0, 0) j).1, nI j, σ)) rfl (fun j hj K hK => ?_) (fun K => ?_)
  · have hn : ¬ c 0 ≤ j := by omega
    have hle := holdF_le (s := s) (cnt := got) (n := j)
    have hb1 := hb j (by omega)
    replace hK : K (oI (holdS s got (foldN (holdS s got) (0, 0) j) j).2, nI (holdS s got (foldN (holdS s got) (0, 0) j) j).1, nI (j + 1), σ) := hK
    generalize foldN (holdS s got) (0, 0) j = p at hK hle ⊢
    dsimp only
    unfold w_X0_lastOfFewest_7
    refine ⟨h.1, ?_⟩
    rw [h8]
    simp (disch := omega) only [N0, N1, N2, N3, N4, N5, N6, N7, N8, N9, N10, N11, N12, N13, N14, N15, N16, N17, N18, N19, N20, N21, N22, N23, N24, N25, N26, N27, N28, N29, N30, N32, N33, N34, N35, N36, N37, N38, N39, N40, N41, N42, N43, N44, N45, N46, N47, N48, N49, N50, N51, N52, N53, N54, N55, N56, N57, N58, N59, N60, N61, N62, N63, N64, N90, N96, N97, N98, N99, N100, N102, N103, N104, N107, N108, N109, N110, N111, N112, N114, N115, N116, N117, N118, N119, N120, N121, N122, N130, N138, N141, N142, N143, N144, N156, N240, N255, N256, N300, N400, N420, N421, N600, N900, N999, N1000, N1684, N2104, N2105, N2971, N4095, N4096, N9999, N10000, N10663, N65536, jI_add, jI_mul, jI_and, jI_or, jI_xor, jI_andn, jI_31, jI_shl, Nat.one_shiftLeft, jI_le, jI_lt, jI_eq, tn_nI, tc_nI, vp_nI, jI_allF, jI_bit, jI_bit0, jI_noneN, bI_N0, bI_N1, forall_eq, true_and, ↓reduceIte, hn, hg j hj]
    unfold holdS at hK
    by_cases h0 : got j ≤ 0
    · have h0' : ¬ 0 < got j := by omega
      simp only [h0, h0', decide_false, Bool.and_false, Bool.false_eq_true, ↓reduceIte] at hK ⊢
      exact hK
    · have h0' : 0 < got j := by omega
      simp only [h0, h0', decide_true, Bool.and_true, ↓reduceIte] at hK ⊢
      cases hs : s.testBit j <;> simp only [hs, Bool.false_eq_true, Bool.true_eq_false, ↓reduceIte] at hK ⊢
      · exact hK
      · obtain ⟨many, few⟩ := p
        cases few with
        | zero =>
          simp only [oI, true_or, ↓reduceIte] at hK ⊢
          exact hK
        | succ f =>
          dsimp only at hle
          have hb2 := hb f (by omega)
          simp (disch := omega) only [oI, jI_none, jI_noneN, jI_lt, ↓reduceIte, vp_nI, tn_nI, true_and, hg f]
          by_cases hl : got f < got j
          · simp only [hl, ↓reduceIte]
            have : ¬ (f + 1 = 0 ∨ got j ≤ got (f + 1 - 1)) := by simp; omega
            simp only [this, ↓reduceIte] at hK
            exact hK
          · simp only [hl, ↓reduceIte]
            have : (f + 1 = 0 ∨ got j ≤ got (f + 1 - 1)) := by simp; omega
            simp only [this, ↓reduceIte] at hK
            exact hK
  · have hle := holdF_le (s := s) (cnt := got) (n := c 0)
    generalize foldN (holdS s got) (0, 0) (c 0) = p at k hle ⊢
    dsimp only
    unfold w_X0_lastOfFewest_7
    refine ⟨h.1, ?_⟩
    rw [h8]
    simp (disch := omega) only [N0, N1, N2, N3, N4, N5, N6, N7, N8, N9, N10, N11, N12, N13, N14, N15, N16, N17, N18, N19, N20, N21, N22, N23, N24, N25, N26, N27, N28, N29, N30, N32, N33, N34, N35, N36, N37, N38, N39, N40, N41, N42, N43, N44, N45, N46, N47, N48, N49, N50, N51, N52, N53, N54, N55, N56, N57, N58, N59, N60, N61, N62, N63, N64, N90, N96, N97, N98, N99, N100, N102, N103, N104, N107, N108, N109, N110, N111, N112, N114, N115, N116, N117, N118, N119, N120, N121, N122, N130, N138, N141, N142, N143, N144, N156, N240, N255, N256, N300, N400, N420, N421, N600, N900, N999, N1000, N1684, N2104, N2105, N2971, N4095, N4096, N9999, N10000, N10663, N65536, jI_add, jI_mul, jI_and, jI_or, jI_xor, jI_andn, jI_31, jI_shl, Nat.one_shiftLeft, jI_le, jI_lt, jI_eq, tn_nI, tc_nI, vp_nI, jI_allF, jI_bit, jI_bit0, jI_noneN, bI_N0, bI_N1, forall_eq, true_and, ↓reduceIte, Nat.le_refl]
    by_cases hm : p.1 ≤ 1 <;> simp only [hm, ↓reduceIte] at k ⊢
    · exact k
    · exact k
