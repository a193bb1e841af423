/-! ===== the model: what stands ===== -/
theorem OK.n0 {c : Nat → Nat} (h : OK c) : c 0 ≤ 12 := h.1
theorem OK.n1 {c : Nat → Nat} (h : OK c) : c 1 ≤ 16 := h.2.1
theorem OK.n2 {c : Nat → Nat} (h : OK c) : c 2 ≤ 6 := h.2.2.1
theorem OK.n3 {c : Nat → Nat} (h : OK c) : c 3 ≤ 6 := h.2.2.2.1
theorem OK.n4 {c : Nat → Nat} (h : OK c) : c 4 ≤ 2 := h.2.2.2.2.1
theorem OK.n5 {c : Nat → Nat} (h : OK c) : c 5 ≤ 9999 := h.2.2.2.2.2.1
theorem OK.n6 {c : Nat → Nat} (h : OK c) : c 6 < 2 ^ c 0 := h.2.2.2.2.2.2.1
theorem OK.n7 {c : Nat → Nat} (h : OK c) : c 7 < 2 ^ c 0 := h.2.2.2.2.2.2.2.1
theorem OK.worth {c : Nat → Nat} (h : OK c) : ∀ t, t < c 0 → c (8 + t) ≤ 99 := h.2.2.2.2.2.2.2.2.1
theorem OK.made {c : Nat → Nat} (h : OK c) : ∀ m, m < c 1 → c (20 + m) < c 0 := h.2.2.2.2.2.2.2.2.2.1
theorem OK.parts {c : Nat → Nat} (h : OK c) : ∀ m, m < c 1 → c (36 + m) < 2 ^ c 0 := h.2.2.2.2.2.2.2.2.2.2.1
theorem OK.needs {c : Nat → Nat} (h : OK c) : ∀ w, w < c 2 → c (52 + w) < 2 ^ c 0 := h.2.2.2.2.2.2.2.2.2.2.2.2.1
theorem OK.hates {c : Nat → Nat} (h : OK c) : ∀ v, v < c 3 → ∀ t, t < 12 → c (58 + 12 * v + t) ≤ 9 := h.2.2.2.2.2.2.2.2.2.2.2.2.2.1
theorem OK.ahead {c : Nat → Nat} (h : OK c) : ∀ t, t < c 0 → c (130 + t) < 2 ^ c 0 := h.2.2.2.2.2.2.2.2.2.2.2.2.2.2.1
theorem OK.aheadn {c : Nat → Nat} (h : OK c) : ∀ t, t < c 0 → (c (130 + t)).testBit t = false := h.2.2.2.2.2.2.2.2.2.2.2.2.2.2.2
theorem t_has {σ : Sto} {P : Int32 → Sto → Prop} {a k : Nat} (hk : k < 32) : w_X12_has (nI a) (nI k) σ P = P (bI (a.testBit k)) σ := by
  unfold w_X12_has
  simp (disch := omega) only [N0, N1, N2, N3, N4, N5, N6, N7, N8, N9, N10, N11, N12, N13, N14, N15, N16, N17, N18, N19, N20, N21, N22, N23, N24, N25, N26, N27, N28, N29, N30, N32, N33, N34, N35, N36, N37, N38, N39, N40, N41, N42, N43, N44, N45, N46, N47, N48, N49, N50, N51, N52, N53, N54, N55, N56, N57, N58, N59, N60, N61, N62, N63, N64, N90, N96, N97, N98, N99, N100, N102, N103, N104, N107, N108, N109, N110, N111, N112, N114, N115, N116, N117, N118, N119, N120, N121, N122, N130, N138, N141, N142, N143, N144, N156, N240, N255, N256, N300, N400, N420, N421, N600, N900, N999, N1000, N1684, N2104, N2105, N2971, N4095, N4096, N9999, N10000, N10663, N65536, jI_add, jI_mul, jI_and, jI_or, jI_xor, jI_andn, jI_31, jI_shl, Nat.one_shiftLeft, jI_le, jI_lt, jI_eq, tn_nI, tc_nI, vp_nI, jI_allF, jI_bit, jI_bit0, jI_noneN, bI_N0, bI_N1, forall_eq, true_and, ↓reduceIte]
  cases a.testBit k <;> rfl
theorem t_allThings {σ : Sto} {c : Nat → Nat} {P : Int32 → Sto → Prop} (h : MR σ c) (ok : OK c) : w_X12_allThings σ P = P (nI (allF (c 0))) σ := by
  have := ok.n0
  unfold w_X12_allThings
  simp (disch := omega) only [h _, N0, N1, N2, N3, N4, N5, N6, N7, N8, N9, N10, N11, N12, N13, N14, N15, N16, N17, N18, N19, N20, N21, N22, N23, N24, N25, N26, N27, N28, N29, N30, N32, N33, N34, N35, N36, N37, N38, N39, N40, N41, N42, N43, N44, N45, N46, N47, N48, N49, N50, N51, N52, N53, N54, N55, N56, N57, N58, N59, N60, N61, N62, N63, N64, N90, N96, N97, N98, N99, N100, N102, N103, N104, N107, N108, N109, N110, N111, N112, N114, N115, N116, N117, N118, N119, N120, N121, N122, N130, N138, N141, N142, N143, N144, N156, N240, N255, N256, N300, N400, N420, N421, N600, N900, N999, N1000, N1684, N2104, N2105, N2971, N4095, N4096, N9999, N10000, N10663, N65536, jI_add, jI_mul, jI_and, jI_or, jI_xor, jI_andn, jI_31, jI_shl, Nat.one_shiftLeft, jI_le, jI_lt, jI_eq, tn_nI, tc_nI, vp_nI, jI_allF, jI_bit, jI_bit0, jI_noneN, bI_N0, bI_N1, forall_eq, true_and, ↓reduceIte]
  rfl
theorem t_madeThings {σ : Sto} {c : Nat → Nat} {P : Int32 → Sto → Prop} (h : MR σ c) (ok : OK c) (k : P (nI (madeF c)) σ) : w_X12_madeThings σ P := by
  have := ok.n0
  have := ok.n1
  refine Lp_det (c 1) (fun j => (nI (foldN (fun s m => s ||| 2 ^ c (20 + m)) 0 j), nI j, σ)) rfl (fun j hj K hK => ?_) (fun K => ?_)
  · have h1 := ok.made j hj
    have h2 : ¬ c 1 ≤ j := by omega
    simp (disch := omega) only [w_X12_madeThings_4, h _, N0, N1, N2, N3, N4, N5, N6, N7, N8, N9, N10, N11, N12, N13, N14, N15, N16, N17, N18, N19, N20, N21, N22, N23, N24, N25, N26, N27, N28, N29, N30, N32, N33, N34, N35, N36, N37, N38, N39, N40, N41, N42, N43, N44, N45, N46, N47, N48, N49, N50, N51, N52, N53, N54, N55, N56, N57, N58, N59, N60, N61, N62, N63, N64, N90, N96, N97, N98, N99, N100, N102, N103, N104, N107, N108, N109, N110, N111, N112, N114, N115, N116, N117, N118, N119, N120, N121, N122, N130, N138, N141, N142, N143, N144, N156, N240, N255, N256, N300, N400, N420, N421, N600, N900, N999, N1000, N1684, N2104, N2105, N2971, N4095, N4096, N9999, N10000, N10663, N65536, jI_add, jI_mul, jI_and, jI_or, jI_xor, jI_andn, jI_31, jI_shl, Nat.one_shiftLeft, jI_le, jI_lt, jI_eq, tn_nI, tc_nI, vp_nI, jI_allF, jI_bit, jI_bit0, jI_noneN, bI_N0, bI_N1, forall_eq, true_and, ↓reduceIte, h2]
    exact hK
  · simp (disch := omega) only [w_X12_madeThings_4, h _, N0, N1, N2, N3, N4, N5, N6, N7, N8, N9, N10, N11, N12, N13, N14, N15, N16, N17, N18, N19, N20, N21, N22, N23, N24, N25, N26, N27, N28, N29, N30, N32, N33, N34, N35, N36, N37, N38, N39, N40, N41, N42, N43, N44, N45, N46, N47, N48, N49, N50, N51, N52, N53, N54, N55, N56, N57, N58, N59, N60, N61, N62, N63, N64, N90, N96, N97, N98, N99, N100, N102, N103, N104, N107, N108, N109, N110, N111, N112, N114, N115, N116, N117, N118, N119, N120, N121, N122, N130, N138, N141, N142, N143, N144, N156, N240, N255, N256, N300, N400, N420, N421, N600, N900, N999, N1000, N1684, N2104, N2105, N2971, N4095, N4096, N9999, N10000, N10663, N65536, jI_add, jI_mul, jI_and, jI_or, jI_xor, jI_andn, jI_31, jI_shl, Nat.one_shiftLeft, jI_le, jI_lt, jI_eq, tn_nI, tc_nI, vp_nI, jI_allF, jI_bit, jI_bit0, jI_noneN, bI_N0, bI_N1, forall_eq, true_and, ↓reduceIte, Nat.le_refl]
    exact k
theorem sd_12 {a b n : Nat} (ha : a < 2 ^ n) (hn : n ≤ 12) : sd a b < 4096 := p12 (sub_lt sub_sd ha) hn
theorem t_sb_in {σ : Sto} {c : Nat → Nat} {P : Int32 → Sto → Prop} (h : MR σ c) (ok : OK c) {g mk s : Nat} {K19 : Int32 × Int32 × Sto → Prop} (hK19 : K19 (nI (passF c g mk s), nI s, σ)) :
    Lp (fun (K : Int32 × Int32 × Sto → Prop) q => w_X12_standingBy_31 K19 K (nI g) (nI mk) q.1 (nI s) q.2.1 q.2.2 P) (nI s, 0, σ) := by
  have := ok.n0
  have := ok.n1
  refine Lp_det (c 1) (fun j => (nI (foldN (stepF c g mk) s j), nI j, σ)) rfl (fun j hj K hK => ?_) (fun K => ?_)
  · have h1 := ok.made j hj
    have h2 : ¬ c 1 ≤ j := by omega
    replace hK : K (nI (stepF c g mk (foldN (stepF c g mk) s j) j), nI (j + 1), σ) := hK
    generalize foldN (stepF c g mk) s j = acc at hK ⊢
    have h3 := sd_12 (b := acc) (ok.parts j hj) ok.n0
    simp (disch := omega) only [w_X12_standingBy_31, w_X12_standingBy_90, t_has, h _, N0, N1, N2, N3, N4, N5, N6, N7, N8, N9, N10, N11, N12, N13, N14, N15, N16, N17, N18, N19, N20, N21, N22, N23, N24, N25, N26, N27, N28, N29, N30, N32, N33, N34, N35, N36, N37, N38, N39, N40, N41, N42, N43, N44, N45, N46, N47, N48, N49, N50, N51, N52, N53, N54, N55, N56, N57, N58, N59, N60, N61, N62, N63, N64, N90, N96, N97, N98, N99, N100, N102, N103, N104, N107, N108, N109, N110, N111, N112, N114, N115, N116, N117, N118, N119, N120, N121, N122, N130, N138, N141, N142, N143, N144, N156, N240, N255, N256, N300, N400, N420, N421, N600, N900, N999, N1000, N1684, N2104, N2105, N2971, N4095, N4096, N9999, N10000, N10663, N65536, jI_add, jI_mul, jI_and, jI_or, jI_xor, jI_andn, jI_31, jI_shl, Nat.one_shiftLeft, jI_le, jI_lt, jI_eq, tn_nI, tc_nI, vp_nI, jI_allF, jI_bit, jI_bit0, jI_noneN, bI_N0, bI_N1, forall_eq, true_and, ↓reduceIte, h2]
    unfold stepF at hK
    cases hm : mk.testBit j <;> simp only [hm, Bool.false_and, Bool.true_and, Bool.false_eq_true, ↓reduceIte] at hK ⊢
    · exact hK
    · by_cases hd : sd (c (36 + j)) acc = 0 <;> simp only [hd, beq_iff_eq, Nat.beq_eq_true_eq, ↓reduceIte] at hK ⊢
      · cases hg : g.testBit (c (20 + j)) <;> simp only [hg, Bool.not_false, Bool.not_true, Bool.and_false, Bool.and_true, BEq.rfl, Bool.false_eq_true, ↓reduceIte] at hK ⊢
        · first | exact hK | (simp at hK ⊢; exact hK)
        · first | exact hK | (simp at hK ⊢; exact hK)
      · have : (sd (c (36 + j)) acc == 0) = false := by simp [hd]
        simp only [this, Bool.false_and, Bool.false_eq_true, ↓reduceIte] at hK ⊢
        first | exact hK | (simp at hK ⊢; exact hK)
  · simp (disch := omega) only [w_X12_standingBy_31, h _, N0, N1, N2, N3, N4, N5, N6, N7, N8, N9, N10, N11, N12, N13, N14, N15, N16, N17, N18, N19, N20, N21, N22, N23, N24, N25, N26, N27, N28, N29, N30, N32, N33, N34, N35, N36, N37, N38, N39, N40, N41, N42, N43, N44, N45, N46, N47, N48, N49, N50, N51, N52, N53, N54, N55, N56, N57, N58, N59, N60, N61, N62, N63, N64, N90, N96, N97, N98, N99, N100, N102, N103, N104, N107, N108, N109, N110, N111, N112, N114, N115, N116, N117, N118, N119, N120, N121, N122, N130, N138, N141, N142, N143, N144, N156, N240, N255, N256, N300, N400, N420, N421, N600, N900, N999, N1000, N1684, N2104, N2105, N2971, N4095, N4096, N9999, N10000, N10663, N65536, jI_add, jI_mul, jI_and, jI_or, jI_xor, jI_andn, jI_31, jI_shl, Nat.one_shiftLeft, jI_le, jI_lt, jI_eq, tn_nI, tc_nI, vp_nI, jI_allF, jI_bit, jI_bit0, jI_noneN, bI_N0, bI_N1, forall_eq, true_and, ↓reduceIte, Nat.le_refl]
    exact hK19
theorem t_standingBy {σ : Sto} {c : Nat → Nat} {P : Int32 → Sto → Prop} (h : MR σ c) (ok : OK c) {g mk : Nat} (k : P (nI (stF c g mk)) σ) : w_X12_standingBy (nI g) (nI mk) σ P := by
  have := ok.n0
  unfold w_X12_standingBy
  rw [t_allThings h ok]
  refine t_madeThings h ok ?_
  simp (disch := omega) only [jI_andn, forall_eq]
  refine Lp_for 13 (fun j q => q.2.2 = σ ∧ q.1 = nI (stI c g mk j) ∧ ((j = 0 ∧ q.2.1 = -1) ∨ ∃ i, j = i + 1 ∧ q.2.1 = nI (stI c g mk i))) ⟨rfl, rfl, Or.inl ⟨rfl, rfl⟩⟩ ?_ ?_
  · rintro j hj K ⟨x3, x4, σ'⟩ ⟨h1, h2, h3⟩ hK
    dsimp only at h1 h2 h3 hK ⊢
    subst h1 h2
    have hb := p12 (stI_lt ok (g := g) (mk := mk) j) ok.n0
    unfold w_X12_standingBy_19
    rcases h3 with ⟨rfl, rfl⟩ | ⟨i, rfl, rfl⟩
    · rw [if_neg (jI_none (by omega))]
      exact t_sb_in h ok (hK _ ⟨rfl, rfl, Or.inr ⟨0, rfl, rfl⟩⟩)
    · have hb2 := p12 (stI_lt ok (g := g) (mk := mk) i) ok.n0
      by_cases he : stI c g mk (i + 1) = stI c g mk i
      · rw [if_pos (by rw [he]), he, stF_of ok (by omega) he]
        exact k
      · rw [if_neg (by rw [jI_eq (by omega) (by omega)]; exact he)]
        exact t_sb_in h ok (hK _ ⟨rfl, rfl, Or.inr ⟨i + 1, rfl, rfl⟩⟩)
  · rintro K ⟨x3, x4, σ'⟩ ⟨h1, h2, h3⟩
    dsimp only at h1 h2 h3 ⊢
    subst h1 h2
    rcases h3 with ⟨h3, -⟩ | ⟨i, h3, rfl⟩
    · cases h3
    · obtain rfl : i = 12 := by omega
      unfold w_X12_standingBy_19
      rw [if_pos (by rw [stI_13 ok])]
      exact k
/-- all makings -/
def ALL : Nat := 4294967295
theorem nI_ALL : (-1 : Int32) = nI ALL := by decide
def upF (c : Nat → Nat) (g : Nat) : Nat := stF c g ALL
def nowF (c : Nat → Nat) : Nat := upF c (c 6)
theorem upF_lt {c : Nat → Nat} (ok : OK c) {g : Nat} : upF c g < 2 ^ c 0 := stF_lt ok
theorem upF_12 {c : Nat → Nat} (ok : OK c) {g : Nat} : upF c g < 4096 := p12 (upF_lt ok) ok.n0
theorem t_standing {σ : Sto} {c : Nat → Nat} {P : Int32 → Sto → Prop} (h : MR σ c) (ok : OK c) {g : Nat} (k : P (nI (upF c g)) σ) : w_X12_standing (nI g) σ P := by
  unfold w_X12_standing
  rw [nI_ALL]
  exact t_standingBy h ok k
theorem t_now {σ : Sto} {c : Nat → Nat} {P : Int32 → Sto → Prop} (h : MR σ c) (ok : OK c) (k : P (nI (nowF c)) σ) : w_X12_now σ P := by
  unfold w_X12_now
  rw [h 6 (by decide)]
  exact t_standing h ok k
def doneF (c : Nat → Nat) (up : Nat) : Nat := foldN (fun s w => if sd (c (52 + w)) up = 0 then s ||| 2 ^ w else s) 0 (c 2)
def worthF (c : Nat → Nat) (set : Nat) : Nat := foldN (fun s t => if set.testBit t then s + c (8 + t) else s) 0 (c 0)
theorem t_doneBy {σ : Sto} {c : Nat → Nat} {P : Int32 → Sto → Prop} (h : MR σ c) (ok : OK c) {up : Nat} (k : P (nI (doneF c up)) σ) : w_X12_doneBy (nI up) σ P := by
  have := ok.n0
  have := ok.n2
  refine Lp_det (c 2) (fun j => (nI (foldN (fun s w => if sd (c (52 + w)) up = 0 then s ||| 2 ^ w else s) 0 j), nI j, σ)) rfl (fun j hj K hK => ?_) (fun K => ?_)
  · have h2 : ¬ c 2 ≤ j := by omega
    have h3 := sd_12 (b := up) (ok.needs j hj) ok.n0
    simp (disch := omega) only [w_X12_doneBy_4, h _, N0, N1, N2, N3, N4, N5, N6, N7, N8, N9, N10, N11, N12, N13, N14, N15, N16, N17, N18, N19, N20, N21, N22, N23, N24, N25, N26, N27, N28, N29, N30, N32, N33, N34, N35, N36, N37, N38, N39, N40, N41, N42, N43, N44, N45, N46, N47, N48, N49, N50, N51, N52, N53, N54, N55, N56, N57, N58, N59, N60, N61, N62, N63, N64, N90, N96, N97, N98, N99, N100, N102, N103, N104, N107, N108, N109, N110, N111, N112, N114, N115, N116, N117, N118, N119, N120, N121, N122, N130, N138, N141, N142, N143, N144, N156, N240, N255, N256, N300, N400, N420, N421, N600, N900, N999, N1000, N1684, N2104, N2105, N2971, N4095, N4096, N9999, N10000, N10663, N65536, jI_add, jI_mul, jI_and, jI_or, jI_xor, jI_andn, jI_31, jI_shl, Nat.one_shiftLeft, jI_le, jI_lt, jI_eq, tn_nI, tc_nI, vp_nI, jI_allF, jI_bit, jI_bit0, jI_noneN, bI_N0, bI_N1, forall_eq, true_and, ↓reduceIte, h2]
    simp only [foldN] at hK
    by_cases hd : sd (c (52 + j)) up = 0 <;> simp only [hd, ↓reduceIte] at hK ⊢
    · exact hK
    · simpa using hK
  · simp (disch := omega) only [w_X12_doneBy_4, h _, N0, N1, N2, N3, N4, N5, N6, N7, N8, N9, N10, N11, N12, N13, N14, N15, N16, N17, N18, N19, N20, N21, N22, N23, N24, N25, N26, N27, N28, N29, N30, N32, N33, N34, N35, N36, N37, N38, N39, N40, N41, N42, N43, N44, N45, N46, N47, N48, N49, N50, N51, N52, N53, N54, N55, N56, N57, N58, N59, N60, N61, N62, N63, N64, N90, N96, N97, N98, N99, N100, N102, N103, N104, N107, N108, N109, N110, N111, N112, N114, N115, N116, N117, N118, N119, N120, N121, N122, N130, N138, N141, N142, N143, N144, N156, N240, N255, N256, N300, N400, N420, N421, N600, N900, N999, N1000, N1684, N2104, N2105, N2971, N4095, N4096, N9999, N10000, N10663, N65536, jI_add, jI_mul, jI_and, jI_or, jI_xor, jI_andn, jI_31, jI_shl, Nat.one_shiftLeft, jI_le, jI_lt, jI_eq, tn_nI, tc_nI, vp_nI, jI_allF, jI_bit, jI_bit0, jI_noneN, bI_N0, bI_N1, forall_eq, true_and, ↓reduceIte, Nat.le_refl]
    exact k
theorem t_worthOf {σ : Sto} {c : Nat → Nat} {P : Int32 → Sto → Prop} (h : MR σ c) (ok : OK c) {set : Nat} (k : P (nI (worthF c set)) σ) : w_X12_worthOf (nI set) σ P := by
  have := ok.n0
  refine Lp_det (c 0) (fun j => (nI (foldN (fun s t => if set.testBit t then s + c (8 + t) else s) 0 j), nI j, σ)) rfl (fun j hj K hK => ?_) (fun K => ?_)
  · have h2 : ¬ c 0 ≤ j := by omega
    simp (disch := omega) only [w_X12_worthOf_4, t_has, h _, N0, N1, N2, N3, N4, N5, N6, N7, N8, N9, N10, N11, N12, N13, N14, N15, N16, N17, N18, N19, N20, N21, N22, N23, N24, N25, N26, N27, N28, N29, N30, N32, N33, N34, N35, N36, N37, N38, N39, N40, N41, N42, N43, N44, N45, N46, N47, N48, N49, N50, N51, N52, N53, N54, N55, N56, N57, N58, N59, N60, N61, N62, N63, N64, N90, N96, N97, N98, N99, N100, N102, N103, N104, N107, N108, N109, N110, N111, N112, N114, N115, N116, N117, N118, N119, N120, N121, N122, N130, N138, N141, N142, N143, N144, N156, N240, N255, N256, N300, N400, N420, N421, N600, N900, N999, N1000, N1684, N2104, N2105, N2971, N4095, N4096, N9999, N10000, N10663, N65536, jI_add, jI_mul, jI_and, jI_or, jI_xor, jI_andn, jI_31, jI_shl, Nat.one_shiftLeft, jI_le, jI_lt, jI_eq, tn_nI, tc_nI, vp_nI, jI_allF, jI_bit, jI_bit0, jI_noneN, bI_N0, bI_N1, forall_eq, true_and, ↓reduceIte, h2]
    simp only [foldN] at hK
    cases hd : set.testBit j <;> simp only [hd, ↓reduceIte, Bool.false_eq_true, Bool.true_eq_false] at hK ⊢
    · simpa using hK
    · exact hK
  · simp (disch := omega) only [w_X12_worthOf_4, h _, N0, N1, N2, N3, N4, N5, N6, N7, N8, N9, N10, N11, N12, N13, N14, N15, N16, N17, N18, N19, N20, N21, N22, N23, N24, N25, N26, N27, N28, N29, N30, N32, N33, N34, N35, N36, N37, N38, N39, N40, N41, N42, N43, N44, N45, N46, N47, N48, N49, N50, N51, N52, N53, N54, N55, N56, N57, N58, N59, N60, N61, N62, N63, N64, N90, N96, N97, N98, N99, N100, N102, N103, N104, N107, N108, N109, N110, N111, N112, N114, N115, N116, N117, N118, N119, N120, N121, N122, N130, N138, N141, N142, N143, N144, N156, N240, N255, N256, N300, N400, N420, N421, N600, N900, N999, N1000, N1684, N2104, N2105, N2971, N4095, N4096, N9999, N10000, N10663, N65536, jI_add, jI_mul, jI_and, jI_or, jI_xor, jI_andn, jI_31, jI_shl, Nat.one_shiftLeft, jI_le, jI_lt, jI_eq, tn_nI, tc_nI, vp_nI, jI_allF, jI_bit, jI_bit0, jI_noneN, bI_N0, bI_N1, forall_eq, true_and, ↓reduceIte, Nat.le_refl]
    exact k
