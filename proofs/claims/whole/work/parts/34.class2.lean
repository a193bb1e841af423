/-! == Standing and the city, asked == -/
theorem SR.eo {N : Nat} {S : Nat → Nat → Prop} {σ τ : Sto} {c : Nat → Nat} (h : SR N σ c) (e : Eo S σ τ) (hs : ∀ a k, S a k → (a < 13 ∨ 40 < a) ∧ (a < 45 ∨ 86 < a) ∧ a ≠ 88 ∧ a ≠ 89) : SR N τ c := by
  obtain ⟨hc, hr, hm, s, hs1, hsN, hst, hkn⟩ := h
  have hrg := hc.rg
  have hcr : CR τ (gr σ 88 1) c := hr.eo e (fun i k hi q => by
    have := hs _ _ q
    omega)
  refine ⟨by rw [e.2.2]; exact hc, by rw [e.2.2]; exact hcr, by rw [e.1 _ _ (fun q => (hs _ _ q).2.2.1 rfl)]; exact hm, s, hs1, hsN, by rw [e.1 _ _ (fun q => (hs _ _ q).2.2.1 rfl)]; exact hst, fun g hg => ?_⟩
  rw [e.1 _ _ (fun q => (hs _ _ q).2.2.2 rfl)]
  exact hkn g hg
theorem t_atPresent {σ : Sto} {c : Nat → Nat} {P : Int32 → Sto → Prop} {N : Nat} (h : SR N σ c) (ok : OK c) (hN : N ≤ 2000) (k : ∀ τ, Eo S89 σ τ → SR N τ c → P (nI (nowF c)) τ) : w_X6_atPresent σ P := by
  refine ⟨h.1, ?_⟩
  rw [show gi σ (gr σ 88 1) 14 = nI (c 6) from h.2.1.1 6 (by decide)]
  exact t_without h ok hN (p12 ok.n6 ok.n0) k
theorem t_doable {σ : Sto} {c : Nat → Nat} {P : Int32 → Sto → Prop} (hc : isCity (gr σ 88 1)) (h : CR σ (gr σ 88 1) c) (ok : OK c) {up : Nat} (k : P (nI (doneF c up)) σ) : w_X6_doable (nI up) σ P := by
  have := ok.n0
  have := ok.n2
  obtain ⟨h0, -, -, -, hw, -⟩ := h
  have h10 : gi σ (gr σ 88 1) 10 = nI (c 2) := h0 2 (by decide)
  refine Lp_det (c 2) (fun j => (nI (foldN (fun s w => if sd (c (52 + w)) up = 0 then s ||| 2 ^ w else s) 0 j), nI j, σ)) rfl (fun j hj K hK => ?_) (fun K => ?_)
  · have h2 : ¬ c 2 ≤ j := by omega
    have h3 := sd_12 (b := up) (ok.needs j hj) ok.n0
    dsimp only
    unfold w_X6_doable_4
    refine ⟨hc, ?_⟩
    rw [h10]
    simp (disch := omega) only [hw j hj, N0, N1, N2, N3, N4, N5, N6, N7, N8, N9, N10, N11, N12, N13, N14, N15, N16, N17, N18, N19, N20, N21, N22, N23, N24, N25, N26, N27, N28, N29, N30, N32, N33, N34, N35, N36, N37, N38, N39, N40, N41, N42, N43, N44, N45, N46, N47, N48, N49, N50, N51, N52, N53, N54, N55, N56, N57, N58, N59, N60, N61, N62, N63, N64, N90, N96, N97, N98, N99, N100, N102, N103, N104, N107, N108, N109, N110, N111, N112, N114, N115, N116, N117, N118, N119, N120, N121, N122, N130, N138, N141, N142, N143, N144, N156, N240, N255, N256, N300, N400, N420, N421, N600, N900, N999, N1000, N1684, N2104, N2105, N2971, N4095, N4096, N9999, N10000, N10663, N65536, jI_add, jI_mul, jI_and, jI_or, jI_xor, jI_andn, jI_31, jI_shl, Nat.one_shiftLeft, jI_le, jI_lt, jI_eq, tn_nI, tc_nI, vp_nI, jI_allF, jI_bit, jI_bit0, jI_noneN, bI_N0, bI_N1, forall_eq, true_and, ↓reduceIte, h2]
    simp only [foldN] at hK
    by_cases hd : sd (c (52 + j)) up = 0 <;> simp only [hd, ↓reduceIte] at hK ⊢
    · exact hK
    · simpa using hK
  · dsimp only
    unfold w_X6_doable_4
    refine ⟨hc, ?_⟩
    rw [h10]
    simp (disch := omega) only [jI_le, Nat.le_refl, ↓reduceIte]
    exact k
def fallF (c : Nat → Nat) (t : Nat) : Nat := sd (nowF c) (upF c (c 6 ||| 2 ^ t))
theorem fallF_12 {c : Nat → Nat} (ok : OK c) {t : Nat} : fallF c t < 4096 := sd_12 (upF_lt ok) ok.n0
theorem t_fallingWith {σ : Sto} {c : Nat → Nat} {P : Int32 → Sto → Prop} {N : Nat} (h : SR N σ c) (ok : OK c) (hN : N ≤ 2000) {t : Nat} (ht : t < c 0) (k : ∀ τ, Eo S89 σ τ → SR N τ c → P (nI (fallF c t)) τ) : w_X6_fallingWith (nI t) σ P := by
  have := ok.n0
  unfold w_X6_fallingWith
  refine t_atPresent h ok hN (fun τ e1 h1 => ⟨h1.1, ?_⟩)
  rw [show gi τ (gr τ 88 1) 14 = nI (c 6) from h1.2.1.1 6 (by decide), show (1 : Int32) = nI 1 from rfl, jI_31 (by omega), jI_shl (by omega), Nat.one_shiftLeft, jI_or]
  refine t_without h1 ok hN (p12 (or_lt ok.n6 (two_lt ht)) ok.n0) (fun υ e2 h2 => ?_)
  rw [jI_andn]
  exact k υ (e1.tr e2) h2
theorem t_worthOfC {σ : Sto} {a : Nat} {c : Nat → Nat} {P : Int32 → Sto → Prop} (hc : isCity a) (h : CR σ a c) (ok : OK c) {set : Nat} (k : P (nI (worthF c set)) σ) : w_X1_worthOf a (nI set) σ P := by
  have := ok.n0
  obtain ⟨h0, hw, -⟩ := h
  have h8 : gi σ a 8 = nI (c 0) := h0 0 (by decide)
  refine Lp_det (c 0) (fun j => (nI (foldN (fun s t => if set.testBit t then s + c (8 + t) else s) 0 j), nI j, σ)) rfl (fun j hj K hK => ?_) (fun K => ?_)
  · have h2 : ¬ c 0 ≤ j := by omega
    dsimp only
    unfold w_X1_worthOf_4
    refine ⟨hc, ?_⟩
    rw [h8]
    simp (disch := omega) only [hw j hj, N0, N1, N2, N3, N4, N5, N6, N7, N8, N9, N10, N11, N12, N13, N14, N15, N16, N17, N18, N19, N20, N21, N22, N23, N24, N25, N26, N27, N28, N29, N30, N32, N33, N34, N35, N36, N37, N38, N39, N40, N41, N42, N43, N44, N45, N46, N47, N48, N49, N50, N51, N52, N53, N54, N55, N56, N57, N58, N59, N60, N61, N62, N63, N64, N90, N96, N97, N98, N99, N100, N102, N103, N104, N107, N108, N109, N110, N111, N112, N114, N115, N116, N117, N118, N119, N120, N121, N122, N130, N138, N141, N142, N143, N144, N156, N240, N255, N256, N300, N400, N420, N421, N600, N900, N999, N1000, N1684, N2104, N2105, N2971, N4095, N4096, N9999, N10000, N10663, N65536, jI_add, jI_mul, jI_and, jI_or, jI_xor, jI_andn, jI_31, jI_shl, Nat.one_shiftLeft, jI_le, jI_lt, jI_eq, tn_nI, tc_nI, vp_nI, jI_allF, jI_bit, jI_bit0, jI_noneN, bI_N0, bI_N1, forall_eq, true_and, ↓reduceIte, h2]
    simp only [foldN] at hK
    cases hd : set.testBit j <;> simp only [hd, ↓reduceIte, Bool.false_eq_true, Bool.true_eq_false] at hK ⊢
    · simpa using hK
    · exact hK
  · dsimp only
    unfold w_X1_worthOf_4
    refine ⟨hc, ?_⟩
    rw [h8]
    simp (disch := omega) only [jI_le, Nat.le_refl, ↓reduceIte]
    exact k
