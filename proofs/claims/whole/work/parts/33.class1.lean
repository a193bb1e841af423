/-! ===== the class: a city's picture; what stands ===== -/
def CR (σ : Sto) (a : Nat) (c : Nat → Nat) : Prop :=
  (∀ k, k < 8 → gi σ a (8 + k) = nI (c k)) ∧ (∀ t, t < c 0 → gi σ (a + 2) t = nI (c (8 + t))) ∧ (∀ m, m < c 1 → gi σ (a + 3) m = nI (c (20 + m))) ∧ (∀ m, m < c 1 → gi σ (a + 4) m = nI (c (36 + m))) ∧
  (∀ w, w < c 2 → gi σ (a + 5) w = nI (c (52 + w))) ∧ (∀ v, v < c 3 → ∀ t, t < c 0 → gi σ (a + 6) (12 * v + t) = nI (c (58 + 12 * v + t))) ∧ (∀ t, t < c 0 → gi σ (a + 7) t = nI (c (130 + t)))
theorem isCity.rg {a : Nat} (h : isCity a) : (13 ≤ a ∧ a + 13 ≤ 40) ∨ (45 ≤ a ∧ a + 13 ≤ 86) := by
  rcases h with rfl | rfl | rfl | rfl | rfl <;> omega
theorem CR.eo {S : Nat → Nat → Prop} {σ τ : Sto} {a : Nat} {c : Nat → Nat} (h : CR σ a c) (e : Eo S σ τ) (hs : ∀ i k, i ≤ 13 → ¬ S (a + i) k) : CR τ a c := by
  obtain ⟨h0, h1, h2, h3, h4, h5, h6⟩ := h
  refine ⟨fun k hk => ?_, fun k hk => ?_, fun k hk => ?_, fun k hk => ?_, fun k hk => ?_, fun v hv k hk => ?_, fun k hk => ?_⟩
  · rw [e.1 a _ (hs 0 _ (by omega))]; exact h0 k hk
  · rw [e.1 _ _ (hs 2 _ (by omega))]; exact h1 k hk
  · rw [e.1 _ _ (hs 3 _ (by omega))]; exact h2 k hk
  · rw [e.1 _ _ (hs 4 _ (by omega))]; exact h3 k hk
  · rw [e.1 _ _ (hs 5 _ (by omega))]; exact h4 k hk
  · rw [e.1 _ _ (hs 6 _ (by omega))]; exact h5 v hv k hk
  · rw [e.1 _ _ (hs 7 _ (by omega))]; exact h6 k hk
/-- Standing: its city is c's picture; what it keeps is right; its stamp is N at most -/
def SR (N : Nat) (σ : Sto) (c : Nat → Nat) : Prop :=
  isCity (gr σ 88 1) ∧ CR σ (gr σ 88 1) c ∧ gi σ 88 2 = nI (madeF c) ∧
  ∃ s, 1 ≤ s ∧ s ≤ N ∧ gi σ 88 3 = nI s ∧ ∀ g, g < 4096 → ∃ v, gi σ 89 g = nI v ∧ v / 4096 ≤ s ∧ (v / 4096 = s → v % 4096 = upF c g)
theorem foldN_sub {f : Nat → Nat → Nat} {s : Nat} (h : ∀ x k, sub x (f x k)) : ∀ n, sub s (foldN f s n)
  | 0 => sub.rf
  | n + 1 => (foldN_sub h n).tr (h _ _)
theorem or_two {x p : Nat} (h : x.testBit p = true) : x ||| 2 ^ p = x := by
  apply Nat.eq_of_testBit_eq
  intro k
  rw [Nat.testBit_or, Nat.testBit_two_pow]
  by_cases hk : p = k
  · subst hk; simp [h]
  · simp [hk]
theorem or_two_ne {x p : Nat} (h : x.testBit p = false) : x ||| 2 ^ p ≠ x := by
  intro e
  have : (x ||| 2 ^ p).testBit p = true := by rw [Nat.testBit_or, Nat.testBit_two_pow]; simp
  rw [e, h] at this
  cases this
theorem ALL_bit {m : Nat} (h : m < 32) : ALL.testBit m = true := by
  revert m
  decide
theorem t_bd_in {σ : Sto} {c : Nat → Nat} {P : Int32 → Sto → Prop} (hc : isCity (gr σ 88 1)) (h : CR σ (gr σ 88 1) c) (ok : OK c) {g s : Nat} {x4 : Int32} {K28 : Int32 × Int32 × Int32 × Sto → Prop} (hs : s < 2 ^ c 0)
    (hK28 : K28 (nI (passF c g ALL s), bI (decide (passF c g ALL s ≠ s)), x4 + 1, σ)) :
    Lp (fun (K : Int32 × Int32 × Int32 × Sto → Prop) q => w_X6_build_44 K28 K (nI g) q.1 q.2.1 x4 q.2.2.1 q.2.2.2 P) (nI s, 0, 0, σ) := by
  have := ok.n0
  have := ok.n1
  obtain ⟨h0, -, hm, hp, -⟩ := h
  have h9 : gi σ (gr σ 88 1) 9 = nI (c 1) := h0 1 (by decide)
  refine Lp_det (c 1) (fun j => (nI (foldN (stepF c g ALL) s j), bI (decide (foldN (stepF c g ALL) s j ≠ s)), nI j, σ)) (by simp [foldN, bI]; rfl) (fun j hj K hK => ?_) (fun K => ?_)
  · have h1 := ok.made j hj
    have h2 : ¬ c 1 ≤ j := by omega
    have hsub : sub s (foldN (stepF c g ALL) s j) := foldN_sub (fun _ _ => stepF_sub) j
    have hlt : foldN (stepF c g ALL) s j < 2 ^ c 0 := foldN_inv2 (c 1) (fun _ x => x < 2 ^ c 0) hs (fun k x hk hx => stepF_lt hx (ok.made k hk)) j (by omega)
    replace hK : K (nI (stepF c g ALL (foldN (stepF c g ALL) s j) j), bI (decide (stepF c g ALL (foldN (stepF c g ALL) s j) j ≠ s)), nI (j + 1), σ) := hK
    generalize foldN (stepF c g ALL) s j = acc at hK hsub hlt ⊢
    have h3 := sd_12 (b := acc) (ok.parts j hj) ok.n0
    have h4 : 2 ^ c (20 + j) < 4096 := p12 (two_lt h1) ok.n0
    have h5 : 2 ^ c (20 + j) &&& (acc ||| g) < 4096 := Nat.lt_of_le_of_lt Nat.and_le_left h4
    dsimp only
    unfold w_X6_build_44
    refine ⟨hc, ?_⟩
    rw [h9]
    simp (disch := omega) only [hm j hj, hp j hj, N0, N1, N2, N3, N4, N5, N6, N7, N8, N9, N10, N11, N12, N13, N14, N15, N16, N17, N18, N19, N20, N21, N22, N23, N24, N25, N26, N27, N28, N29, N30, N32, N33, N34, N35, N36, N37, N38, N39, N40, N41, N42, N43, N44, N45, N46, N47, N48, N49, N50, N51, N52, N53, N54, N55, N56, N57, N58, N59, N60, N61, N62, N63, N64, N90, N96, N97, N98, N99, N100, N102, N103, N104, N107, N108, N109, N110, N111, N112, N114, N115, N116, N117, N118, N119, N120, N121, N122, N130, N138, N141, N142, N143, N144, N156, N240, N255, N256, N300, N400, N420, N421, N600, N900, N999, N1000, N1684, N2104, N2105, N2971, N4095, N4096, N9999, N10000, N10663, N65536, jI_add, jI_mul, jI_and, jI_or, jI_xor, jI_andn, jI_31, jI_shl, Nat.one_shiftLeft, jI_le, jI_lt, jI_eq, tn_nI, tc_nI, vp_nI, jI_allF, jI_bit, jI_bit0, jI_noneN, bI_N0, bI_N1, forall_eq, true_and, ↓reduceIte, h2]
    unfold stepF at hK
    simp only [ALL_bit (show j < 32 by omega), Bool.true_and] at hK
    by_cases hb : 2 ^ c (20 + j) &&& (acc ||| g) = 0
    · have hb2 := two_and.mp hb
      rw [Nat.testBit_or, Bool.or_eq_false_iff] at hb2
      by_cases hd : sd (c (36 + j)) acc = 0
      · simp only [hb, hd, hb2.2, ↓reduceIte, BEq.rfl, Bool.not_false, Bool.and_self] at hK ⊢
        have hne : acc ||| 2 ^ c (20 + j) ≠ s := fun e => or_two_ne hb2.1 (sub.asym (e ▸ hsub) sub_or)
        simp only [hne, ne_eq, not_false_eq_true, decide_true] at hK
        exact hK
      · have hd2 : (sd (c (36 + j)) acc == 0) = false := by simp [hd]
        simp only [hb, hd, hd2, ↓reduceIte, Bool.false_and, Bool.false_eq_true] at hK ⊢
        exact hK
    · have hb2 : ¬ (acc ||| g).testBit (c (20 + j)) = false := fun e => hb (two_and.mpr e)
      rw [Nat.testBit_or] at hb2
      simp only [hb, ↓reduceIte]
      cases hg : g.testBit (c (20 + j))
      · have ha : acc.testBit (c (20 + j)) = true := by
          cases ha : acc.testBit (c (20 + j)) with
          | true => rfl
          | false => rw [ha, hg] at hb2; exact absurd rfl hb2
        rw [or_two ha, ite_self] at hK
        exact hK
      · simp only [hg, Bool.not_true, Bool.and_false, Bool.false_eq_true, ↓reduceIte] at hK
        exact hK
  · dsimp only
    unfold w_X6_build_44
    refine ⟨hc, ?_⟩
    rw [h9]
    simp (disch := omega) only [jI_le, Nat.le_refl, ↓reduceIte, forall_eq]
    exact hK28
theorem t_build {σ : Sto} {c : Nat → Nat} {P : Int32 → Sto → Prop} (hc : isCity (gr σ 88 1)) (h : CR σ (gr σ 88 1) c) (hmade : gi σ 88 2 = nI (madeF c)) (ok : OK c) {g : Nat} (k : P (nI (upF c g)) σ) : w_X6_build (nI g) σ P := by
  have := ok.n0
  have h8 : gi σ (gr σ 88 1) 8 = nI (c 0) := h.1 0 (by decide)
  unfold w_X6_build
  refine ⟨hc, ?_⟩
  rw [h8, hmade]
  simp (disch := omega) only [N0, N1, N2, N3, N4, N5, N6, N7, N8, N9, N10, N11, N12, N13, N14, N15, N16, N17, N18, N19, N20, N21, N22, N23, N24, N25, N26, N27, N28, N29, N30, N32, N33, N34, N35, N36, N37, N38, N39, N40, N41, N42, N43, N44, N45, N46, N47, N48, N49, N50, N51, N52, N53, N54, N55, N56, N57, N58, N59, N60, N61, N62, N63, N64, N90, N96, N97, N98, N99, N100, N102, N103, N104, N107, N108, N109, N110, N111, N112, N114, N115, N116, N117, N118, N119, N120, N121, N122, N130, N138, N141, N142, N143, N144, N156, N240, N255, N256, N300, N400, N420, N421, N600, N900, N999, N1000, N1684, N2104, N2105, N2971, N4095, N4096, N9999, N10000, N10663, N65536, jI_add, jI_mul, jI_and, jI_or, jI_xor, jI_andn, jI_31, jI_shl, Nat.one_shiftLeft, jI_le, jI_lt, jI_eq, tn_nI, tc_nI, vp_nI, jI_allF, jI_bit, jI_bit0, jI_noneN, bI_N0, bI_N1, forall_eq, true_and, ↓reduceIte]
  refine Lp_for 13 (fun j q => q.2.2.2 = σ ∧ q.1 = nI (stI c g ALL j) ∧ q.2.2.1 = nI j ∧ ((j = 0 ∧ q.2.1 = 1) ∨ ∃ i, j = i + 1 ∧ q.2.1 = bI (decide (stI c g ALL (i + 1) ≠ stI c g ALL i)))) ⟨rfl, rfl, rfl, Or.inl ⟨rfl, rfl⟩⟩ ?_ ?_
  · rintro j hj K ⟨x2, x3, x4, σ'⟩ ⟨h1, h2, h4, h3⟩ hK
    dsimp only at h1 h2 h3 h4 hK ⊢
    subst h1 h2 h4
    unfold w_X6_build_28
    have hj2 : ¬ 12 < j := by omega
    simp (disch := omega) only [N0, N1, N2, N3, N4, N5, N6, N7, N8, N9, N10, N11, N12, N13, N14, N15, N16, N17, N18, N19, N20, N21, N22, N23, N24, N25, N26, N27, N28, N29, N30, N32, N33, N34, N35, N36, N37, N38, N39, N40, N41, N42, N43, N44, N45, N46, N47, N48, N49, N50, N51, N52, N53, N54, N55, N56, N57, N58, N59, N60, N61, N62, N63, N64, N90, N96, N97, N98, N99, N100, N102, N103, N104, N107, N108, N109, N110, N111, N112, N114, N115, N116, N117, N118, N119, N120, N121, N122, N130, N138, N141, N142, N143, N144, N156, N240, N255, N256, N300, N400, N420, N421, N600, N900, N999, N1000, N1684, N2104, N2105, N2971, N4095, N4096, N9999, N10000, N10663, N65536, jI_add, jI_mul, jI_and, jI_or, jI_xor, jI_andn, jI_31, jI_shl, Nat.one_shiftLeft, jI_le, jI_lt, jI_eq, tn_nI, tc_nI, vp_nI, jI_allF, jI_bit, jI_bit0, jI_noneN, bI_N0, bI_N1, forall_eq, true_and, ↓reduceIte, hj2]
    rcases h3 with ⟨rfl, rfl⟩ | ⟨i, rfl, rfl⟩
    · simp only [show ¬ (1 : Int32) = nI 0 by decide, ↓reduceIte]
      refine t_bd_in hc h ok (stI_lt ok 0) (hK _ ⟨rfl, rfl, jI_add, Or.inr ⟨0, rfl, rfl⟩⟩)
    · by_cases he : stI c g ALL (i + 1) = stI c g ALL i
      · simp only [he, ne_eq, not_true_eq_false, decide_false, ↓reduceIte]
        rw [stF_of ok (by omega) he]
        exact k
      · simp only [he, ne_eq, not_false_eq_true, decide_true, Bool.true_eq_false, ↓reduceIte]
        exact t_bd_in hc h ok (stI_lt ok _) (hK _ ⟨rfl, rfl, jI_add, Or.inr ⟨i + 1, rfl, rfl⟩⟩)
  · rintro K ⟨x2, x3, x4, σ'⟩ ⟨h1, h2, h4, h3⟩
    dsimp only at h1 h2 h3 h4 ⊢
    subst h1 h2 h4
    unfold w_X6_build_28
    rw [if_pos (by decide)]
    exact k
/-- what Standing keeps changes alone -/
def S89 (a _ : Nat) : Prop := a = 89
theorem t_without {σ : Sto} {c : Nat → Nat} {P : Int32 → Sto → Prop} {N : Nat} (h : SR N σ c) (ok : OK c) (hN : N ≤ 2000) {g : Nat} (hg : g < 4096) (k : ∀ τ, Eo S89 σ τ → SR N τ c → P (nI (upF c g)) τ) : w_X6_without (nI g) σ P := by
  have h' := h
  obtain ⟨hc, hr, hm, s, hs1, hsN, hst, hkn⟩ := h
  obtain ⟨v, hv, hvs, hvu⟩ := hkn g hg
  have hup := upF_12 ok (g := g)
  have hv2 : v < 2147483648 := by omega
  unfold w_X6_without
  refine ⟨vp_nI hg (by decide), ?_⟩
  rw [tn_nI (by omega)]
  intro x2 hx2
  subst hx2
  rw [hv, hst, show (12 : Int32) = nI 12 from rfl, jI_ushr hv2 (by decide), show (2 : Nat) ^ 12 = 4096 by decide]
  by_cases he : v / 4096 = s
  · rw [if_pos (by rw [he]), show (4095 : Int32) = nI 4095 from rfl, jI_and, show v &&& 4095 = v % 4096 from Nat.and_two_pow_sub_one_eq_mod v 12, hvu he]
    exact k σ Eo.rf h'
  · rw [if_neg (by rw [jI_eq (by omega) (by omega)]; exact he)]
    refine t_build hc hr hm ok ?_
    rw [hst]
    have e : nI s <<< nI 12 ||| nI (upF c g) = nI (s * 4096 + upF c g) := by
      rw [jI_shl (by decide), jI_or]
      congr 1
      rw [← Nat.shiftLeft_add_eq_or_of_lt hup, Nat.shiftLeft_eq]
    rw [e]
    have e1 : Eo S89 σ (si σ 89 g (nI (s * 4096 + upF c g))) := Eo.si rfl
    refine k _ e1 ⟨hc, hr.eo e1 (fun i _ hi q => ?_), hm, s, hs1, hsN, hst, fun g2 hg2 => ?_⟩
    · have := hc.rg
      have : gr σ 88 1 + i = 89 := q
      omega
    · by_cases hgg : g2 = g
      · subst hgg
        refine ⟨s * 4096 + upF c g2, gi_si_s, by omega, fun _ => by omega⟩
      · obtain ⟨v2, h1, h2⟩ := hkn g2 hg2
        exact ⟨v2, by rw [gi_si_k hgg]; exact h1, h2⟩
