/-! ===== sets as arguments; how many a set has; beside what is kept ===== -/
theorem pw12 {c : Nat → Nat} (ok : OK c) : 2 ^ c 0 ≤ 4096 := by
  have : (4096 : Nat) = 2 ^ 12 := by decide
  rw [this]; exact Nat.pow_le_pow_right (by decide) ok.n0
def SX (a k : Nat) : Prop := a = 87 ∨ a = 96 ∨ a = 98 ∨ a = 99 ∨ (a = 1 ∧ k = 15) ∨ (a = 93 ∧ k = 6) ∨ (a = 97 ∧ k = 5)
theorem SXq {a k : Nat} (h : SX a k) : SQ a k := by unfold SX at h; unfold SQ; omega
theorem KW.ex {N : Nat} {σ τ : Sto} {c : Nat → Nat} (h : KW N σ c) (e : Eo SX σ τ) : KW N τ c :=
  h.mk e ⟨h.kb.1.eo e (fun a k q => by unfold SX at q; omega), h.kb.2.eo e (fun a k q => by unfold SX at q; omega) (by unfold SX; omega) (fun k q => by unfold SX at q; omega)⟩
theorem KW.p95 {N : Nat} {σ : Sto} {c : Nat → Nat} (h : KW N σ c) : isCity (gr σ 95 3) ∧ CR σ (gr σ 95 3) c := by
  rw [h.2.2.2.2.1]; exact ⟨h.1, h.cr⟩
theorem KW.p93 {N : Nat} {σ : Sto} {c : Nat → Nat} (h : KW N σ c) : isCity (gr σ 93 5) ∧ CR σ (gr σ 93 5) c := by
  rw [h.2.2.2.1]; exact ⟨h.1, h.cr⟩
theorem KW.p97 {N : Nat} {σ : Sto} {c : Nat → Nat} (h : KW N σ c) : isCity (gr σ 97 4) ∧ CR σ (gr σ 97 4) c := by
  rw [h.2.2.2.2.2.1]; exact ⟨h.1, h.cr⟩
/-! == how many == -/
def pop (a : Nat) : Nat := foldN (fun n k => n + (a.testBit k).toNat) 0 16
def popX (a : Nat) : Nat := a % 2 + a / 2 % 2 + a / 4 % 2 + a / 8 % 2 + a / 16 % 2 + a / 32 % 2 + a / 64 % 2 + a / 128 % 2 + a / 256 % 2 + a / 512 % 2 + a / 1024 % 2 + a / 2048 % 2 + a / 4096 % 2 + a / 8192 % 2 + a / 16384 % 2 + a / 32768 % 2
theorem tb_toNat {a k : Nat} : (a.testBit k).toNat = a / 2 ^ k % 2 := by
  rw [Nat.testBit_eq_decide_div_mod_eq]
  have : a / 2 ^ k % 2 < 2 := Nat.mod_lt _ (by decide)
  by_cases h : a / 2 ^ k % 2 = 1
  · rw [h]; rfl
  · have h0 : a / 2 ^ k % 2 = 0 := by omega
    rw [h0]; rfl
theorem pop_X {a : Nat} : pop a = popX a := by
  unfold pop popX
  simp only [foldN, tb_toNat]
  simp
theorem pop_card {a : Nat} (h : a < 4096) : pop a = card a := by
  have h2 := lt_two.mp (show a < 2 ^ 12 from h)
  unfold pop card
  simp only [foldN, h2 12 (by decide), h2 13 (by decide), h2 14 (by decide), h2 15 (by decide), Bool.toNat_false, Nat.add_zero]
theorem pop_le {a : Nat} : pop a ≤ 16 := by
  have h1 : pop a ≤ foldN (fun s _ => s + 1) 0 16 := foldN_le 16 (fun k _ => by cases a.testBit k <;> decide)
  exact h1
def bc1 (a : Nat) : Nat := a - (a / 2 &&& 1431655765)
def bc2 (a : Nat) : Nat := (a &&& 858993459) + (a / 4 &&& 858993459)
def bc3 (a : Nat) : Nat := (a + a / 16) &&& 252645135
def bc4 (a : Nat) : Nat := (a + a / 256 + (a + a / 256) / 65536) &&& 63
def allB (p : Nat → Bool) : Nat → Nat → Bool
  | 0, b => p b
  | k + 1, b => allB p k (2 * b) && allB p k (2 * b + 1)
theorem allB_of {p : Nat → Bool} : ∀ k b, allB p k b = true → ∀ a, a / 2 ^ k = b → p a = true
  | 0, b, h, a, e => by
    have : a = b := by simpa using e
    rw [this]; exact h
  | k + 1, b, h, a, e => by
    have h' : (allB p k (2 * b) && allB p k (2 * b + 1)) = true := h
    rw [Bool.and_eq_true] at h'
    have e2 : a / 2 ^ k / 2 = b := by rw [Nat.div_div_eq_div_mul, ← Nat.pow_succ]; exact e
    have : a / 2 ^ k = 2 * b ∨ a / 2 ^ k = 2 * b + 1 := by omega
    rcases this with q | q
    · exact allB_of k _ h'.1 a q
    · exact allB_of k _ h'.2 a q
def bcT (a : Nat) : Bool := Nat.beq (bc4 (bc3 (bc2 (bc1 a)))) (popX a) && Nat.ble (a / 2 &&& 1431655765) a
theorem bc_all : allB bcT 16 0 = true := by decide +kernel
theorem bc_of {a : Nat} (h : a < 65536) : bc4 (bc3 (bc2 (bc1 a))) = pop a ∧ (a / 2 &&& 1431655765) ≤ a := by
  have h1 := allB_of 16 0 bc_all a (by omega)
  unfold bcT at h1
  rw [Bool.and_eq_true] at h1
  exact ⟨(Nat.eq_of_beq_eq_true h1.1).trans pop_X.symm, Nat.le_of_ble_eq_true h1.2⟩
theorem and_leB {a b : Nat} : a &&& b ≤ b := Nat.and_le_right
theorem t_bitCount {σ : Sto} {P : Int32 → Sto → Prop} {a : Nat} (h : a < 65536) : w_J6_bitCount_0f7a4 (nI a) σ P = P (nI (pop a)) σ := by
  obtain ⟨h1, h2⟩ := bc_of h
  have b1 : bc1 a < 65536 := Nat.lt_of_le_of_lt (Nat.sub_le _ _) h
  have b2 : bc2 (bc1 a) < 2000000000 := by
    unfold bc2
    have := Nat.and_le_left (n := bc1 a) (m := 858993459)
    have := Nat.and_le_left (n := bc1 a / 4) (m := 858993459)
    omega
  have b3 : bc3 (bc2 (bc1 a)) ≤ 252645135 := and_leB
  have b2' : bc2 (bc1 a) + bc2 (bc1 a) / 16 < 2147483648 := by
    unfold bc2
    have := Nat.and_le_left (n := bc1 a) (m := 858993459)
    have := Nat.and_le_left (n := bc1 a / 4) (m := 858993459)
    omega
  unfold w_J6_bitCount_0f7a4
  simp only [forall_eq]
  rw [N1, jI_ushr (by omega) (by decide), show (1431655765 : Int32) = nI 1431655765 from rfl, jI_and, show (2 : Nat) ^ 1 = 2 by decide, jI_sub h2, show a - (a / 2 &&& 1431655765) = bc1 a from rfl]
  rw [N2, jI_ushr (by omega) (by decide), show (858993459 : Int32) = nI 858993459 from rfl, jI_and, jI_and, show (2 : Nat) ^ 2 = 4 by decide, jI_add, show (bc1 a &&& 858993459) + (bc1 a / 4 &&& 858993459) = bc2 (bc1 a) from rfl]
  rw [N4, jI_ushr (by omega) (by decide), show (252645135 : Int32) = nI 252645135 from rfl, jI_add, jI_and, show (2 : Nat) ^ 4 = 16 by decide, show (bc2 (bc1 a) + bc2 (bc1 a) / 16) &&& 252645135 = bc3 (bc2 (bc1 a)) from rfl]
  rw [N8, jI_ushr (by omega) (by decide), jI_add, show (2 : Nat) ^ 8 = 256 by decide]
  rw [N16, jI_ushr (by omega) (by decide), jI_add, N63, jI_and, show (2 : Nat) ^ 16 = 65536 by decide]
  rw [show (bc3 (bc2 (bc1 a)) + bc3 (bc2 (bc1 a)) / 256 + (bc3 (bc2 (bc1 a)) + bc3 (bc2 (bc1 a)) / 256) / 65536) &&& 63 = bc4 (bc3 (bc2 (bc1 a))) from rfl, h1]
theorem t_bitCount12 {σ : Sto} {P : Int32 → Sto → Prop} {a : Nat} (h : a < 4096) : w_J6_bitCount_0f7a4 (nI a) σ P = P (nI (card a)) σ := by
  rw [t_bitCount (by omega), pop_card h]
theorem t_sizeOf {σ : Sto} {P : Int32 → Sto → Prop} {a : Nat} (k : P (nI (pop a)) σ) : w_X12_sizeOf (nI a) σ P := by
  unfold w_X12_sizeOf
  refine Lp_det 16 (fun j => (nI (foldN (fun n k => n + (a.testBit k).toNat) 0 j), nI j, σ)) rfl (fun j hj K hK => ?_) (fun K => ?_)
  · have hn : ¬ 16 ≤ j := by omega
    replace hK : K (nI (foldN (fun n k => n + (a.testBit k).toNat) 0 j + (a.testBit j).toNat), nI (j + 1), σ) := hK
    generalize foldN (fun n k => n + (a.testBit k).toNat) 0 j = acc at hK ⊢
    dsimp only
    unfold w_X12_sizeOf_4
    rw [t_has (by omega)]
    simp (disch := omega) only [N0, N1, N2, N3, N4, N5, N6, N7, N8, N9, N10, N11, N12, N13, N14, N15, N16, N17, N18, N19, N20, N21, N22, N23, N24, N25, N26, N27, N28, N29, N30, N32, N33, N34, N35, N36, N37, N38, N39, N40, N41, N42, N43, N44, N45, N46, N47, N48, N49, N50, N51, N52, N53, N54, N55, N56, N57, N58, N59, N60, N61, N62, N63, N64, N90, N96, N97, N98, N99, N100, N102, N103, N104, N107, N108, N109, N110, N111, N112, N114, N115, N116, N117, N118, N119, N120, N121, N122, N130, N138, N141, N142, N143, N144, N156, N240, N255, N256, N300, N400, N420, N421, N600, N900, N999, N1000, N1684, N2104, N2105, N2971, N4095, N4096, N9999, N10000, N10663, N65536, jI_add, jI_mul, jI_and, jI_or, jI_xor, jI_andn, jI_31, jI_shl, Nat.one_shiftLeft, jI_le, jI_lt, jI_eq, tn_nI, tc_nI, vp_nI, jI_allF, jI_bit, jI_bit0, jI_noneN, bI_N0, bI_N1, forall_eq, true_and, ↓reduceIte, hn]
    cases hb : a.testBit j <;> simp only [hb, Bool.toNat_false, Bool.toNat_true, Bool.false_eq_true, Bool.true_eq_false, ↓reduceIte] at hK ⊢
    · exact hK
    · exact hK
  · dsimp only
    unfold w_X12_sizeOf_4
    rw [if_pos (by decide)]
    exact k
theorem t_sizeOf12 {σ : Sto} {P : Int32 → Sto → Prop} {a : Nat} (h : a < 4096) (k : P (nI (card a)) σ) : w_X12_sizeOf (nI a) σ P := t_sizeOf (by rw [pop_card h]; exact k)
/-! == sets from outside == -/
theorem t_noSet {σ : Sto} {c : Nat → Nat} {P : Int32 → Sto → Prop} {N : Nat} (h : KW N σ c) (ok : OK c) {x : Int32} (k0 : inD x (2 ^ c 0) → P 0 σ) (k1 : ¬ inD x (2 ^ c 0) → P 1 σ) : w_X11_noSetOfThings x σ P := by
  have := ok.n0
  have := pw12 ok
  unfold w_X11_noSetOfThings
  rw [show gi σ (gr σ 1 11) 8 = nI (c 0) from h.f (k := 0) (by decide), bit1 (by omega)]
  have hx := inD_iff (x := x) (N := 2 ^ c 0) (by omega)
  by_cases h1 : x < 0
  · rw [if_pos h1]; exact k1 (fun q => (hx.mp q).1 h1)
  · rw [if_neg h1]
    refine ⟨h.1, ?_⟩
    by_cases h2 : x < nI (2 ^ c 0)
    · rw [if_pos h2]; exact k0 (hx.mpr ⟨h1, h2⟩)
    · rw [if_neg h2]; exact k1 (fun q => h2 (hx.mp q).2)
theorem t_isSet {σ : Sto} {c : Nat → Nat} {P : Int32 → Sto → Prop} (h : MR σ c) (ok : OK c) {x : Int32} (k1 : inD x (2 ^ c 0) → P 1 σ) (k0 : ¬ inD x (2 ^ c 0) → P 0 σ) : w_X12_isSet x σ P := by
  have := pw12 ok
  unfold w_X12_isSet
  rw [t_allThings h ok, show nI (allF (c 0)) = nI (2 ^ c 0) - 1 from jI_allF.symm, t_isIn]
  by_cases hx : inD x (2 ^ c 0)
  · rw [decide_eq_true ((rangeI (by omega)).mpr hx)]
    exact ⟨Or.inr rfl, k1 hx⟩
  · rw [decide_eq_false (fun q => hx ((rangeI (by omega)).mp q))]
    exact ⟨Or.inl rfl, k0 hx⟩
/-! ===== promise 45: was it ===== -/
def causS (c : Nat → Nat) (fell s t : Nat) : Nat := if (nowF c).testBit t = true ∧ fallF c t = fell then s ||| 2 ^ t else s
def causF (c : Nat → Nat) (fell : Nat) : Nat := foldN (causS c fell) 0 (c 0)
theorem causF_lt {c : Nat → Nat} {fell : Nat} : causF c fell < 2 ^ c 0 :=
  foldN_inv2 (c 0) (fun _ x => x < 2 ^ c 0) (Nat.two_pow_pos _) (fun k x hk hx => by
    unfold causS; split
    · exact or_lt hx (two_lt hk)
    · exact hx) _ (Nat.le_refl _)
theorem c_causesOf {σ : Sto} {c : Nat → Nat} {P : Int32 → Sto → Prop} {N : Nat} (h : KW N σ c) (ok : OK c) (hN : N ≤ 2000) {fell : Nat} (hf : fell < 4096) (k : ∀ τ, Eo S89 σ τ → KW N τ c → P (nI (causF c fell)) τ) : w_X4_causesOf (nI fell) σ P := by
  have := ok.n0
  unfold w_X4_causesOf
  refine t_atPresent h.kb.1 ok hN (fun τ e1 h1 => ?_)
  refine Lp_for (c 0) (fun j q => q.1 = nI (foldN (causS c fell) 0 j) ∧ q.2.1 = nI j ∧ Eo S89 σ q.2.2 ∧ KW N q.2.2 c) ⟨rfl, rfl, e1, h.e89 e1 h1⟩ ?_ ?_
  · rintro j hj K ⟨x3, x4, υ⟩ ⟨r3, r4, e2, hw2⟩ hK
    dsimp only at r3 r4 e2 hw2 hK ⊢
    subst r3 r4
    have hn : ¬ c 0 ≤ j := by omega
    have hst : foldN (causS c fell) 0 (j + 1) = causS c fell (foldN (causS c fell) 0 j) j := rfl
    rw [hst] at hK
    generalize foldN (causS c fell) 0 j = acc at hK ⊢
    unfold w_X4_causesOf_13
    refine ⟨hw2.p95.1, ?_⟩
    rw [show gi υ (gr υ 95 3) 8 = nI (c 0) from hw2.p95.2.1 0 (by decide)]
    simp (disch := omega) only [N0, N1, N2, N3, N4, N5, N6, N7, N8, N9, N10, N11, N12, N13, N14, N15, N16, N17, N18, N19, N20, N21, N22, N23, N24, N25, N26, N27, N28, N29, N30, N32, N33, N34, N35, N36, N37, N38, N39, N40, N41, N42, N43, N44, N45, N46, N47, N48, N49, N50, N51, N52, N53, N54, N55, N56, N57, N58, N59, N60, N61, N62, N63, N64, N90, N96, N97, N98, N99, N100, N102, N103, N104, N107, N108, N109, N110, N111, N112, N114, N115, N116, N117, N118, N119, N120, N121, N122, N130, N138, N141, N142, N143, N144, N156, N240, N255, N256, N300, N400, N420, N421, N600, N900, N999, N1000, N1684, N2104, N2105, N2971, N4095, N4096, N9999, N10000, N10663, N65536, jI_add, jI_mul, jI_and, jI_or, jI_xor, jI_andn, jI_31, jI_shl, Nat.one_shiftLeft, jI_le, jI_lt, jI_eq, tn_nI, tc_nI, vp_nI, jI_allF, jI_bit, jI_bit0, jI_noneN, bI_N0, bI_N1, forall_eq, true_and, ↓reduceIte, hn]
    unfold causS at hK
    cases hb : (nowF c).testBit j <;> simp only [hb, Bool.false_eq_true, Bool.true_eq_false, false_and, true_and, ↓reduceIte] at hK ⊢
    · exact hK _ ⟨rfl, rfl, e2, hw2⟩
    · refine t_fallingWith hw2.kb.1 ok hN hj (fun φ e3 h3 => ?_)
      have hf2 := fallF_12 ok (t := j)
      by_cases hq : fallF c j = fell
      · rw [if_pos hq] at hK
        rw [if_pos (by rw [hq])]
        exact hK _ ⟨rfl, rfl, e2.tr e3, hw2.e89 e3 h3⟩
      · rw [if_neg hq] at hK
        rw [if_neg (by rw [jI_eq (by omega) (by omega)]; exact hq)]
        exact hK _ ⟨rfl, rfl, e2.tr e3, hw2.e89 e3 h3⟩
  · rintro K ⟨x3, x4, υ⟩ ⟨r3, r4, e2, hw2⟩
    dsimp only at r3 r4 e2 hw2 ⊢
    subst r3 r4
    unfold w_X4_causesOf_13
    refine ⟨hw2.p95.1, ?_⟩
    rw [show gi υ (gr υ 95 3) 8 = nI (c 0) from hw2.p95.2.1 0 (by decide), if_pos (by rw [jI_le (by omega) (by omega)]; exact Nat.le_refl _)]
    exact k υ e2 hw2
def wasItA (c : Nat → Nat) (x : Int32) : Int32 × Int32 := if ¬ x < 0 ∧ x < nI (2 ^ c 0) then (nI (causF c (tn x)), 0) else (-1, 5)
theorem c_wasIt {σ : Sto} {c : Nat → Nat} {P : Int32 → Sto → Prop} {N : Nat} (h : KW N σ c) (ok : OK c) (hN : N ≤ 2000) {x : Int32} (k : ∀ τ, Eo SQ σ τ → KW N τ c → gi τ 1 15 = (wasItA c x).2 → P (wasItA c x).1 τ) : w_X11_wasIt x σ P := by
  have := pw12 ok
  unfold w_X11_wasIt
  refine t_noSet h ok (fun hx => ?_) (fun hx => ?_)
  · rw [if_pos rfl]
    obtain ⟨t, ht, rfl⟩ := hx
    have e1 : wasItA c (nI t) = (nI (causF c t), 0) := by
      unfold wasItA
      rw [ifD_pos ht (by omega), tn_nI (by omega)]
    rw [e1] at k
    refine c_causesOf h ok hN (by omega) (fun τ e hw => ?_)
    exact k _ ((e.mo (fun _ _ => S89q)).tr stq) hw.st gi_si_s
  · rw [if_neg (by decide)]
    have e1 : wasItA c x = (-1, 5) := ifD_neg hx (by omega)
    rw [e1] at k
    exact k _ stq h.st gi_si_s
theorem m_wasIt {σ : Sto} {c : Nat → Nat} {P : Int32 → Sto → Prop} (h : MR σ c) (ok : OK c) {x : Int32} (k : ∀ τ, Eo SM σ τ → gi τ 101 0 = (wasItA c x).2 → P (wasItA c x).1 τ) : w_X12_wasIt x σ P := by
  have := ok.n0
  have := pw12 ok
  have hs : MR (si (si σ 101 1 0) 101 0 0) c := h.sm sm10
  have hst0 : gi (si (si σ 101 1 0) 101 0 0) 101 0 = 0 := gi_si_s
  have he : Eo SM σ (si (si σ 101 1 0) 101 0 0) := sm10
  unfold w_X12_wasIt
  generalize si (si σ 101 1 0) 101 0 0 = τ at hs hst0 he ⊢
  refine t_isSet hs ok (fun hx => ?_) (fun hx => ?_)
  · rw [if_neg (by decide)]
    obtain ⟨t, ht, rfl⟩ := hx
    have e1 : wasItA c (nI t) = (nI (causF c t), 0) := by
      unfold wasItA
      rw [ifD_pos ht (by omega), tn_nI (by omega)]
    rw [e1] at k
    refine Lp_det (c 0) (fun j => (nI (foldN (causS c t) 0 j), nI j, τ)) rfl (fun j hj K hK => ?_) (fun K => ?_)
    · have hn : ¬ c 0 ≤ j := by omega
      replace hK : K (nI (causS c t (foldN (causS c t) 0 j) j), nI (j + 1), τ) := hK
      generalize foldN (causS c t) 0 j = acc at hK ⊢
      dsimp only
      unfold w_X12_wasIt_28
      rw [hs 0 (by decide), if_neg (by rw [jI_le (by omega) (by omega)]; exact hn)]
      refine t_now hs ok ?_
      rw [t_has (by omega)]
      simp (disch := omega) only [N0, N1, N2, N3, N4, N5, N6, N7, N8, N9, N10, N11, N12, N13, N14, N15, N16, N17, N18, N19, N20, N21, N22, N23, N24, N25, N26, N27, N28, N29, N30, N32, N33, N34, N35, N36, N37, N38, N39, N40, N41, N42, N43, N44, N45, N46, N47, N48, N49, N50, N51, N52, N53, N54, N55, N56, N57, N58, N59, N60, N61, N62, N63, N64, N90, N96, N97, N98, N99, N100, N102, N103, N104, N107, N108, N109, N110, N111, N112, N114, N115, N116, N117, N118, N119, N120, N121, N122, N130, N138, N141, N142, N143, N144, N156, N240, N255, N256, N300, N400, N420, N421, N600, N900, N999, N1000, N1684, N2104, N2105, N2971, N4095, N4096, N9999, N10000, N10663, N65536, jI_add, jI_mul, jI_and, jI_or, jI_xor, jI_andn, jI_31, jI_shl, Nat.one_shiftLeft, jI_le, jI_lt, jI_eq, tn_nI, tc_nI, vp_nI, jI_allF, jI_bit, jI_bit0, jI_noneN, bI_N0, bI_N1, forall_eq, true_and, ↓reduceIte, Nat.or_zero]
      unfold causS at hK
      cases hb : (nowF c).testBit j <;> simp only [hb, Bool.false_eq_true, Bool.true_eq_false, false_and, true_and, ↓reduceIte] at hK ⊢
      · exact hK
      · refine t_fallsWith hs ok hj ?_
        have hf2 := fallF_12 ok (t := j)
        by_cases hq : fallF c j = t
        · rw [if_pos hq] at hK
          rw [if_pos (by rw [hq])]
          exact hK
        · rw [if_neg hq] at hK
          rw [if_neg (by rw [jI_eq (by omega) (by omega)]; exact hq)]
          exact hK
    · dsimp only
      unfold w_X12_wasIt_28
      rw [hs 0 (by decide), if_pos (by rw [jI_le (by omega) (by omega)]; exact Nat.le_refl _)]
      exact k _ he hst0
  · rw [if_pos rfl]
    have e1 : wasItA c x = (-1, 5) := ifD_neg hx (by omega)
    rw [e1] at k
    exact k _ (he.tr sm0) gi_si_s
