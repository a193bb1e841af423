/-! ===== promises 31 to 34: keystone, gone by, ends, later ===== -/
theorem worthF_le {c : Nat → Nat} (ok : OK c) {s : Nat} : worthF c s ≤ 1188 := by
  have h1 : ∀ n, n ≤ c 0 → foldN (fun s' t => if s.testBit t then s' + c (8 + t) else s') 0 n ≤ 99 * n := fun n hn => foldN_inv2 (c 0) (fun j x => x ≤ 99 * j) (Nat.le_refl _) (fun j x hj hx => by
    have := ok.worth j hj
    by_cases hb : s.testBit j = true
    · simp only [hb, ↓reduceIte]; omega
    · simp only [hb, Bool.false_eq_true, ↓reduceIte]; omega) n hn
  have := h1 (c 0) (Nat.le_refl _)
  have := ok.n0
  unfold worthF
  omega
theorem t_fineOrNone {σ : Sto} {P : Int32 → Sto → Prop} {m : Nat} (hm : m < 2147483648) (k : P (oI m) (si σ 1 15 (if m = 0 then 8 else 0))) : w_X11_fineOrNone (oI m) σ P := by
  unfold w_X11_fineOrNone
  cases m with
  | zero => rw [if_pos (show oI 0 = -1 from rfl)]; exact k
  | succ m =>
    rw [show oI (m + 1) = nI m from rfl, if_neg (jI_none (by omega))]
    exact k
def keyS (c : Nat → Nat) (p : Nat × Nat) (t : Nat) : Nat × Nat := if (nowF c).testBit t = true ∧ (p.1 = 0 ∨ p.2 < worthF c (fallF c t)) then (t + 1, worthF c (fallF c t)) else p
def keyF (c : Nat → Nat) : Nat := (foldN (keyS c) (0, 0) (c 0)).1
def keyA (c : Nat → Nat) : Int32 × Int32 := (oI (keyF c), if keyF c = 0 then 8 else 0)
theorem keyF_le {c : Nat → Nat} (ok : OK c) {n : Nat} : (foldN (keyS c) (0, 0) n).1 ≤ n ∧ (foldN (keyS c) (0, 0) n).2 ≤ 1188 :=
  foldN_inv2 n (fun j (p : Nat × Nat) => p.1 ≤ j ∧ p.2 ≤ 1188) ⟨Nat.le_refl _, by decide⟩ (fun k p _ hp => by
    unfold keyS; split
    · exact ⟨Nat.le_refl _, worthF_le ok⟩
    · exact ⟨by omega, hp.2⟩) n (Nat.le_refl _)
theorem c_keystone {σ : Sto} {c : Nat → Nat} {P : Int32 → Sto → Prop} {N : Nat} (h : KW N σ c) (ok : OK c) (hN : N ≤ 2000) (k : ∀ τ, Eo SQ σ τ → KW N τ c → gi τ 1 15 = (keyA c).2 → P (keyA c).1 τ) : w_X11_keystone σ P := by
  have := ok.n0
  unfold w_X11_keystone
  refine t_atPresent h.kb.1 ok hN (fun τ e1 h1 => ?_)
  have hw := h.e89 e1 h1
  refine Lp_for (c 0) (fun j q => q.1 = oI (foldN (keyS c) (0, 0) j).1 ∧ q.2.1 = (if (foldN (keyS c) (0, 0) j).1 = 0 then -1 else nI (foldN (keyS c) (0, 0) j).2) ∧ q.2.2.1 = nI j ∧ Eo S89 σ q.2.2.2 ∧ KW N q.2.2.2 c) ⟨rfl, rfl, rfl, e1, hw⟩ ?_ ?_
  · rintro j hj K ⟨x2, x3, x4, υ⟩ ⟨r2, r3, r4, e2, hw2⟩ hK
    dsimp only at r2 r3 r4 e2 hw2 hK ⊢
    subst r2 r3 r4
    have hle := keyF_le ok (n := j)
    have hst : foldN (keyS c) (0, 0) (j + 1) = keyS c (foldN (keyS c) (0, 0) j) j := rfl
    rw [hst] at hK
    generalize foldN (keyS c) (0, 0) j = p at hle hK ⊢
    have hn : ¬ c 0 ≤ j := by omega
    unfold w_X11_keystone_15
    refine ⟨hw2.1, ?_⟩
    rw [show gi υ (gr υ 1 11) 8 = nI (c 0) from hw2.f (k := 0) (by decide), if_neg (by rw [jI_le (by omega) (by omega)]; exact hn)]
    unfold w_X11_isOneOf
    unfold keyS at hK
    simp (disch := omega) only [N0, N1, N2, N3, N4, N5, N6, N7, N8, N9, N10, N11, N12, N13, N14, N15, N16, N17, N18, N19, N20, N21, N22, N23, N24, N25, N26, N27, N28, N29, N30, N32, N33, N34, N35, N36, N37, N38, N39, N40, N41, N42, N43, N44, N45, N46, N47, N48, N49, N50, N51, N52, N53, N54, N55, N56, N57, N58, N59, N60, N61, N62, N63, N64, N90, N96, N97, N98, N99, N100, N102, N103, N104, N107, N108, N109, N110, N111, N112, N114, N115, N116, N117, N118, N119, N120, N121, N122, N130, N138, N141, N142, N143, N144, N156, N240, N255, N256, N300, N400, N420, N421, N600, N900, N999, N1000, N1684, N2104, N2105, N2971, N4095, N4096, N9999, N10000, N10663, N65536, jI_add, jI_mul, jI_and, jI_or, jI_xor, jI_andn, jI_31, jI_shl, Nat.one_shiftLeft, jI_le, jI_lt, jI_eq, tn_nI, tc_nI, vp_nI, jI_allF, jI_bit, jI_bit0, jI_noneN, bI_N0, bI_N1, forall_eq, true_and, ↓reduceIte]
    cases hb : (nowF c).testBit j <;> simp only [hb, Bool.false_eq_true, Bool.true_eq_false, false_and, true_and, ↓reduceIte] at hK ⊢
    · unfold w_X11_keystone_57
      rw [if_pos (by
        split
        · decide
        · rw [Int32.le_iff_toInt_le, jI_toInt (by omega)]
          have : (-nI 1 : Int32).toInt = -1 := by decide
          omega)]
      rintro x rfl
      exact hK _ ⟨rfl, rfl, jI_add, e2, hw2⟩
    · refine ⟨hw2.1, t_fallingWith hw2.kb.1 ok hN hj (fun φ e3 h3 => ?_)⟩
      have hw3 := hw2.e89 e3 h3
      rw [show gr υ 1 11 = gr φ 1 11 from (e3.2.2 1 11).symm]
      refine t_worthOfC hw3.1 hw3.cr ok ?_
      have hwl := worthF_le ok (s := fallF c j)
      unfold w_X11_keystone_57
      by_cases h0 : p.1 = 0
      · simp only [h0, true_or, ↓reduceIte] at hK ⊢
        rw [if_neg (show ¬ nI (worthF c (fallF c j)) ≤ -nI 1 by
          rw [Int32.le_iff_toInt_le, jI_toInt (by omega)]
          have : (-nI 1 : Int32).toInt = -1 := by decide
          omega)]
        rintro x rfl
        exact hK _ ⟨rfl, by simp, jI_add, e2.tr e3, hw3⟩
      · simp only [h0, false_or, ↓reduceIte] at hK ⊢
        by_cases hl : p.2 < worthF c (fallF c j)
        · rw [if_neg (by rw [jI_le (by omega) (by omega)]; omega)]
          simp only [hl, ↓reduceIte] at hK
          rintro x rfl
          exact hK _ ⟨rfl, by simp, jI_add, e2.tr e3, hw3⟩
        · rw [if_pos (by rw [jI_le (by omega) (by omega)]; omega)]
          simp only [hl, ↓reduceIte] at hK
          rintro x rfl
          exact hK _ ⟨rfl, by simp [h0], jI_add, e2.tr e3, hw3⟩
  · rintro K ⟨x2, x3, x4, υ⟩ ⟨r2, r3, r4, e2, hw2⟩
    dsimp only at r2 r3 r4 e2 hw2 ⊢
    subst r2 r3 r4
    unfold w_X11_keystone_15
    refine ⟨hw2.1, ?_⟩
    rw [show gi υ (gr υ 1 11) 8 = nI (c 0) from hw2.f (k := 0) (by decide), if_pos (by rw [jI_le (by omega) (by omega)]; exact Nat.le_refl _)]
    have hle := keyF_le ok (n := c 0)
    refine t_fineOrNone (by omega) ?_
    exact k _ ((e2.mo (fun _ _ => S89q)).tr stq) hw2.st gi_si_s
theorem m_keystone {σ : Sto} {c : Nat → Nat} {P : Int32 → Sto → Prop} (h : MR σ c) (ok : OK c) (k : ∀ τ, Eo SM σ τ → gi τ 101 0 = (keyA c).2 → P (keyA c).1 τ) : w_X12_keystone σ P := by
  have := ok.n0
  have hs : MR (si (si σ 101 1 0) 101 0 0) c := h.sm sm10
  have k' := k (si (si σ 101 1 0) 101 0 0) sm10
  have k8 := k (si (si (si σ 101 1 0) 101 0 0) 101 0 8) (sm10.tr sm0)
  have hst0 : gi (si (si σ 101 1 0) 101 0 0) 101 0 = 0 := gi_si_s
  have hst8 : gi (si (si (si σ 101 1 0) 101 0 0) 101 0 8) 101 0 = 8 := gi_si_s
  unfold w_X12_keystone
  generalize si (si σ 101 1 0) 101 0 0 = τ at hs k' k8 hst0 hst8 ⊢
  refine Lp_det (c 0) (fun j => (oI (foldN (keyS c) (0, 0) j).1, nI (foldN (keyS c) (0, 0) j).2, nI j, τ)) rfl (fun j hj K hK => ?_) (fun K => ?_)
  · have hle := keyF_le ok (n := j)
    have hn : ¬ c 0 ≤ j := by omega
    have hwl := worthF_le ok (s := fallF c j)
    replace hK : K (oI (keyS c (foldN (keyS c) (0, 0) j) j).1, nI (keyS c (foldN (keyS c) (0, 0) j) j).2, nI (j + 1), τ) := hK
    generalize foldN (keyS c) (0, 0) j = p at hle hK ⊢
    dsimp only
    unfold w_X12_keystone_16
    rw [hs 0 (by decide), if_neg (by rw [jI_le (by omega) (by omega)]; exact hn)]
    refine t_now hs ok ?_
    rw [t_has (by omega)]
    unfold keyS at hK
    cases hb : (nowF c).testBit j <;> simp only [hb, bI, Bool.false_eq_true, Bool.true_eq_false, false_and, true_and, ↓reduceIte] at hK ⊢
    · rintro x rfl
      rw [show (1 : Int32) = nI 1 from rfl, jI_add]
      exact hK
    · rw [if_neg (by decide)]
      refine t_fallsWith hs ok hj (t_worthOf hs ok ?_)
      obtain ⟨p1, p2⟩ := p
      cases p1 with
      | zero =>
        simp only [true_or, ↓reduceIte] at hK
        rw [if_pos (show oI 0 < 0 by decide)]
        rintro x rfl
        rw [show (1 : Int32) = nI 1 from rfl, jI_add]
        exact hK
      | succ i =>
        dsimp only at hle
        have hi0 : ¬ (i + 1 = 0) := by omega
        simp only [hi0, false_or] at hK
        rw [show oI (i + 1) = nI i from rfl, if_neg (jI_neg (by omega))]
        dsimp only at hK ⊢
        by_cases hl : p2 < worthF c (fallF c j)
        · rw [if_pos (by rw [jI_lt (by omega) (by omega)]; exact hl)]
          simp only [hl, ↓reduceIte] at hK
          rintro x rfl
          rw [show (1 : Int32) = nI 1 from rfl, jI_add]
          exact hK
        · rw [if_neg (by rw [jI_lt (by omega) (by omega)]; exact hl)]
          simp only [hl, ↓reduceIte] at hK
          rintro x rfl
          rw [show (1 : Int32) = nI 1 from rfl, jI_add]
          exact hK
  · dsimp only
    unfold w_X12_keystone_16
    rw [hs 0 (by decide), if_pos (by rw [jI_le (by omega) (by omega)]; exact Nat.le_refl _)]
    have hle := (keyF_le ok (n := c 0)).1
    have hkd : (foldN (keyS c) (0, 0) (c 0)).1 = keyF c := rfl
    rw [hkd] at hle ⊢
    unfold keyA at k' k8
    generalize keyF c = b at hle k' k8 ⊢
    cases b with
    | zero =>
      rw [if_neg (by decide)]
      exact k8 hst8
    | succ i =>
      rw [if_pos (by rw [show oI (i + 1) = nI i from rfl, Int32.le_iff_toInt_le, jI_toInt (by omega)]; have : (0 : Int32).toInt = 0 := by decide
                     omega)]
      exact k' hst0
