/-! ===== the class's ballot: votes cast, counted, kept ===== -/
theorem t_fill {σ : Sto} {P : Sto → Prop} {a n : Nat} {v : Int32} (ha : isA a 1 n) (hn : n < 2147483648) (k : ∀ τ, Eo (fun b _ => b = a) σ τ → (∀ t, t < n → gi τ a t = v) → P τ) : w_J7_fill_53178 a n v σ P := by
  refine ⟨ha, ?_⟩
  rintro x3 rfl
  refine Lp_for n (fun j q => q.1 = nI j ∧ Eo (fun b _ => b = a) σ q.2 ∧ ∀ t, t < j → gi q.2 a t = v) ⟨rfl, Eo.rf, fun t ht => absurd ht (Nat.not_lt_zero _)⟩ ?_ ?_
  · rintro j hj K ⟨x, τ⟩ ⟨rfl, e, hz⟩ hK
    dsimp only at e hz hK ⊢
    have hn2 : ¬ n ≤ j := by omega
    simp (disch := omega) only [w_J7_fill_53178_5, N0, N1, N2, N3, N4, N5, N6, N7, N8, N9, N10, N11, N12, N13, N14, N15, N16, N17, N18, N19, N20, N21, N22, N23, N24, N25, N26, N27, N28, N29, N30, N32, N33, N34, N35, N36, N37, N38, N39, N40, N41, N42, N43, N44, N45, N46, N47, N48, N49, N50, N51, N52, N53, N54, N55, N56, N57, N58, N59, N60, N61, N62, N63, N64, N90, N96, N97, N98, N99, N100, N102, N103, N104, N107, N108, N109, N110, N111, N112, N114, N115, N116, N117, N118, N119, N120, N121, N122, N130, N138, N141, N142, N143, N144, N156, N240, N255, N256, N300, N400, N420, N421, N600, N900, N999, N1000, N1684, N2104, N2105, N2971, N4095, N4096, N9999, N10000, N10663, N65536, jI_add, jI_mul, jI_and, jI_or, jI_xor, jI_andn, jI_31, jI_shl, Nat.one_shiftLeft, jI_le, jI_lt, jI_eq, tn_nI, tc_nI, vp_nI, jI_allF, jI_bit, jI_bit0, jI_noneN, bI_N0, bI_N1, forall_eq, true_and, ↓reduceIte, hn2]
    refine ⟨ha, hK _ ⟨rfl, e.tr (Eo.si rfl), fun t ht => ?_⟩⟩
    dsimp only
    by_cases htj : t = j
    · subst htj; exact gi_si_s
    · rw [gi_si_k htj]; exact hz t (by omega)
  · rintro K ⟨x, τ⟩ ⟨rfl, e, hz⟩
    dsimp only at e hz ⊢
    simp (disch := omega) only [w_J7_fill_53178_5, N0, N1, N2, N3, N4, N5, N6, N7, N8, N9, N10, N11, N12, N13, N14, N15, N16, N17, N18, N19, N20, N21, N22, N23, N24, N25, N26, N27, N28, N29, N30, N32, N33, N34, N35, N36, N37, N38, N39, N40, N41, N42, N43, N44, N45, N46, N47, N48, N49, N50, N51, N52, N53, N54, N55, N56, N57, N58, N59, N60, N61, N62, N63, N64, N90, N96, N97, N98, N99, N100, N102, N103, N104, N107, N108, N109, N110, N111, N112, N114, N115, N116, N117, N118, N119, N120, N121, N122, N130, N138, N141, N142, N143, N144, N156, N240, N255, N256, N300, N400, N420, N421, N600, N900, N999, N1000, N1684, N2104, N2105, N2971, N4095, N4096, N9999, N10000, N10663, N65536, jI_add, jI_mul, jI_and, jI_or, jI_xor, jI_andn, jI_31, jI_shl, Nat.one_shiftLeft, jI_le, jI_lt, jI_eq, tn_nI, tc_nI, vp_nI, jI_allF, jI_bit, jI_bit0, jI_noneN, bI_N0, bI_N1, forall_eq, true_and, ↓reduceIte, Nat.le_refl]
    exact k τ e hz
theorem t_cast_in {σ : Sto} {c : Nat → Nat} {P : Sto → Prop} (h : BC σ c) (ok : OK c) {set v : Nat} {bf : Int32} (hv : v < c 3) (h0 : 0 < c 0) {K45 : Int32 × Sto → Prop}
    (h1 : ¬ (decide (nI v = bf) = false ∧ favF c set v ≠ 0) → K45 (nI (v + 1), σ)) (h2 : ∀ t, nI v ≠ bf → favF c set v = t + 1 → t < 12 → K45 (nI (v + 1), si σ 92 t (gi σ 92 t + 1))) :
    Lp (fun (K : Int32 × Int32 × Int32 × Sto → Prop) s => w_X0_castOne_65 K45 K (nI set) bf (nI v) s.1 s.2.1 s.2.2.1 s.2.2.2 P) ((-1), 0, 0, σ) := by
  have := ok.n0
  have := ok.n3
  have h8 : gi σ (gr σ 90 3) 8 = nI (c 0) := h.f (k := 0) (by decide)
  by_cases hbf : nI v = bf
  · refine Lp_det 0 (fun j => ((-1), 0, 0, σ)) rfl (fun j hj => absurd hj (Nat.not_lt_zero _)) (fun K => ?_)
    dsimp only
    unfold w_X0_castOne_65
    refine ⟨h.1, ?_⟩
    rw [h8]
    have hn : ¬ c 0 ≤ 0 := by omega
    simp (disch := omega) only [N0, N1, N2, N3, N4, N5, N6, N7, N8, N9, N10, N11, N12, N13, N14, N15, N16, N17, N18, N19, N20, N21, N22, N23, N24, N25, N26, N27, N28, N29, N30, N32, N33, N34, N35, N36, N37, N38, N39, N40, N41, N42, N43, N44, N45, N46, N47, N48, N49, N50, N51, N52, N53, N54, N55, N56, N57, N58, N59, N60, N61, N62, N63, N64, N90, N96, N97, N98, N99, N100, N102, N103, N104, N107, N108, N109, N110, N111, N112, N114, N115, N116, N117, N118, N119, N120, N121, N122, N130, N138, N141, N142, N143, N144, N156, N240, N255, N256, N300, N400, N420, N421, N600, N900, N999, N1000, N1684, N2104, N2105, N2971, N4095, N4096, N9999, N10000, N10663, N65536, jI_add, jI_mul, jI_and, jI_or, jI_xor, jI_andn, jI_31, jI_shl, Nat.one_shiftLeft, jI_le, jI_lt, jI_eq, tn_nI, tc_nI, vp_nI, jI_allF, jI_bit, jI_bit0, jI_noneN, bI_N0, bI_N1, forall_eq, true_and, ↓reduceIte, hn]
    rw [if_pos hbf]
    unfold w_X0_castOne_129
    rw [if_pos (by decide)]
    rintro x rfl
    rw [show (1 : Int32) = nI 1 from rfl, jI_add]
    exact h1 (by simp [hbf])
  · refine Lp_det (c 0) (fun j => (oI (foldN (favS c set v) (0, 0) j).1, nI (foldN (favS c set v) (0, 0) j).2, nI j, σ)) rfl (fun j hj K hK => ?_) (fun K => ?_)
    · have hn : ¬ c 0 ≤ j := by omega
      have hm : (foldN (favS c set v) (0, 0) j).2 ≤ 9 := foldN_inv2 (c 0) (fun _ (p : Nat × Nat) => p.2 ≤ 9) (by decide) (fun k p hk hp => by
        unfold favS hateF; split
        · exact ok.hates v hv k (by omega)
        · exact hp) j (by omega)
      have hb : hateF c v j ≤ 9 := ok.hates v hv j (by omega)
      have hh := h.hate hv hj
      replace hK : K (oI (favS c set v (foldN (favS c set v) (0, 0) j) j).1, nI (favS c set v (foldN (favS c set v) (0, 0) j) j).2, nI (j + 1), σ) := hK
      generalize foldN (favS c set v) (0, 0) j = p at hK hm ⊢
      unfold favS at hK
      dsimp only
      unfold w_X0_castOne_65
      refine ⟨h.1, ?_⟩
      rw [h8, if_neg (by rw [jI_le (by omega) (by omega)]; exact hn), if_neg hbf]
      simp (disch := omega) only [N0, N1, N2, N3, N4, N5, N6, N7, N8, N9, N10, N11, N12, N13, N14, N15, N16, N17, N18, N19, N20, N21, N22, N23, N24, N25, N26, N27, N28, N29, N30, N32, N33, N34, N35, N36, N37, N38, N39, N40, N41, N42, N43, N44, N45, N46, N47, N48, N49, N50, N51, N52, N53, N54, N55, N56, N57, N58, N59, N60, N61, N62, N63, N64, N90, N96, N97, N98, N99, N100, N102, N103, N104, N107, N108, N109, N110, N111, N112, N114, N115, N116, N117, N118, N119, N120, N121, N122, N130, N138, N141, N142, N143, N144, N156, N240, N255, N256, N300, N400, N420, N421, N600, N900, N999, N1000, N1684, N2104, N2105, N2971, N4095, N4096, N9999, N10000, N10663, N65536, jI_add, jI_mul, jI_and, jI_or, jI_xor, jI_andn, jI_31, jI_shl, Nat.one_shiftLeft, jI_le, jI_lt, jI_eq, tn_nI, tc_nI, vp_nI, jI_allF, jI_bit, jI_bit0, jI_noneN, bI_N0, bI_N1, forall_eq, true_and, ↓reduceIte, hh]
      by_cases hl : hateF c v j ≤ p.2
      · have hl' : ¬ p.2 < hateF c v j := by omega
        simp only [hl, hl', decide_false, Bool.and_false, Bool.false_eq_true, ↓reduceIte] at hK ⊢
        exact hK
      · have hl' : p.2 < hateF c v j := by omega
        simp only [hl, hl', decide_true, Bool.and_true, ↓reduceIte] at hK ⊢
        cases ht : set.testBit j <;> simp only [ht, Bool.false_eq_true, Bool.true_eq_false, ↓reduceIte] at hK ⊢
        · exact hK
        · exact hK
    · dsimp only
      unfold w_X0_castOne_65
      refine ⟨h.1, ?_⟩
      rw [h8, if_pos (by rw [jI_le (by omega) (by omega)]; exact Nat.le_refl _)]
      simp only [show (foldN (favS c set v) (0, 0) (c 0)).1 = favF c set v from rfl]
      have hf := favF_le (c := c) (set := set) (v := v)
      revert h1 h2
      generalize favF c set v = b at hf ⊢
      intro h1 h2
      unfold w_X0_castOne_129
      cases b with
      | zero =>
        rw [if_pos (by decide)]
        rintro x rfl
        rw [show (1 : Int32) = nI 1 from rfl, jI_add]
        exact h1 (by simp)
      | succ t =>
        have ht : t < 12 := by omega
        simp (disch := omega) only [N0, N1, N2, N3, N4, N5, N6, N7, N8, N9, N10, N11, N12, N13, N14, N15, N16, N17, N18, N19, N20, N21, N22, N23, N24, N25, N26, N27, N28, N29, N30, N32, N33, N34, N35, N36, N37, N38, N39, N40, N41, N42, N43, N44, N45, N46, N47, N48, N49, N50, N51, N52, N53, N54, N55, N56, N57, N58, N59, N60, N61, N62, N63, N64, N90, N96, N97, N98, N99, N100, N102, N103, N104, N107, N108, N109, N110, N111, N112, N114, N115, N116, N117, N118, N119, N120, N121, N122, N130, N138, N141, N142, N143, N144, N156, N240, N255, N256, N300, N400, N420, N421, N600, N900, N999, N1000, N1684, N2104, N2105, N2971, N4095, N4096, N9999, N10000, N10663, N65536, jI_add, jI_mul, jI_and, jI_or, jI_xor, jI_andn, jI_31, jI_shl, Nat.one_shiftLeft, jI_le, jI_lt, jI_eq, tn_nI, tc_nI, vp_nI, jI_allF, jI_bit, jI_bit0, jI_noneN, bI_N0, bI_N1, forall_eq, true_and, ↓reduceIte, oI]
        exact h2 t hbf rfl ht
theorem t_castOne {σ : Sto} {c : Nat → Nat} {P : Sto → Prop} (h : BC σ c) (ok : OK c) {set : Nat} {bf : Int32} {got : Nat → Nat} (hg : ∀ t, t < c 0 → gi σ 92 t = nI (got t))
    (k : ∀ τ, Eo S92 σ τ → (∀ t, t < c 0 → gi τ 92 t = nI (if set.testBit t then cntB c (fun v => decide (nI v = bf)) set (c 3) t else got t)) → P τ) : w_X0_castOne (nI set) bf σ P := by
  have := ok.n0
  have := ok.n3
  refine Lp_for (c 0) (fun j q => q.1 = nI j ∧ Eo S92 σ q.2 ∧ ∀ t, t < c 0 → gi q.2 92 t = nI (if t < j ∧ set.testBit t then 0 else got t)) ⟨rfl, Eo.rf, fun t ht => by rw [if_neg (fun q => absurd q.1 (Nat.not_lt_zero _))]; exact hg t ht⟩ ?_ ?_
  · rintro j hj K ⟨x, τ⟩ ⟨rfl, e, hz⟩ hK
    dsimp only at e hz hK ⊢
    have h2 := h.eo e NoC92
    have h8 : gi τ (gr τ 90 3) 8 = nI (c 0) := h2.f (k := 0) (by decide)
    have hn : ¬ c 0 ≤ j := by omega
    have hzj := hz j hj
    rw [if_neg (fun q => absurd q.1 (Nat.lt_irrefl _))] at hzj
    unfold w_X0_castOne_2
    refine ⟨h2.1, ?_⟩
    rw [h8]
    simp (disch := omega) only [N0, N1, N2, N3, N4, N5, N6, N7, N8, N9, N10, N11, N12, N13, N14, N15, N16, N17, N18, N19, N20, N21, N22, N23, N24, N25, N26, N27, N28, N29, N30, N32, N33, N34, N35, N36, N37, N38, N39, N40, N41, N42, N43, N44, N45, N46, N47, N48, N49, N50, N51, N52, N53, N54, N55, N56, N57, N58, N59, N60, N61, N62, N63, N64, N90, N96, N97, N98, N99, N100, N102, N103, N104, N107, N108, N109, N110, N111, N112, N114, N115, N116, N117, N118, N119, N120, N121, N122, N130, N138, N141, N142, N143, N144, N156, N240, N255, N256, N300, N400, N420, N421, N600, N900, N999, N1000, N1684, N2104, N2105, N2971, N4095, N4096, N9999, N10000, N10663, N65536, jI_add, jI_mul, jI_and, jI_or, jI_xor, jI_andn, jI_31, jI_shl, Nat.one_shiftLeft, jI_le, jI_lt, jI_eq, tn_nI, tc_nI, vp_nI, jI_allF, jI_bit, jI_bit0, jI_noneN, bI_N0, bI_N1, forall_eq, true_and, ↓reduceIte, hn, hzj]
    have fin : ∀ x, x = (if set.testBit j then 0 else got j) → K (nI (j + 1), si τ 92 j (nI x)) := fun x hx => hK _ ⟨rfl, e.tr (Eo.si rfl), fun t ht => by
      dsimp only
      by_cases htj : t = j
      · subst htj
        rw [gi_si_s, hx]
        congr 1
        cases set.testBit t <;> simp
      · rw [gi_si_k htj, hz t ht]
        congr 1
        have : t < j + 1 ↔ t < j := by omega
        simp only [this]⟩
    cases hs : set.testBit j <;> simp only [hs, Bool.false_eq_true, Bool.true_eq_false, ↓reduceIte]
    · exact fin _ (by simp [hs])
    · exact fin _ (by simp [hs])
  · rintro K ⟨x, τ⟩ ⟨rfl, e, hz⟩
    dsimp only at e hz ⊢
    have h2 := h.eo e NoC92
    have h8 : gi τ (gr τ 90 3) 8 = nI (c 0) := h2.f (k := 0) (by decide)
    unfold w_X0_castOne_2
    refine ⟨h2.1, ?_⟩
    rw [h8, if_pos (by rw [jI_le (by omega) (by omega)]; exact Nat.le_refl _)]
    refine Lp_for (c 3) (fun j q => q.1 = nI j ∧ Eo S92 σ q.2 ∧ ∀ t, t < c 0 → gi q.2 92 t = nI (if set.testBit t then cntB c (fun v => decide (nI v = bf)) set j t else got t)) ⟨rfl, e, fun t ht => by
      rw [hz t ht]
      congr 1
      cases set.testBit t
      · simp
      · simp [ht, cntB, foldN]⟩ ?_ ?_
    · rintro v hv K2 ⟨x, υ⟩ ⟨rfl, e2, hc⟩ hK
      dsimp only at e2 hc hK ⊢
      have h3 := h.eo e2 NoC92
      have h11 : gi υ (gr υ 90 3) 11 = nI (c 3) := h3.f (k := 3) (by decide)
      have hn : ¬ c 3 ≤ v := by omega
      unfold w_X0_castOne_45
      refine ⟨h3.1, ?_⟩
      rw [h11, if_neg (by rw [jI_le (by omega) (by omega)]; exact hn)]
      by_cases h0 : 0 < c 0
      · refine t_cast_in h3 ok hv h0 (fun hno => hK _ ⟨rfl, e2, fun t ht => ?_⟩) (fun b hbf hf hb => hK _ ⟨rfl, e2.tr (Eo.si rfl), fun t ht => ?_⟩)
        · dsimp only
          rw [hc t ht]
          congr 1
          have : ¬ (decide (nI v = bf) = false ∧ favF c set v = t + 1) := fun q => hno ⟨q.1, by rw [q.2]; omega⟩
          have e9 : cntB c (fun v => decide (nI v = bf)) set (v + 1) t = cntB c (fun v => decide (nI v = bf)) set v t := if_neg this
          rw [e9]
        · dsimp only
          have hb0 : set.testBit b = true := by
            refine Classical.byContradiction (fun hq => ?_)
            have hI : ∀ n, (foldN (favS c set v) (0, 0) n).1 ≠ b + 1 := fun n => foldN_inv (f := favS c set v) (a := (0, 0)) (fun _ p => p.1 ≠ b + 1) (by simp) (fun k p hp => by
              unfold favS; split
              · rename_i hh
                intro e5
                have : k = b := by simpa using e5
                subst this
                simp at hh
                exact hq hh.1
              · exact hp) n
            exact hI _ hf
          by_cases htb : t = b
          · subst htb
            rw [gi_si_s, hc t ht, if_pos hb0, if_pos hb0]
            have e9 : cntB c (fun v => decide (nI v = bf)) set (v + 1) t = cntB c (fun v => decide (nI v = bf)) set v t + 1 := if_pos ⟨by simp [hbf], hf⟩
            rw [e9]
            exact jI_add
          · rw [gi_si_k htb, hc t ht]
            congr 1
            have e9 : cntB c (fun v => decide (nI v = bf)) set (v + 1) t = cntB c (fun v => decide (nI v = bf)) set v t := if_neg (fun q => htb (by rw [hf] at q; omega))
            rw [e9]
      · refine Lp_det 0 (fun j => ((-1), 0, 0, υ)) rfl (fun j hj => absurd hj (Nat.not_lt_zero _)) (fun K3 => ?_)
        have h83 : gi υ (gr υ 90 3) 8 = nI (c 0) := h3.f (k := 0) (by decide)
        dsimp only
        unfold w_X0_castOne_65
        refine ⟨h3.1, ?_⟩
        rw [h83, if_pos (by rw [show (0 : Int32) = nI 0 from rfl, jI_le (by omega) (by omega)]; omega)]
        unfold w_X0_castOne_129
        rw [if_pos rfl]
        rintro x rfl
        rw [show (1 : Int32) = nI 1 from rfl, jI_add]
        exact hK _ ⟨rfl, e2, fun t ht => by omega⟩
    · rintro K2 ⟨x, υ⟩ ⟨rfl, e2, hc⟩
      dsimp only at e2 hc ⊢
      have h3 := h.eo e2 NoC92
      have h11 : gi υ (gr υ 90 3) 11 = nI (c 3) := h3.f (k := 3) (by decide)
      unfold w_X0_castOne_45
      refine ⟨h3.1, ?_⟩
      rw [h11, if_pos (by rw [jI_le (by omega) (by omega)]; exact Nat.le_refl _)]
      exact k υ e2 hc
