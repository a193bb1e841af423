/-! ===== centuries lived: mean in the model ===== -/
theorem in120 {y : Int32} : ((1 : Int64) ≤ y.toInt64 ∧ y.toInt64 ≤ 20) ↔ ∃ m, 1 ≤ m ∧ m ≤ 20 ∧ y = nI m := by
  have h1 : (1 : Int64).toInt = 1 := by decide
  have h2 : (20 : Int64).toInt = 20 := by decide
  rw [Int64.le_iff_toInt_le, Int64.le_iff_toInt_le, i64_int, h1, h2]
  constructor
  · rintro ⟨q1, q2⟩
    obtain ⟨m, hm, e⟩ := nI_upto (x := y) (N := 20) (by decide) (fun q => by
      rw [Int32.lt_iff_toInt_lt] at q
      have e1 : (0 : Int32).toInt = 0 := by decide
      omega) (fun q => by
      rw [Int32.lt_iff_toInt_lt, jI_toInt (by decide)] at q
      omega)
    refine ⟨m, ?_, hm, e⟩
    rw [e, jI_toInt (by omega)] at q1
    omega
  · rintro ⟨m, q1, q2, rfl⟩
    rw [jI_toInt (by omega)]
    omega
theorem in0d {x : Int32} {m : Nat} (hm : m ≤ 20) : ((0 : Int64) ≤ x.toInt64 ∧ x.toInt64 ≤ (10000 - nI m).toInt64) ↔ ∃ n, n + m ≤ 10000 ∧ x = nI n := by
  rw [show (10000 : Int32) - nI m = nI (10000 - m) from jI_sub (a := 10000) (by omega), rangeK (N := 10000 - m) (by omega) (by rw [i64_int, jI_toInt (by omega)])]
  constructor
  · rintro ⟨n, hn, e⟩
    exact ⟨n, by omega, e⟩
  · rintro ⟨n, hn, e⟩
    exact ⟨n, by omega, e⟩
def SMe (a k : Nat) : Prop := SML a k ∨ a = 107 ∨ (a = 106 ∧ k < 142)
def SMu (a k : Nat) : Prop := SMe a k ∨ (a = 101 ∧ (k = 2 ∨ k = 3))
theorem m_mean {σ : Sto} {c : Nat → Nat} {x y : Int32} {V O G U T : Nat → Int32} {ln : Nat} {P : Int32 → Sto → Prop} (h : MR σ c) (ok : OK c) (h42 : c 142 ≤ 1) (h30 : c 143 ≤ 30) (hl : Lay c V O G U T 31 3 0 (c 143) 0 ln)
    (k5 : ¬ Mok x y → ∀ τ, Eo SM σ τ → gi τ 101 0 = 5 → P 0 τ) (k8 : Mok x y → c 142 = 0 → ∀ τ, Eo SM σ τ → gi τ 101 0 = 8 → P 0 τ)
    (k1 : ∀ n m, x = nI n → y = nI m → 1 ≤ m → m ≤ 20 → n + m ≤ 10000 → c 142 ≠ 0 → ∀ τ, Eo SMu σ τ → MR τ c → gi τ 101 0 = 0 → gl τ 101 2 = lI (sumM c n m / Nat.gcd (sumM c n m) m) → gl τ 101 3 = lI (m / Nat.gcd (sumM c n m) m) → P 1 τ) : w_X12_mean x y σ P := by
  have hs : MR (si (si σ 101 1 0) 101 0 0) c := h.sm sm10
  have hst0 : gi (si (si σ 101 1 0) 101 0 0) 101 0 = 0 := gi_si_s
  have he : Eo SM σ (si (si σ 101 1 0) 101 0 0) := sm10
  unfold w_X12_mean
  generalize si (si σ 101 1 0) 101 0 0 = υ at hs hst0 he ⊢
  have k5' : ¬ Mok x y → w_X12_mean_37 υ P := fun q => by
    unfold w_X12_mean_37 w_X12_no
    exact ⟨Or.inl rfl, k5 q _ (he.tr sm0) gi_si_s⟩
  rw [t_isIn]
  by_cases hy : (1 : Int64) ≤ y.toInt64 ∧ y.toInt64 ≤ 20
  · rw [decide_eq_true hy, if_neg (show ¬ bI true = 0 by decide)]
    obtain ⟨m, hm1, hm, rfl⟩ := in120.mp hy
    rw [t_isIn]
    by_cases hx : (0 : Int64) ≤ x.toInt64 ∧ x.toInt64 ≤ (10000 - nI m).toInt64
    · rw [decide_eq_true hx, if_neg (show ¬ bI true = 0 by decide)]
      obtain ⟨n, hnm, rfl⟩ := (in0d hm).mp hx
      have hok : Mok (nI n) (nI m) := ⟨n, m, rfl, rfl, hm1, hm, hnm⟩
      rw [hs 142 (by decide), N0]
      by_cases h0 : c 142 = 0
      · rw [if_pos (by rw [h0])]
        unfold w_X12_no
        exact ⟨Or.inl rfl, k8 hok h0 _ (he.tr sm0) gi_si_s⟩
      rw [if_neg (by rw [jI_eq (by omega) (by decide)]; exact h0)]
      refine Lp_for 142 (fun j s => s.1 = nI j ∧ Eo (fun a _ => a = 107) υ s.2 ∧ ∀ i, i < j → gi s.2 107 i = nI (c i)) ⟨rfl, Eo.rf, fun i hi => absurd hi (Nat.not_lt_zero _)⟩ ?_ ?_
      · rintro j hj K ⟨x3, τ⟩ ⟨r1, e, hc⟩ hK
        dsimp only at r1 e hc hK ⊢
        subst r1
        have hmt : MR τ c := hs.eo e (fun k q => absurd (show (106 : Nat) = 107 from q) (by decide))
        unfold w_X12_mean_63
        rw [show (142 : Int32) = nI 142 from rfl, if_neg (by rw [jI_le (by decide) (by omega)]; omega), tn_nI (by omega), hmt j (by omega), N1, jI_add]
        refine ⟨vp_nI (by omega) (by decide), vp_nI hj (by decide), ?_⟩
        rintro _ rfl
        refine hK _ ⟨rfl, e.tr (Eo.si rfl), fun i hi => ?_⟩
        dsimp only
        by_cases hij : i = j
        · rw [hij, gi_si_s]
        · rw [gi_si_k hij]; exact hc i (by omega)
      · rintro K ⟨x3, τ0⟩ ⟨r1, e0, hc0⟩
        dsimp only at r1 e0 hc0 ⊢
        subst r1
        have hm0 : MR τ0 c := hs.eo e0 (fun k q => absurd (show (106 : Nat) = 107 from q) (by decide))
        have hst : gi τ0 101 0 = 0 := by rw [e0.1 101 0 (by decide)]; exact hst0
        unfold w_X12_mean_63
        rw [show (142 : Int32) = nI 142 from rfl, if_pos (Int32.le_refl _)]
        refine Lp_for m (fun j s => s.1 = lI (sumM c n j) ∧ s.2.1 = nI j ∧ Eo SMe τ0 s.2.2 ∧ MR s.2.2 c ∧ gi s.2.2 101 0 = 0 ∧ ∀ i, i < 142 → gi s.2.2 107 i = nI (c i)) ⟨rfl, rfl, Eo.rf, hm0, hst, hc0⟩ ?_ ?_
        · rintro j hj K2 ⟨x3, x5, τ⟩ ⟨r1, r2, e, hmt, hs0, hc⟩ hK
          dsimp only at r1 r2 e hmt hs0 hc hK ⊢
          subst r1 r2
          have hsm := sumM_le (c := c) (seed := n) j
          unfold w_X12_mean_93
          rw [if_neg (by rw [jI_le (by omega) (by omega)]; omega), jI_add]
          refine m_runs hmt ok h30 hl (by omega) (fun φ hx => ?_)
          obtain ⟨g1, g2, ⟨g3, g4, g5, g6, g7, g8, g9, g10⟩, g11, g12, g13, g14, g15, g16⟩ := hx
          refine t_now g3 g4 ?_
          refine t_doneBy g3 g4 ?_
          refine t_sizeOf12 (doneF_12 g4) ?_
          have hcl := card_le (a := doneF (runF c (n + j)).1 (nowF (runF c (n + j)).1))
          rw [lI_nI (by omega), lI_add, ← sumM_s]
          rintro _ rfl
          have g0 : gi φ 101 0 = 0 := by rw [g2]; exact hs0
          have gc : ∀ i, i < 142 → gi φ 107 i = nI (c i) := fun i hi => by rw [g1.1 107 i (by unfold SML SM; omega)]; exact hc i hi
          refine Lp_for 142 (fun i s => s.1 = nI i ∧ Eo (fun a k => a = 106 ∧ k < 142) φ s.2 ∧ ∀ k, k < i → gi s.2 106 k = nI (c k)) ⟨rfl, Eo.rf, fun i hi => absurd hi (Nat.not_lt_zero _)⟩ ?_ ?_
          · rintro i hi K3 ⟨x6, ψ⟩ ⟨r1, e3, hc3⟩ hK3
            dsimp only at r1 e3 hc3 hK3 ⊢
            subst r1
            unfold w_X12_mean_125
            rw [show (142 : Int32) = nI 142 from rfl, if_neg (by rw [jI_le (by decide) (by omega)]; omega), tn_nI (by omega), e3.1 107 i (fun q => absurd q.1 (by decide)), gc i hi, N1, jI_add]
            refine ⟨vp_nI hi (by decide), vp_nI (by omega) (by decide), ?_⟩
            rintro _ rfl
            refine hK3 _ ⟨rfl, e3.tr (Eo.si ⟨rfl, hi⟩), fun k hk => ?_⟩
            dsimp only
            by_cases hij : k = i
            · rw [hij, gi_si_s]
            · rw [gi_si_k hij]; exact hc3 k (by omega)
          · rintro K3 ⟨x6, ψ⟩ ⟨r1, e3, hc3⟩
            dsimp only at r1 e3 hc3 ⊢
            subst r1
            unfold w_X12_mean_125
            rw [show (142 : Int32) = nI 142 from rfl, if_pos (Int32.le_refl _), N1, jI_add]
            rintro _ rfl
            refine hK _ ⟨rfl, rfl, ?_, fun k hk => ?_, ?_, fun i hi => ?_⟩
            · exact (e.tr (g1.mo (fun a k z => Or.inl z))).tr (e3.mo (fun a k z => Or.inr (Or.inr z)))
            · dsimp only
              by_cases hk2 : k < 142
              · exact hc3 k hk2
              · rw [e3.1 106 k (fun q => hk2 q.2), g3 k hk, g11 k (by omega) (by omega) (by omega)]
            · dsimp only
              rw [e3.1 101 0 (fun q => absurd q.1 (by decide))]; exact g0
            · dsimp only
              rw [e3.1 107 i (fun q => absurd q.1 (by decide))]; exact gc i hi
        · rintro K2 ⟨x3, x5, τ⟩ ⟨r1, r2, e, hmt, hs0, hc⟩
          dsimp only at r1 r2 e hmt hs0 hc ⊢
          subst r1 r2
          have hsm := sumM_le (c := c) (seed := n) m
          unfold w_X12_mean_93
          rw [if_pos (Int32.le_refl _), lI_nI (by omega)]
          refine m_fraction (by omega) (by omega) (by omega) ⟨Or.inr rfl, k1 n m rfl rfl hm1 hm hnm h0 _ ?_ ?_ ?_ ?_ ?_⟩
          · have et : Eo SMe υ τ := (e0.mo (fun a k z => Or.inr (Or.inl z))).tr e
            exact ((((he.mo (fun a k z => Or.inl (Or.inl z))).tr et).mo (fun a k z => Or.inl z)).tr (Eo.sl (Or.inr ⟨rfl, Or.inl rfl⟩))).tr (Eo.sl (Or.inr ⟨rfl, Or.inr rfl⟩))
          · exact fun i hi => by rw [gi_sl, gi_sl]; exact hmt i hi
          · rw [gi_sl, gi_sl]; exact hs0
          · rw [gl_sl_k (by decide), gl_sl_s]
          · rw [gl_sl_s]
    · rw [decide_eq_false hx, if_pos (show bI false = 0 from rfl)]
      refine k5' (fun q => hx ?_)
      obtain ⟨n', m', q1, q2, q3, q4, q5⟩ := q
      have e2 : m = m' := (jI_eq (by omega) (by omega)).mp q2
      exact (in0d hm).mpr ⟨n', by omega, q1⟩
  · rw [decide_eq_false hy, if_pos (show bI false = 0 from rfl)]
    refine k5' (fun q => hy ?_)
    obtain ⟨n', m', q1, q2, q3, q4, q5⟩ := q
    exact in120.mpr ⟨m', q3, q4, q2⟩
