/-! ===== texts: names, faults, numbers in the model ===== -/
theorem stpF_le {t : TKn} : stpF t ≤ 8 := by
  unfold stpF
  split
  · decide
  split
  · decide
  split
  · decide
  split
  · decide
  split
  · decide
  split
  · decide
  split
  · decide
  split
  · decide
  decide
theorem tstF_le {t : TKn} : tstF t ≤ 3 := by
  unfold tstF
  split
  · decide
  split
  · decide
  split
  · decide
  decide
theorem t_isKept {σ : Sto} {t : TKn} {P : Int32 → Sto → Prop} (h : TKM σ t) (hw : tokW t) (h1 : t.1 = 1) (h8 : t.2.2.2.2 ≤ 8) (k1 : kwF t.2.2.2.1 ≠ 0 → P 1 σ) (k0 : kwF t.2.2.2.1 = 0 → P 0 σ) : w_X12_isKept σ P := by
  unfold w_X12_isKept
  refine t_isThing h hw (fun q => ?_) (fun q0 => ?_)
  · rw [if_neg (show ¬ (1 : Int32) = 0 by decide)]
    exact k1 (by rw [q.2.2]; omega)
  rw [if_pos rfl]
  refine t_isWorth h hw (fun q => ?_) (fun q1 => ?_)
  · rw [if_neg (show ¬ (1 : Int32) = 0 by decide)]
    exact k1 (by rw [q.2.2]; omega)
  rw [if_pos rfl]
  refine t_isExemptWord h hw (fun q => ?_) (fun q2 => ?_)
  · rw [if_neg (show ¬ (1 : Int32) = 0 by decide)]
    exact k1 (by rw [q.2.2]; omega)
  rw [if_pos rfl]
  refine t_isMakes h hw (fun q => ?_) (fun q3 => ?_)
  · rw [if_neg (show ¬ (1 : Int32) = 0 by decide)]
    exact k1 (by rw [q.2.2]; omega)
  rw [if_pos rfl]
  refine t_isFrom h hw (fun q => ?_) (fun q4 => ?_)
  · rw [if_neg (show ¬ (1 : Int32) = 0 by decide)]
    exact k1 (by rw [q.2.2]; omega)
  rw [if_pos rfl]
  refine t_isWork h hw (fun q => ?_) (fun q5 => ?_)
  · rw [if_neg (show ¬ (1 : Int32) = 0 by decide)]
    exact k1 (by rw [q.2.2]; omega)
  rw [if_pos rfl]
  refine t_isNeeds h hw (fun q => ?_) (fun q6 => ?_)
  · rw [if_neg (show ¬ (1 : Int32) = 0 by decide)]
    exact k1 (by rw [q.2.2]; omega)
  rw [if_pos rfl]
  refine t_isVoter h hw (fun q => ?_) (fun q7 => ?_)
  · rw [if_neg (show ¬ (1 : Int32) = 0 by decide)]
    exact k1 (by rw [q.2.2]; omega)
  rw [if_pos rfl]
  refine t_isHates h hw (fun q => ?_) (fun q8 => ?_)
  · rw [if_neg (show ¬ (1 : Int32) = 0 by decide)]
    exact k1 (by rw [q.2.2]; omega)
  rw [if_pos rfl]
  refine t_isAhead h hw (fun q => ?_) (fun q9 => ?_)
  · rw [if_neg (show ¬ (1 : Int32) = 0 by decide)]
    exact k1 (by rw [q.2.2]; omega)
  rw [if_pos rfl]
  refine t_isLaw h hw (fun q => ?_) (fun q10 => ?_)
  · rw [if_neg (show ¬ (1 : Int32) = 0 by decide)]
    exact k1 (by rw [q.2.2]; omega)
  rw [if_pos rfl]
  have hs8 := stpF_le (t := t)
  have ht3 := tstF_le (t := t)
  refine t_stepWord h hw (fun q => ?_) (fun qs => ?_)
  · rw [if_pos (by rw [N0, jI_le (by decide) (by omega)]; omega)]
    exact k1 (stpF_kw q).2.2
  rw [if_neg (by decide)]
  refine t_testWord h hw (fun q => ?_) (fun qt => ?_)
  · rw [if_pos (by rw [N0, jI_le (by decide) (by omega)]; omega)]
    exact k1 (tstF_kw q).2.2
  rw [if_neg (by decide)]
  refine t_isEnd h hw (fun q => ?_) (fun qe => ?_)
  · rw [if_neg (show ¬ (1 : Int32) = 0 by decide)]
    exact k1 (by rw [q.2.2]; omega)
  rw [if_pos rfl]
  refine k0 ?_
  have z0 := fun i hi => stpF_0 qs (i := i) hi
  have z1 := fun i hi => tstF_0 qt (i := i) hi
  have a12 := z0 12 (by decide)
  have a13 := z0 13 (by decide)
  have a14 := z0 14 (by decide)
  have a15 := z0 15 (by decide)
  have a16 := z0 16 (by decide)
  have a17 := z0 17 (by decide)
  have a21 := z0 21 (by decide)
  have a23 := z0 23 (by decide)
  have b18 := z1 18 (by decide)
  have b19 := z1 19 (by decide)
  have b20 := z1 20 (by decide)
  have hle := kwF_le (v := t.2.2.2.1)
  unfold isKw at q0 q1 q2 q3 q4 q5 q6 q7 q8 q9 q10 qe
  clear z0 z1 k1 k0 qs qt hs8 ht3 h hw
  generalize kwF t.2.2.2.1 = w at *
  omega
theorem t_isName {σ : Sto} {t : TKn} {P : Int32 → Sto → Prop} (h : TKM σ t) (hw : tokW t) (hl : t.2.2.2.2 ≤ 900) (k1 : isNm t → P 1 σ) (k0 : ¬ isNm t → P 0 σ) : w_X12_isName σ P := by
  have h14 := hw.1
  unfold w_X12_isName
  rw [h.2.2.1, N1]
  by_cases h1 : t.1 = 1
  · rw [if_pos (by rw [h1]), (h.2.2.2.1 h1).1, show (8 : Int32) = nI 8 from rfl]
    by_cases h8 : 8 < t.2.2.2.2
    · rw [if_pos ((jI_lt (by decide) (by omega)).mpr h8)]
      exact k0 (fun q => by have := q.2.1; omega)
    · rw [if_neg (fun q => h8 ((jI_lt (by decide) (by omega)).mp q))]
      refine t_isKept h hw h1 (by omega) (fun q => ?_) (fun q => ?_)
      · rw [if_neg (show ¬ (1 : Int32) = 0 by decide)]
        exact k0 (fun z => q z.2.2)
      · rw [if_pos rfl]
        exact k1 ⟨h1, by omega, q⟩
  · rw [if_neg (by rw [jI_eq (by omega) (by decide)]; exact h1)]
    exact k0 (fun q => h1 q.1)
theorem m_isSign {σ : Sto} {t : TKn} {x : Nat} {P : Int32 → Sto → Prop} (h : TKM σ t) (hw : tokW t) (hx : x < 256) (k1 : isSg t x → P 1 σ) (k0 : ¬ isSg t x → P 0 σ) : w_X12_isSign (nI x) σ P := by
  have h14 := hw.1
  unfold w_X12_isSign
  rw [h.2.2.1, show (3 : Int32) = nI 3 from rfl]
  by_cases h3 : t.1 = 3
  · have hv := hw.2.2.2.1 h3
    rw [if_pos (by rw [h3]), h.2.2.2.2 (Or.inr h3)]
    by_cases he : t.2.2.2.1 = x
    · rw [if_pos (by rw [he])]
      exact k1 ⟨h3, he⟩
    · rw [if_neg (by rw [jI_eq (by omega) (by omega)]; exact he)]
      exact k0 (fun q => he q.2)
  · rw [if_neg (by rw [jI_eq (by omega) (by decide)]; exact h3)]
    exact k0 (fun q => h3 q.1)
theorem m_fail {σ : Sto} {b : Nat} {x y : Int32} {P : Sto → Prop} (hb : gi σ 101 12 = nI b) (hb7 : b ≤ 7) (k1 : b = 0 → ∀ τ, Eo SMf σ τ → gi τ 101 12 = x → gi τ 101 13 = y → P τ) (k0 : b ≠ 0 → P σ) : w_X12_fail x y σ P := by
  unfold w_X12_fail
  rw [hb, N0]
  by_cases h0 : b = 0
  · rw [if_pos (by rw [jI_le (by omega) (by decide)]; omega)]
    exact k1 h0 _ ((Eo.si (by unfold SMf; omega)).tr (Eo.si (by unfold SMf; omega))) (by rw [gi_si_k (by decide), gi_si_s]) gi_si_s
  · rw [if_neg (by rw [jI_le (by omega) (by decide)]; omega)]
    exact k0 h0
theorem m_amiss {σ : Sto} {b : Nat} {t : TKn} {P : Sto → Prop} (h : TKM σ t) (hw : tokW t) (hb : gi σ 101 12 = nI b) (hb7 : b ≤ 7) (k1 : b = 0 → ∀ τ, Eo SMf σ τ → gi τ 101 12 = nI (fkF t 2) → gi τ 101 13 = nI t.2.1 → P τ) (k0 : b ≠ 0 → P σ) : w_X12_amiss σ P := by
  have h14 := hw.1
  unfold w_X12_amiss w_X12_amiss_14
  rw [h.2.2.1, h.1, show (4 : Int32) = nI 4 from rfl]
  unfold fkF at k1
  by_cases h4 : t.1 = 4
  · rw [if_pos h4] at k1
    rw [if_pos (by rw [h4])]
    exact m_fail hb hb7 k1 k0
  · rw [if_neg h4] at k1
    rw [if_neg (by rw [jI_eq (by omega) (by decide)]; exact h4)]
    exact m_fail hb hb7 k1 k0
theorem m_must_bad {σ : Sto} {b : Nat} {x : Int32} {P : Sto → Prop} (hb : gi σ 101 12 = nI b) (hb7 : b ≤ 7) (h0 : b ≠ 0) (k : P σ) : w_X12_must x σ P := by
  unfold w_X12_must
  rw [hb, N0, if_neg (by rw [jI_le (by omega) (by decide)]; omega)]
  exact k
theorem m_must_1 {σ : Sto} {T : Nat → Nat} {n : Nat} {t : TKn} {P : Sto → Prop} (h : RdM σ T n t) (hb : gi σ 101 12 = nI 0) (k : ∀ τ, Eo STm σ τ → RdM τ T n (nxF T n t) → P τ) : w_X12_must 1 σ P := by
  unfold w_X12_must
  rw [hb, if_pos (by decide), if_neg (by decide)]
  exact m_adv h k
theorem m_must_0 {σ : Sto} {T : Nat → Nat} {n : Nat} {t : TKn} {P : Sto → Prop} (h : RdM σ T n t) (hb : gi σ 101 12 = nI 0) (k : ∀ τ, Eo SMf σ τ → gi τ 101 12 = nI (fkF t 2) → gi τ 101 13 = nI t.2.1 → P τ) : w_X12_must 0 σ P := by
  unfold w_X12_must
  rw [hb, if_pos (by decide), if_pos rfl]
  exact m_amiss h.2.1 h.2.2.1 hb (by decide) (fun _ => k) (fun q => absurd rfl q)
theorem in_lI {x lo hi : Nat} (hx : x < 10000) (hl : lo < 10000) (hh : hi < 10000) : ((nI lo).toInt64 ≤ (nI x).toInt64 ∧ (nI x).toInt64 ≤ (nI hi).toInt64) ↔ lo ≤ x ∧ x ≤ hi := by
  rw [Int64.le_iff_toInt_le, Int64.le_iff_toInt_le, i64_int, i64_int, i64_int, jI_toInt (by omega), jI_toInt (by omega), jI_toInt (by omega)]
  omega
theorem m_count_bad {σ : Sto} {b : Nat} {x y : Int32} {P : Int32 → Sto → Prop} (hb : gi σ 101 12 = nI b) (hb7 : b ≤ 7) (h0 : b ≠ 0) (k : P 0 σ) : w_X12_count x y σ P := by
  have n0 : ¬ nI b = 0 := by rw [N0, jI_eq (by omega) (by decide)]; exact h0
  unfold w_X12_count w_X12_count_19 w_X12_count_50
  rw [hb, if_neg n0, if_neg n0, if_neg (by rw [N0, jI_le (by omega) (by decide)]; omega)]
  exact k
theorem m_count {σ : Sto} {T : Nat → Nat} {n lo hi : Nat} {t : TKn} {P : Int32 → Sto → Prop} (h : RdM σ T n t) (hb : gi σ 101 12 = nI 0) (hlo : lo < 10000) (hhi : hi < 10000) (k1 : nmF lo hi t = 0 → t.1 = 2 → lo ≤ t.2.2.2.1 → t.2.2.2.1 ≤ hi → ∀ τ, Eo STm σ τ → RdM τ T n (nxF T n t) → P (nI t.2.2.2.1) τ) (k0 : nmF lo hi t ≠ 0 → ∀ τ, Eo SMf σ τ → gi τ 101 12 = nI (nmF lo hi t) → gi τ 101 13 = nI t.2.1 → P 0 τ) : w_X12_count (nI lo) (nI hi) σ P := by
  have hw := h.2.2.1
  have h14 := hw.1
  unfold nmF at k1 k0
  unfold w_X12_count
  rw [hb, if_pos (show nI 0 = 0 from rfl), h.2.1.2.2.1, show (2 : Int32) = nI 2 from rfl]
  by_cases h2 : t.1 = 2
  · rw [if_pos h2] at k1 k0
    have hv := hw.2.2.1 h2
    rw [if_pos (by rw [h2])]
    unfold w_X12_count_19
    rw [hb, if_pos (show nI 0 = 0 from rfl), h.2.1.2.2.2.2 (Or.inl h2), t_isIn, h.2.1.1]
    by_cases hr : lo ≤ t.2.2.2.1 ∧ t.2.2.2.1 ≤ hi
    · rw [decide_eq_true ((in_lI hv hlo hhi).mpr hr), if_neg (show ¬ bI true = 0 by decide)]
      unfold w_X12_count_50
      rw [hb, if_pos (by decide), h.2.1.2.2.2.2 (Or.inl h2)]
      rintro _ rfl
      exact m_adv h (k1 (if_pos hr) h2 hr.1 hr.2)
    · rw [decide_eq_false (fun q => hr ((in_lI hv hlo hhi).mp q)), if_pos (show bI false = 0 from rfl)]
      rw [if_neg hr] at k0
      refine m_fail hb (by decide) (fun _ τ e g12 g13 => ?_) (fun q => absurd rfl q)
      unfold w_X12_count_50
      rw [g12, if_neg (by decide)]
      exact k0 (by decide) τ e g12 g13
  · rw [if_neg h2] at k1 k0
    rw [if_neg (by rw [jI_eq (by omega) (by decide)]; exact h2)]
    refine m_amiss h.2.1 hw hb (by decide) (fun _ τ e g12 g13 => ?_) (fun q => absurd rfl q)
    have hf : fkF t 2 ≠ 0 ∧ fkF t 2 ≤ 7 := by unfold fkF; split <;> decide
    unfold w_X12_count_19 w_X12_count_50
    rw [g12, if_neg (by rw [N0, jI_eq (by omega) (by decide)]; exact hf.1), if_neg (by rw [N0, jI_le (by omega) (by decide)]; omega)]
    exact k0 hf.1 τ e g12 g13
