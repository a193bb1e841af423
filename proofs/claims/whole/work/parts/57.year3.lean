theorem range1 {x : Int32} {hi : Int64} (hh : hi.toInt = 99) : ((1 : Int64) ≤ x.toInt64 ∧ x.toInt64 ≤ hi) ↔ (¬ x < 1 ∧ x < nI 100) := by
  have h3 : (1 : Int32).toInt = 1 := by decide
  have h4 : (1 : Int64).toInt = 1 := by decide
  rw [Int64.le_iff_toInt_le, Int64.le_iff_toInt_le, i64_int, hh, h4, Int32.lt_iff_toInt_lt, Int32.lt_iff_toInt_lt, h3, jI_toInt (by decide)]
  omega
theorem m_year {σ : Sto} {c : Nat → Nat} {P : Int32 → Sto → Prop} (h : MR σ c) (ok : OK c) {x : Int32} (k : ∀ τ, Eo SMD σ τ → MR τ (yearA c x).2.2 → gi τ 101 0 = (yearA c x).2.1 → P (yearA c x).1 τ) : w_X12_year x σ P := by
  have := ok.n0
  have := ok.n5
  have hs : MR (si (si σ 101 1 0) 101 0 0) c := h.sm sm10
  unfold w_X12_year
  rw [t_isIn]
  by_cases hx : ¬ x < 1 ∧ x < nI 100
  · rw [decide_eq_true ((range1 (by decide)).mpr hx)]
    have e1 : yearA c x = (if c 5 + tn x ≤ 9999 then (nI (sd (gN c (c 6) (c 7) (tn x)) (c 6)), 0, yearsC c (tn x)) else (-1, 7, c)) := if_pos hx
    obtain ⟨n, hn1, hn, rfl⟩ := one_lt hx.1 hx.2
    rw [tn_nI (by omega)] at e1
    rw [e1] at k
    rw [if_neg (by decide), hs 5 (by decide), jI_add, show (9999 : Int32) = nI 9999 from rfl]
    by_cases hd : c 5 + n ≤ 9999
    · rw [if_pos (by rw [jI_le (by omega) (by decide)]; exact hd)]
      rw [if_pos hd] at k
      rw [hs 6 (by decide)]
      rintro x2 rfl
      refine Lp_for n (fun j q => q.1 = nI j ∧ Eo SMD σ q.2 ∧ MR q.2 (yearsC c j) ∧ gi q.2 101 0 = 0) ⟨rfl, smd sm10, by dsimp only; rw [yearsC_0 ok]; exact hs, gi_si_s⟩ ?_ ?_
      · rintro j hj K ⟨x3, τ⟩ ⟨r3, e, hm, hst⟩ hK
        dsimp only at r3 e hm hst hK ⊢
        subst r3
        unfold w_X12_year_59
        rw [if_neg (by rw [jI_le (by omega) (by omega)]; omega)]
        refine t_goesYear hm (yearsC_OK ok (by omega)) (fun υ e2 h2 hst2 => ?_)
        rintro x rfl
        refine hK _ ⟨jI_add, e.tr e2, ?_, by dsimp only; rw [hst2]; exact hst⟩
        dsimp only
        rw [← yearsC_s ok]
        exact h2
      · rintro K ⟨x3, τ⟩ ⟨r3, e, hm, hst⟩
        dsimp only at r3 e hm hst ⊢
        subst r3
        unfold w_X12_year_59
        rw [if_pos (by rw [jI_le (by omega) (by omega)]; exact Nat.le_refl _), hm 6 (by decide), yearsC_6, jI_andn]
        exact k _ e hm hst
    · rw [if_neg (by rw [jI_le (by omega) (by decide)]; exact hd)]
      rw [if_neg hd] at k
      exact k _ (smd (sm10.tr sm0)) (hs.sm sm0) gi_si_s
  · rw [decide_eq_false (fun q => hx ((range1 (by decide)).mp q)), if_pos (by decide)]
    have e1 : yearA c x = (-1, 5, c) := if_neg hx
    rw [e1] at k
    exact k _ (smd (sm10.tr sm0)) (hs.sm sm0) gi_si_s
theorem year_OK {c : Nat → Nat} (ok : OK c) {x : Int32} : OK (yearA c x).2.2 := by
  unfold yearA
  split
  · split
    · rename_i h; exact yearsC_OK ok h
    · exact ok
  · exact ok
theorem grudge_OK {c : Nat → Nat} (ok : OK c) {x y z : Int32} : OK (grudgeA c x y z).2.2 := by
  have := ok.n0
  have := ok.n3
  by_cases hx : inD x (c 3)
  · obtain ⟨v, hv, rfl⟩ := hx
    by_cases hy : inD y (c 0)
    · obtain ⟨t, ht, rfl⟩ := hy
      by_cases hz : inD z 10
      · obtain ⟨m, hm, rfl⟩ := hz
        have e : grudgeA c (nI v) (nI t) (nI m) = (1, 0, updC c (58 + 12 * v + t) m) := by unfold grudgeA; rw [ifD_pos hv (by omega), ifD_pos ht (by omega), ifD_pos hm (by decide), tn_nI (by omega), tn_nI (by omega), tn_nI (by omega)]
        rw [e]
        exact ok.grudge hv ht (by omega)
      · have e : grudgeA c (nI v) (nI t) z = (0, 5, c) := by unfold grudgeA; rw [ifD_pos hv (by omega), ifD_pos ht (by omega), ifD_neg hz (by decide)]
        rw [e]; exact ok
    · have e : grudgeA c (nI v) y z = (0, 2, c) := by unfold grudgeA; rw [ifD_pos hv (by omega), ifD_neg hy (by omega)]
      rw [e]; exact ok
  · rw [show grudgeA c x y z = (0, 2, c) from ifD_neg hx (by omega)]; exact ok
