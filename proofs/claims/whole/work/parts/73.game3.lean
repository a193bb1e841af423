/-! ===== promises 41, 42: the model's game ===== -/
theorem m_whyGame {σ : Sto} {c : Nat → Nat} {P : Int32 → Sto → Prop} (h : MR σ c) (ok : OK c) {x y : Int32} (k5 : (∀ A, gamB c x y A = (-1, 5)) → P 5 σ) (k0 : ∀ w n, w < 2 ^ c 2 → 1 ≤ n → n ≤ 4 → x = nI w → y = nI n → P 0 σ) : w_X12_whyNoGame x y σ P := by
  have := pw6 ok
  have := ok.n2
  unfold w_X12_whyNoGame
  rw [h 2 (by decide), bit1 (by omega), t_isIn]
  by_cases hx : inD x (2 ^ c 2)
  · rw [decide_eq_true ((rangeI (by omega)).mpr hx), if_neg (show ¬ bI true = 0 by decide), t_isIn]
    obtain ⟨w, hw, rfl⟩ := hx
    by_cases hy : ¬ y < 1 ∧ y ≤ 4
    · rw [decide_eq_true (in14L.mpr hy), if_neg (show ¬ bI true = 0 by decide)]
      obtain ⟨n, a, b, rfl⟩ := in14.mp hy
      exact k0 w n hw a b rfl rfl
    · rw [decide_eq_false (fun q => hy (in14L.mp q)), if_pos (show bI false = 0 from rfl)]
      exact k5 (fun A => gamB_y hy)
  · rw [decide_eq_false (fun q => hx ((rangeI (by omega)).mp q)), if_pos (show bI false = 0 from rfl)]
    exact k5 (fun A => gamB_x ok hx)
theorem sm33 {σ : Sto} {v : Int32} : Eo SM σ (si σ 101 33 v) := Eo.si (by unfold SM; omega)
theorem m_game {σ : Sto} {c : Nat → Nat} {P : Int32 → Sto → Prop} (h : MR σ c) (ok : OK c) {x y : Int32} (k : ∀ τ, Eo SM σ τ → gi τ 101 0 = (gameA c x y).2 → P (gameA c x y).1 τ) : w_X12_game x y σ P := by
  unfold gameA at k
  unfold w_X12_game
  refine m_whyGame (h.sm sm1) ok (fun e => ?_) (fun w n hw h1 h4 hx hy => ?_)
  · rw [e] at k
    rintro σ3 rfl
    rw [gi_si_s, if_neg (by decide)]
    exact k _ sm10 gi_si_s
  · subst hx hy
    rw [gamB_pos ok hw h1 h4] at k
    rintro σ3 rfl
    have hm : MR (si (si σ 101 1 0) 101 0 0) c := h.sm sm10
    rw [gi_si_s, if_pos (by decide), hm 6 (by decide)]
    have hp := m_plays ok (works := w) 16 n (c 6) true true (si (si σ 101 1 0) 101 0 0) (fun r s => P r s) (by omega) h4 ok.n6 hm (by
      rw [if_pos ⟨rfl, by omega⟩]
      refine k _ (sm10.tr sm33) ?_
      rw [gi_si_k (by decide)]
      exact gi_si_s)
    exact hp
theorem m_firstMove {σ : Sto} {c : Nat → Nat} {P : Int32 → Sto → Prop} (h : MR σ c) (ok : OK c) {x y : Int32} (k : ∀ τ, Eo SM σ τ → gi τ 101 0 = (firstMoveA c x y).2 → P (firstMoveA c x y).1 τ) : w_X12_firstMove x y σ P := by
  have := ok.n0
  unfold firstMoveA at k
  unfold w_X12_firstMove
  refine m_whyGame (h.sm sm1) ok (fun e => ?_) (fun w n hw h1 h4 hx hy => ?_)
  · rw [e] at k
    rintro σ3 rfl
    rw [gi_si_s, if_neg (by decide)]
    exact k _ sm10 gi_si_s
  · subst hx hy
    rw [gamB_pos ok hw h1 h4] at k
    rintro σ3 rfl
    have hm : MR (si (si σ 101 1 0) 101 0 0) c := h.sm sm10
    rw [gi_si_s, if_pos (by decide), hm 6 (by decide)]
    have hp := m_plays ok (works := w) 16 n (c 6) true true (si (si σ 101 1 0) 101 0 0) (fun r_7 σ_6 => (if 0 ≤ (gi σ_6 101 33) then P (gi σ_6 101 33) σ_6 else w_X12_refuse 8 σ_6 (fun r_10 σ_9 => P r_10 σ_9))) (by omega) h4 ok.n6 hm (by
      have hz : ∀ (s t : Sto), (if true = true ∧ n ≠ 0 then s else t) = s := fun s t => if_pos ⟨rfl, by omega⟩
      rw [hz, gi_si_s]
      have htp := tp_fold (f := true) (op := opF c (c 6)) (v := fun t => plF c w (n - 1) (c 6 ||| 2 ^ t) (!true)) (fun t => plF_le ok _ _ _) (c 0)
      have hle : fmF c w (n - 1) (c 6) true ≤ c 0 := by
        unfold fmF
        rcases htp with ⟨a, -⟩ | ⟨-, a, -⟩ <;> omega
      refine m_or2 (m := fmF c w (n - 1) (c 6) true) (by omega) (sm10.tr sm33) ?_ k
      rw [gi_si_k (by decide)]
      exact gi_si_s)
    exact hp
