/-! ===== texts: words of the model ===== -/
def isKw (t : TKn) (k : Nat) : Prop := t.1 = 1 ∧ t.2.2.2.2 ≤ 8 ∧ kwF t.2.2.2.1 = k + 1
def isNm (t : TKn) : Prop := t.1 = 1 ∧ t.2.2.2.2 ≤ 8 ∧ kwF t.2.2.2.1 = 0
theorem kwS_is {v k : Nat} : ∀ j, kwS v j = k + 1 → kwN k = v
  | 0, h => by
    have h' : 0 = k + 1 := h
    omega
  | j + 1, h => by
    rw [kwS_s] at h
    by_cases q : kwS v j = 0 ∧ kwN j = v
    · rw [if_pos q] at h
      have : j = k := by omega
      rw [← this]; exact q.2
    · rw [if_neg q] at h
      exact kwS_is j h
theorem kw_inj : ∀ i, i < 23 → ∀ j, j < 23 → kwN i = kwN j → i = j := by decide +kernel
theorem kwF_iff {v k : Nat} (hk : k < 23) : kwF v = k + 1 ↔ v = kwN k := by
  constructor
  · intro h
    exact (kwS_is 23 h).symm
  · intro h
    have h0 : ∀ j, j ≤ k → kwS v j = 0 := fun j => by
      induction j with
      | zero => exact fun _ => rfl
      | succ j ih =>
        intro hj
        rw [kwS_s, if_neg (fun q => ?_)]
        · exact ih (by omega)
        · have := kw_inj j (by omega) k hk (by rw [q.2, h])
          omega
    have h1 : kwS v (k + 1) = k + 1 := by rw [kwS_s, if_pos ⟨h0 k (Nat.le_refl _), h.symm⟩]
    unfold kwF
    rw [show (23 : Nat) = (k + 1) + (22 - k) by omega, kwS_up (by rw [h1]; omega), h1]
theorem kwF_le {v : Nat} : kwF v ≤ 23 := kwS_le 23
def splF (p q r s t u : Nat) : Nat := (fun w => if u = 0 then w else w * 32 + u - 96) ((fun w => if t = 0 then w else w * 32 + t - 96) ((fun w => if s = 0 then w else w * 32 + s - 96) ((fun w => if r = 0 then w else w * 32 + r - 96) ((p - 96) * 32 + q - 96))))
theorem sp_step {w x : Nat} (hx : 97 ≤ x ∧ x ≤ 122) : lI w * 32 + (nI x).toInt64 - 96 = lI (w * 32 + x - 96) := by
  rw [lI_nI (by omega), show (32 : Int64) = lI 32 from rfl, show (96 : Int64) = lI 96 from rfl, lI_mul, lI_add, lI_sub (by omega)]
def okL (x : Nat) : Prop := x = 0 ∨ (97 ≤ x ∧ x ≤ 122)
theorem t_spelled {σ : Sto} {p q r s t u : Nat} {P : Int64 → Sto → Prop} (hp : 97 ≤ p ∧ p ≤ 122) (hq : 97 ≤ q ∧ q ≤ 122) (hr : okL r) (hs : okL s) (ht : okL t) (hu : okL u) (k : P (lI (splF p q r s t u)) σ) : w_X12_spelled (nI p) (nI q) (nI r) (nI s) (nI t) (nI u) σ P := by
  have le0 : ∀ x, okL x → (nI x ≤ 0 ↔ x = 0) := fun x hx => by
    rw [N0, jI_le (by unfold okL at hx; omega) (by decide)]
    omega
  have a3 : ∀ w, k = k → P (lI ((fun w => if u = 0 then w else w * 32 + u - 96) w)) σ → w_X12_spelled_91 (nI u) (lI w) σ P := fun w _ h => by
    unfold w_X12_spelled_91
    by_cases h0 : u = 0
    · rw [if_pos ((le0 u hu).mpr h0)]
      dsimp only at h
      rw [if_pos h0] at h; exact h
    · rw [if_neg (fun q => h0 ((le0 u hu).mp q)), sp_step (by unfold okL at hu; omega)]
      dsimp only at h
      rw [if_neg h0] at h; exact h
  have a2 : ∀ w, P (lI ((fun w => if u = 0 then w else w * 32 + u - 96) ((fun w => if t = 0 then w else w * 32 + t - 96) w))) σ → w_X12_spelled_65 (nI t) (nI u) (lI w) σ P := fun w h => by
    unfold w_X12_spelled_65
    by_cases h0 : t = 0
    · rw [if_pos ((le0 t ht).mpr h0)]
      refine a3 _ rfl ?_
      dsimp only at h ⊢
      rw [if_pos h0] at h; exact h
    · rw [if_neg (fun q => h0 ((le0 t ht).mp q)), sp_step (by unfold okL at ht; omega)]
      refine a3 _ rfl ?_
      dsimp only at h ⊢
      rw [if_neg h0] at h; exact h
  have a1 : ∀ w, P (lI ((fun w => if u = 0 then w else w * 32 + u - 96) ((fun w => if t = 0 then w else w * 32 + t - 96) ((fun w => if s = 0 then w else w * 32 + s - 96) w)))) σ → w_X12_spelled_41 (nI s) (nI t) (nI u) (lI w) σ P := fun w h => by
    unfold w_X12_spelled_41
    by_cases h0 : s = 0
    · rw [if_pos ((le0 s hs).mpr h0)]
      refine a2 _ ?_
      dsimp only at h ⊢
      rw [if_pos h0] at h; exact h
    · rw [if_neg (fun q => h0 ((le0 s hs).mp q)), sp_step (by unfold okL at hs; omega)]
      refine a2 _ ?_
      dsimp only at h ⊢
      rw [if_neg h0] at h; exact h
  unfold w_X12_spelled
  rintro x6 h6
  have e6 : x6 = lI ((p - 96) * 32 + q - 96) := by
    rw [h6, lI_nI (by omega), show (96 : Int64) = lI 96 from rfl, lI_sub (by omega)]
    exact sp_step hq
  rw [e6]
  unfold splF at k
  by_cases h0 : r = 0
  · rw [if_pos ((le0 r hr).mpr h0)]
    refine a1 _ ?_
    dsimp only at k ⊢
    rw [if_pos h0] at k; exact k
  · rw [if_neg (fun q => h0 ((le0 r hr).mp q)), sp_step (by unfold okL at hr; omega)]
    refine a1 _ ?_
    dsimp only at k ⊢
    rw [if_neg h0] at k; exact k
theorem t_isWord {σ : Sto} {t : TKn} {k : Nat} {P : Int32 → Sto → Prop} (h : TKM σ t) (hv : t.2.2.2.2 ≤ 8 → t.1 = 1 → t.2.2.2.1 < 2 ^ 40) (hk : k < 23) (h14 : t.1 ≤ 4) (k1 : isKw t k → P 1 σ) (k0 : ¬ isKw t k → P 0 σ) : w_X12_isWord (lI (kwN k)) σ P := by
  obtain ⟨h15, h16, hkd, hw, -⟩ := h
  have hkl := kw_lt k hk
  unfold w_X12_isWord
  rw [hkd, N1]
  by_cases h1 : t.1 = 1
  · rw [if_pos (by rw [h1]), (hw h1).2]
    by_cases h8 : t.2.2.2.2 ≤ 8
    · rw [if_pos h8]
      have hvv := hv h8 h1
      by_cases he : t.2.2.2.1 = kwN k
      · rw [if_pos (by rw [lg_eq, he])]
        exact k1 ⟨h1, h8, (kwF_iff hk).mpr he⟩
      · rw [if_neg (by rw [lg_eq, lI_eq (by omega) (by omega)]; exact he)]
        exact k0 (fun q => he ((kwF_iff hk).mp q.2.2))
    · rw [if_neg h8, if_neg (by rw [lg_eq]; exact fun q => lI_m1 (show kwN k < 9223372036854775808 by omega) q.symm)]
      exact k0 (fun q => h8 q.2.1)
  · rw [if_neg (by rw [jI_eq (by omega) (by decide)]; exact h1)]
    exact k0 (fun q => h1 q.1)
