/-! ===== promises 6, 7: write, read ===== -/
def plA (D : TD) (x y : Int32) : Int32 := if ¬ x < 0 ∧ x < nI 4 then (if D.2.1 (tn x) = 0 then 3 else if ¬ y < 0 ∧ y < nI (D.2.1 (tn x) - 1) then 0 else 4) else 1
theorem t_missing {σ : Sto} {D : TD} {P : Int32 → Sto → Prop} (h : TC σ D) {t : Nat} (ht : t < 4) : w_X10_isMissing (nI t) σ P ↔ P (if D.2.1 t = 0 then 1 else 0) σ := by
  obtain ⟨-, -, h3, h4, -⟩ := h t ht
  unfold w_X10_isMissing
  rw [tn_nI (by omega), h3]
  constructor
  · rintro ⟨-, hp⟩
    by_cases hz : D.2.1 t = 0
    · rw [if_neg (fun q => (oI_ge (by omega)).mp q hz)] at hp
      rw [if_pos hz]; exact hp
    · rw [if_pos ((oI_ge (by omega)).mpr hz)] at hp
      rw [if_neg hz]; exact hp
  · intro hp
    refine ⟨vp_nI ht (by decide), ?_⟩
    by_cases hz : D.2.1 t = 0
    · rw [if_pos hz] at hp
      rw [if_neg (fun q => (oI_ge (by omega)).mp q hz)]; exact hp
    · rw [if_neg hz] at hp
      rw [if_pos ((oI_ge (by omega)).mpr hz)]; exact hp
/-- so many numbers from a place on -/
def hasF (m : Nat) (x y : Int32) : Prop := 0 ≤ x.toInt ∧ x.toInt + y.toInt ≤ m
theorem t_hasC {σ : Sto} {D : TD} {P : Int32 → Sto → Prop} (h : TC σ D) {t m : Nat} (ht : t < 4) (hm : D.2.1 t = m + 1) {x y : Int32} (hy : 0 ≤ y.toInt) (k1 : hasF m x y → P 1 σ) (k0 : ¬ hasF m x y → P 0 σ) : w_X10_has (nI t) x y σ P := by
  obtain ⟨-, -, h3, h4, -⟩ := h t ht
  rw [hm] at h3 h4
  have h0 : (0 : Int32).toInt = 0 := by decide
  unfold hasF at k1 k0
  unfold w_X10_has
  rw [tn_nI (by omega), h3, show oI (m + 1) = nI m from rfl]
  by_cases h1 : x < 0
  · rw [if_pos h1]
    rw [Int32.lt_iff_toInt_lt, h0] at h1
    exact k0 (fun q => by omega)
  rw [if_neg h1]
  rw [Int32.lt_iff_toInt_lt, h0] at h1
  refine ⟨vp_nI ht (by decide), ?_⟩
  by_cases h2 : nI m < y
  · rw [if_pos h2]
    rw [Int32.lt_iff_toInt_lt, jI_toInt (by omega)] at h2
    exact k0 (fun q => by omega)
  rw [if_neg h2]
  rw [Int32.lt_iff_toInt_lt, jI_toInt (by omega)] at h2
  have e : (nI m - y).toInt = m - y.toInt := by
    rw [Int32.toInt_sub, jI_toInt (by omega)]
    exact Int.bmod_eq_of_le (by omega) (by omega)
  by_cases h5 : nI m - y < x
  · rw [if_pos h5]
    rw [Int32.lt_iff_toInt_lt, e] at h5
    exact k0 (fun q => by omega)
  · rw [if_neg h5]
    rw [Int32.lt_iff_toInt_lt, e] at h5
    exact k1 ⟨by omega, by omega⟩
theorem c_placeFault {σ : Sto} {D : TD} {P : Int32 → Sto → Prop} (h : TC σ D) {x y : Int32} (k0 : ∀ t k, t < 4 → k + 1 < D.2.1 t → x = nI t → y = nI k → plA D x y = 0 → P 0 σ) (k1 : plA D x y ≠ 0 → P (plA D x y) σ) : w_X11_placeFault x y σ P := by
  unfold w_X11_placeFault
  refine t_isTray (fun hx => ?_) (fun hx => ?_)
  · rw [if_neg (by decide)]
    obtain ⟨t, ht, rfl⟩ := hx
    rw [t_missing h ht]
    have e1 : plA D (nI t) y = if D.2.1 t = 0 then 3 else if ¬ y < 0 ∧ y < nI (D.2.1 t - 1) then 0 else 4 := by
      unfold plA
      rw [ifD_pos ht (by decide), tn_nI (by omega)]
    rw [e1] at k1 k0
    by_cases hz : D.2.1 t = 0
    · rw [if_pos hz] at k1
      rw [if_pos hz, if_neg (by decide)]
      exact k1 (by decide)
    · rw [if_neg hz] at k1 k0
      rw [if_neg hz, if_pos rfl]
      obtain ⟨m, hm⟩ : ∃ m, D.2.1 t = m + 1 := ⟨D.2.1 t - 1, by omega⟩
      have h4 := (h t ht).2.2.2.1
      rw [hm, Nat.add_sub_cancel] at k1 k0
      have hy := inD_iff (x := y) (N := m) (by omega)
      refine t_hasC h ht hm (by decide) (fun hh => ?_) (fun hh => ?_)
      · rw [if_neg (by decide)]
        unfold hasF at hh
        have h1 : (1 : Int32).toInt = 1 := by decide
        rw [h1] at hh
        have hin : ¬ y < 0 ∧ y < nI m := by
          rw [Int32.lt_iff_toInt_lt, Int32.lt_iff_toInt_lt, jI_toInt (by omega)]
          have : (0 : Int32).toInt = 0 := by decide
          omega
        obtain ⟨k, hk, rfl⟩ := hy.mpr hin
        exact k0 t k ht (by omega) rfl rfl (if_pos hin)
      · rw [if_pos rfl]
        have hno : ¬ (¬ y < 0 ∧ y < nI m) := fun q => hh (by
          obtain ⟨k, hk, rfl⟩ := hy.mpr q
          unfold hasF
          rw [jI_toInt (by omega)]
          have h1 : (1 : Int32).toInt = 1 := by decide
          omega)
        rw [if_neg hno] at k1
        exact k1 (by decide)
  · rw [if_pos rfl]
    have e1 : plA D x y = 1 := ifD_neg hx (by decide)
    rw [e1] at k1
    exact k1 (by decide)
theorem m_placed {σ : Sto} {D : TD} {P : Int32 → Sto → Prop} (h : TM σ D) {x y : Int32} (k0 : ∀ t k, t < 4 → k + 1 < D.2.1 t → x = nI t → y = nI k → plA D x y = 0 → P 0 σ) (k1 : (plA D x y = 1 ∨ plA D x y = 3 ∨ plA D x y = 4) → P (plA D x y) σ) : w_X12_placed x y σ P := by
  have hx := inD_iff (x := x) (N := 4) (by decide)
  unfold w_X12_placed w_X12_trayed
  by_cases h1 : x < 0
  · rw [if_pos h1]
    dsimp only
    rw [if_neg (show ¬ (1 : Int32) ≤ 0 by decide)]
    have e1 : plA D x y = 1 := ifD_neg (fun q => (hx.mp q).1 h1) (by decide)
    rw [e1] at k1
    exact k1 (Or.inl rfl)
  rw [if_neg h1, N4]
  by_cases h2 : x < nI 4
  · rw [if_pos h2]
    obtain ⟨t, ht, rfl⟩ := hx.mpr ⟨h1, h2⟩
    obtain ⟨-, -, h3, h4, -⟩ := h t ht
    have e1 : plA D (nI t) y = if D.2.1 t = 0 then 3 else if ¬ y < 0 ∧ y < nI (D.2.1 t - 1) then 0 else 4 := by
      unfold plA
      rw [ifD_pos ht (by decide), tn_nI (by omega)]
    rw [e1] at k1 k0
    rw [tn_nI (by omega), h3]
    refine ⟨vp_nI ht (by decide), ?_⟩
    by_cases hz : D.2.1 t = 0
    · rw [if_pos hz] at k1
      rw [hz, if_neg (show ¬ (0 : Int32) ≤ oI 0 by decide)]
      dsimp only
      rw [if_neg (show ¬ (3 : Int32) ≤ 0 by decide)]
      exact k1 (Or.inr (Or.inl rfl))
    · rw [if_neg hz] at k1 k0
      rw [if_pos ((oI_ge (by omega)).mpr hz)]
      dsimp only
      rw [if_pos (show (0 : Int32) ≤ 0 by decide)]
      obtain ⟨m, hm⟩ : ∃ m, D.2.1 t = m + 1 := ⟨D.2.1 t - 1, by omega⟩
      rw [hm, Nat.add_sub_cancel] at k1 k0
      have hy := inD_iff (x := y) (N := m) (by omega)
      by_cases g1 : y < 0
      · rw [if_neg (fun q => q.1 g1)] at k1
        rw [if_pos g1]
        exact k1 (Or.inr (Or.inr rfl))
      rw [if_neg g1, h3, hm, show oI (m + 1) = nI m from rfl]
      refine ⟨vp_nI ht (by decide), ?_⟩
      by_cases g2 : y < nI m
      · rw [if_pos g2]
        obtain ⟨k, hk, rfl⟩ := hy.mpr ⟨g1, g2⟩
        exact k0 t k ht (by omega) rfl rfl (if_pos ⟨g1, g2⟩)
      · rw [if_neg (fun q => g2 q.2)] at k1
        rw [if_neg g2]
        exact k1 (Or.inr (Or.inr rfl))
  · rw [if_neg h2]
    dsimp only
    rw [if_neg (show ¬ (1 : Int32) ≤ 0 by decide)]
    have e1 : plA D x y = 1 := ifD_neg (fun q => h2 (hx.mp q).2) (by decide)
    rw [e1] at k1
    exact k1 (Or.inl rfl)
def cutF (s : Nat) (v : Int64) : Int64 := if s = 0 then v.toInt32.toInt8.toInt32.toInt64 else if s = 1 then v.toInt32.toInt16.toInt32.toInt64 else if s = 2 then v.toInt32.toInt64 else v
theorem c_cut {σ : Sto} {P : Int64 → Sto → Prop} {s : Nat} {v : Int64} (hs : s ≤ 3) (k : P (cutF s v) σ) : w_X10_cut (nI s) v σ P := by
  unfold w_X10_cut
  rintro sw rfl
  unfold cutF at k
  rw [N0, N1, N2]
  simp only [jI_eq (show s < 2147483648 by omega) (show 0 < 2147483648 by decide), jI_eq (show s < 2147483648 by omega) (show 1 < 2147483648 by decide), jI_eq (show s < 2147483648 by omega) (show 2 < 2147483648 by decide)]
  split <;> rename_i q0
  · rw [if_pos q0] at k; exact k
  · rw [if_neg q0] at k
    split <;> rename_i q1
    · rw [if_pos q1] at k; exact k
    · rw [if_neg q1] at k
      split <;> rename_i q2
      · rw [if_pos q2] at k; exact k
      · rw [if_neg q2] at k; exact k
theorem m_cut {σ : Sto} {P : Int64 → Sto → Prop} {s : Nat} {v : Int64} (hs : s ≤ 3) (k : P (cutF s v) σ) : w_X12_cut (nI s) v σ P := c_cut hs k (nI s) rfl
def putD (D : TD) (t k : Nat) (v : Int64) : TD := (D.1, D.2.1, fun i j => if i = t ∧ j = k then cutF (D.1 t) v else D.2.2 i j)
theorem TC.put {σ : Sto} {D : TD} (h : TC σ D) {t k : Nat} (ht : t < 4) {v : Int64} : TC (sl σ (4 + t) k (cutF (D.1 t) v)) (putD D t k v) := fun t' ht' => by
  obtain ⟨h1, h2, h3, h4, h5⟩ := h t' ht'
  refine ⟨by rw [gi_sl]; exact h1, h2, by rw [gi_sl]; exact h3, h4, fun j hj => ?_⟩
  show gl (sl σ (4 + t) k (cutF (D.1 t) v)) (4 + t') j = if t' = t ∧ j = k then cutF (D.1 t) v else D.2.2 t' j
  by_cases hq : t' = t ∧ j = k
  · obtain ⟨rfl, rfl⟩ := hq
    rw [gl_sl_s, if_pos ⟨rfl, rfl⟩]
  · rw [if_neg hq, gl_sl, if_neg (fun q => hq ⟨by omega, q.2⟩)]
    exact h5 j hj
theorem TM.put {σ : Sto} {D : TD} (h : TM σ D) {t k : Nat} (ht : t < 4) (hk : k < 60) {v : Int64} : TM (sl σ 104 (60 * t + k) (cutF (D.1 t) v)) (putD D t k v) := fun t' ht' => by
  obtain ⟨h1, h2, h3, h4, h5⟩ := h t' ht'
  refine ⟨by rw [gi_sl]; exact h1, h2, by rw [gi_sl]; exact h3, h4, fun j hj => ?_⟩
  have hj' : j + 1 < D.2.1 t' := hj
  show gl (sl σ 104 (60 * t + k) (cutF (D.1 t) v)) 104 (60 * t' + j) = if t' = t ∧ j = k then cutF (D.1 t) v else D.2.2 t' j
  by_cases hq : t' = t ∧ j = k
  · obtain ⟨rfl, rfl⟩ := hq
    rw [gl_sl_s, if_pos ⟨rfl, rfl⟩]
  · rw [if_neg hq, gl_sl_k (by omega)]
    exact h5 j hj
def writeA (D : TD) (x y : Int32) (v : Int64) : Int32 × Int32 × TD := if plA D x y = 0 then (1, 0, putD D (tn x) (tn y) v) else (0, plA D x y, D)
theorem c_write {σ : Sto} {D : TD} {P : Int32 → Sto → Prop} (h : TC σ D) {x y : Int32} {v : Int64} (k : ∀ τ, Eo STr σ τ → TC τ (writeA D x y v).2.2 → gi τ 1 15 = (writeA D x y v).2.1 → P (writeA D x y v).1 τ) : w_X11_write x y v σ P := by
  unfold writeA at k
  unfold w_X11_write
  refine c_placeFault h (fun t i ht hi hx hy e => ?_) (fun e => ?_)
  · rw [if_pos e] at k
    subst hx hy
    obtain ⟨h1, h2, h3, h4, h5⟩ := h t ht
    rw [tn_nI (by omega), tn_nI (by omega)] at k
    rw [if_pos rfl]
    unfold w_X10_put
    rw [tn_nI (by omega), h1, tc_nI (by omega), tn_nI (by omega)]
    refine ⟨vp_nI ht (by decide), c_cut h2 ⟨vp_nI (by omega) (by decide), Or.inr rfl, ?_⟩⟩
    exact k _ ((Eo.sl (Or.inr ⟨by omega, by omega⟩)).tr tst) (h.put ht).st gi_si_s
  · rw [if_neg e] at k
    rw [if_neg e]
    exact ⟨Or.inl rfl, k _ tst h.st gi_si_s⟩
theorem m_write {σ : Sto} {D : TD} {P : Int32 → Sto → Prop} (h : TM σ D) {x y : Int32} {v : Int64} (k : ∀ τ, Eo SMT σ τ → TM τ (writeA D x y v).2.2 → gi τ 101 0 = (writeA D x y v).2.1 → P (writeA D x y v).1 τ) : w_X12_write x y v σ P := by
  unfold writeA at k
  unfold w_X12_write
  have hT : TM (si σ 101 1 0) D := h.st
  refine m_placed hT (fun t i ht hi hx hy e => ?_) (fun e => ?_)
  · rw [if_pos e] at k
    subst hx hy
    rintro σ3 rfl
    have hT2 : TM (si (si σ 101 1 0) 101 0 0) D := hT.st
    obtain ⟨h1, h2, h3, h4, h5⟩ := hT2 t ht
    rw [tn_nI (by omega), tn_nI (by omega)] at k
    rw [gi_si_s, if_pos (by decide), tn_nI (by omega), h1]
    refine ⟨vp_nI ht (by decide), m_cut h2 ?_⟩
    rw [N60, jI_mul, jI_add, tn_nI (by omega)]
    refine ⟨vp_nI (by omega) (by decide), ?_⟩
    refine k _ ((mst1.tr mst0).tr (Eo.sl (Or.inr (Or.inr (Or.inr rfl))))) (hT2.put ht (by omega)) ?_
    rw [gi_sl]
    exact gi_si_s
  · have ene : plA D x y ≠ 0 := by rcases e with e | e | e <;> rw [e] <;> decide
    rw [if_neg ene] at k
    rintro σ3 rfl
    rw [gi_si_s, if_neg (by rcases e with e | e | e <;> rw [e] <;> decide)]
    exact k _ (mst1.tr mst0) hT.st gi_si_s
def readA (D : TD) (x y : Int32) : Int64 × Int32 := if plA D x y = 0 then (D.2.2 (tn x) (tn y), 0) else (-1, plA D x y)
theorem c_read {σ : Sto} {D : TD} {P : Int64 → Sto → Prop} (h : TC σ D) {x y : Int32} (k : ∀ τ, Eo STr σ τ → TC τ D → gi τ 1 15 = (readA D x y).2 → P (readA D x y).1 τ) : w_X11_read x y σ P := by
  unfold readA at k
  unfold w_X11_read
  refine c_placeFault h (fun t i ht hi hx hy e => ?_) (fun e => ?_)
  · rw [if_pos e] at k
    subst hx hy
    obtain ⟨h1, h2, h3, h4, h5⟩ := h t ht
    rw [tn_nI (by omega), tn_nI (by omega)] at k
    rw [if_pos rfl]
    unfold w_X10_number
    rw [tc_nI (by omega), tn_nI (by omega), gl_si, h5 i hi]
    exact ⟨vp_nI ht (by decide), vp_nI (by omega) (by decide), k _ tst h.st gi_si_s⟩
  · rw [if_neg e] at k
    rw [if_neg e]
    exact k _ tst h.st gi_si_s
theorem m_read {σ : Sto} {D : TD} {P : Int64 → Sto → Prop} (h : TM σ D) {x y : Int32} (k : ∀ τ, Eo SMT σ τ → TM τ D → gi τ 101 0 = (readA D x y).2 → P (readA D x y).1 τ) : w_X12_read x y σ P := by
  unfold readA at k
  unfold w_X12_read
  have hT : TM (si σ 101 1 0) D := h.st
  refine m_placed hT (fun t i ht hi hx hy e => ?_) (fun e => ?_)
  · rw [if_pos e] at k
    subst hx hy
    rintro σ3 rfl
    have hT2 : TM (si (si σ 101 1 0) 101 0 0) D := hT.st
    obtain ⟨h1, h2, h3, h4, h5⟩ := hT2 t ht
    rw [tn_nI (by omega), tn_nI (by omega)] at k
    rw [gi_si_s, if_pos (by decide), N60, jI_mul, jI_add, tn_nI (by omega), h5 i hi]
    exact ⟨vp_nI (by omega) (by decide), k _ (mst1.tr mst0) hT2 gi_si_s⟩
  · have ene : plA D x y ≠ 0 := by rcases e with e | e | e <;> rw [e] <;> decide
    rw [if_neg ene] at k
    rintro σ3 rfl
    rw [gi_si_s, if_neg (by rcases e with e | e | e <;> rw [e] <;> decide)]
    exact k _ (mst1.tr mst0) hT.st gi_si_s
