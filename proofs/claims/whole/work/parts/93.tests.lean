/-! ===== centuries: a test ===== -/
def cmpT (a n g : Nat) : Bool := if g = 60 then decide (a < n) else if g = 62 then decide (n < a) else decide (a = n)
/-- kind of test, thing or wish, number, sign -/
def soF (c : Nat → Nat) (k t n g : Nat) : Bool := if k = 0 then (nowF c).testBit t else if k = 1 then (doneF c (nowF c)).testBit t else cmpT (sumF c (openF c) t) n g
theorem sum_le {c : Nat → Nat} (ok : OK c) {s t : Nat} (ht : t < c 0) : sumF c s t ≤ 54 := by
  have n0 := ok.n0
  have n3 := ok.n3
  have h := hatF_le ok (t := t) (by omega) (c 3) (Nat.le_refl _)
  unfold sumF sumN
  split <;> omega
theorem t_cmp {a n g : Nat} {A B : Prop} (ha : a ≤ 54) (hn : n ≤ 99) (hg : g = 60 ∨ g = 61 ∨ g = 62) (k1 : cmpT a n g = true → A) (k0 : cmpT a n g = false → B) : if nI g = 60 then (if nI n ≤ nI a then B else A) else (if nI g = 62 then (if nI a ≤ nI n then B else A) else (if nI a = nI n then A else B)) := by
  rw [show (60 : Int32) = nI 60 from rfl, show (62 : Int32) = nI 62 from rfl]
  unfold cmpT at k1 k0
  simp only [jI_eq (show g < 2147483648 by omega) (show 60 < 2147483648 by decide), jI_eq (show g < 2147483648 by omega) (show 62 < 2147483648 by decide), jI_le (show n < 2147483648 by omega) (show a < 2147483648 by omega), jI_le (show a < 2147483648 by omega) (show n < 2147483648 by omega), jI_eq (show a < 2147483648 by omega) (show n < 2147483648 by omega)]
  rcases hg with rfl | rfl | rfl
  · rw [if_pos rfl] at k1 k0 ⊢
    by_cases h : n ≤ a
    · rw [if_pos h]; exact k0 (decide_eq_false (by omega))
    · rw [if_neg h]; exact k1 (decide_eq_true (by omega))
  · rw [if_neg (by decide), if_neg (by decide)] at k1 k0 ⊢
    by_cases h : a = n
    · rw [if_pos h]; exact k1 (decide_eq_true h)
    · rw [if_neg h]; exact k0 (decide_eq_false h)
  · rw [if_neg (by decide), if_pos rfl] at k1 k0 ⊢
    by_cases h : a ≤ n
    · rw [if_pos h]; exact k0 (decide_eq_false (by omega))
    · rw [if_neg h]; exact k1 (decide_eq_true (by omega))
theorem isStory.rg {a : Nat} (h : isStory a) : 21 ≤ a ∧ a + 5 ≤ 86 := by
  rcases h with rfl | rfl | rfl | rfl | rfl <;> omega
theorem sum_c {c : Nat → Nat} {t : Nat} : sumF c (openF c) t = if (openF c).testBit t then hatF c (c 3) t else 0 := rfl
theorem c_isSo {σ : Sto} {c : Nat → Nat} {P : Int32 → Sto → Prop} {N : Nat} (h : KW N σ c) (ok : OK c) (hN : N ≤ 2000) {a1 L kd t n g : Nat} (hs : isStory a1) (hl : L < 60) (hk : kd ≤ 2) (hv : gi σ (a1 + 1) L = nI (7 + kd)) (ho : gi σ (a1 + 2) L = nI t) (h1 : kd = 1 → t < c 2) (h0 : kd ≠ 1 → t < c 0) (h2 : kd = 2 → gi σ (a1 + 3) L = nI g ∧ (g = 60 ∨ g = 61 ∨ g = 62) ∧ gi σ (a1 + 4) L = nI n ∧ n ≤ 99) (k : ∀ τ, Eo S89 σ τ → KW N τ c → P (bI (soF c kd t n g)) τ) : w_X3_isSo a1 (nI L) σ P := by
  have n0 := ok.n0
  have n2 := ok.n2
  have ht : t < 32 := by
    by_cases q : kd = 1
    · have := h1 q; omega
    · have := h0 q; omega
  unfold w_X3_isSo
  refine ⟨hs, vp_nI (by omega) (by decide), ?_⟩
  rw [tn_nI (by omega), ho]
  rintro _ rfl
  refine t_atPresent h.kb.1 ok hN (fun τ e hS => ?_)
  have hw := h.e89 e hS
  have hr := hs.rg
  have kk := k τ e hw
  rw [e.1 (a1 + 1) L (by unfold S89; omega), hv, jI_31 ht]
  rw [show (7 : Int32) = nI 7 from rfl, show (8 : Int32) = nI 8 from rfl, N0, N1]
  unfold soF at kk
  by_cases q0 : kd = 0
  · rw [if_pos q0] at kk
    rw [if_pos (by rw [q0])]
    cases hb : (nowF c).testBit t
    · rw [if_pos ((jI_bit0 ht).mpr hb)]; rw [hb] at kk; exact kk
    · rw [if_neg (by rw [jI_bit0 ht, hb]; decide)]; rw [hb] at kk; exact kk
  rw [if_neg q0] at kk
  rw [if_neg (by rw [jI_eq (by omega) (by decide)]; omega)]
  by_cases q1 : kd = 1
  · rw [if_pos q1] at kk
    rw [if_pos (by rw [q1])]
    refine t_doable hS.1 hS.2.1 ok ?_
    cases hb : (doneF c (nowF c)).testBit t
    · rw [if_pos ((jI_bit0 ht).mpr hb)]; rw [hb] at kk; exact kk
    · rw [if_neg (by rw [jI_bit0 ht, hb]; decide)]; rw [hb] at kk; exact kk
  rw [if_neg q1] at kk
  rw [if_neg (by rw [jI_eq (by omega) (by decide)]; omega)]
  obtain ⟨g1, g2, g3, g4⟩ := h2 (by omega)
  have htc := h0 q1
  have hle := sum_le ok (s := openF c) htc
  have fin : ∀ a, a = sumF c (openF c) t → w_X3_isSo_106 a1 (nI L) (nI a) τ P := by
    intro a ea
    rw [← ea] at kk hle
    unfold w_X3_isSo_106
    refine ⟨hs, vp_nI (by omega) (by decide), ?_⟩
    rw [tn_nI (by omega), e.1 (a1 + 3) L (by unfold S89; omega), e.1 (a1 + 4) L (by unfold S89; omega), g1, g3]
    rintro _ rfl
    rintro _ rfl
    refine t_cmp hle g4 g2 (fun q => ?_) (fun q => ?_)
    · rw [q] at kk; exact kk
    · rw [q] at kk; exact kk
  refine ⟨by rw [hw.r97]; exact hw.1, ?_⟩
  rw [hw.r97, show gi τ (gr τ 1 11) 15 = nI (c 7) from hw.f (k := 7) (by decide), jI_andn]
  rw [sum_c] at fin
  show if (nI (openF c) >>> nI t) &&& nI 1 = nI 0 then _ else _
  cases hb : (openF c).testBit t
  · rw [hb] at fin
    rw [if_pos ((jI_bit0 ht).mpr hb)]
    exact fin 0 rfl
  · rw [hb] at fin
    rw [if_neg (by rw [jI_bit0 ht, hb]; decide)]
    refine t_hatredOf ⟨by rw [hw.2.2.1]; exact hw.1, by rw [hw.2.2.1]; exact hw.cr⟩ ok htc ?_
    exact fin _ rfl
theorem m_isSo {σ : Sto} {c : Nat → Nat} {P : Int32 → Sto → Prop} (h : MR σ c) (ok : OK c) {s : Nat} (hs : s < 30) (hk : c (150 + 9 * s) ≤ 2) (h1 : c (150 + 9 * s) = 1 → c (145 + 9 * s) < c 2) (h0 : c (150 + 9 * s) ≠ 1 → c (145 + 9 * s) < c 0) (h2 : c (150 + 9 * s) = 2 → (c (151 + 9 * s) = 60 ∨ c (151 + 9 * s) = 61 ∨ c (151 + 9 * s) = 62) ∧ c (146 + 9 * s) ≤ 99) (k : ∀ τ, Eo (fun b _ => b = 109) σ τ → P (bI (soF c (c (150 + 9 * s)) (c (145 + 9 * s)) (c (146 + 9 * s)) (c (151 + 9 * s)))) τ) : w_X12_isSo (nI (144 + 9 * s)) σ P := by
  have n0 := ok.n0
  have n2 := ok.n2
  unfold w_X12_isSo
  have a6 : nI (144 + 9 * s) + 6 = nI (150 + 9 * s) := (jI_add (b := 6)).trans (by congr 1; omega)
  have a1 : nI (144 + 9 * s) + 1 = nI (145 + 9 * s) := (jI_add (b := 1)).trans (by congr 1; omega)
  have a2 : nI (144 + 9 * s) + 2 = nI (146 + 9 * s) := (jI_add (b := 2)).trans (by congr 1; omega)
  have a7 : nI (144 + 9 * s) + 7 = nI (151 + 9 * s) := (jI_add (b := 7)).trans (by congr 1; omega)
  rw [a6, a1, a2, a7]
  have v : ∀ i, i < 421 → vp_in (nI i) 2105 := fun i hi => vp_nI (by omega) (by decide)
  refine ⟨v _ (by omega), ?_⟩
  rw [tn_nI (by omega), tn_nI (by omega), tn_nI (by omega), tn_nI (by omega), h _ (by omega)]
  rintro _ rfl
  have h45 := h (145 + 9 * s) (by omega)
  have h46 := h (146 + 9 * s) (by omega)
  have h51 := h (151 + 9 * s) (by omega)
  generalize c (150 + 9 * s) = kd at hk h1 h0 h2 k ⊢
  generalize c (145 + 9 * s) = t at h1 h0 h45 k ⊢
  have ht : t < 32 := by
    by_cases q : kd = 1
    · have := h1 q; omega
    · have := h0 q; omega
  unfold soF at k
  by_cases q0 : kd = 0
  · rw [if_pos q0] at k
    rw [if_pos (by rw [q0]; rfl)]
    refine t_now h ok ?_
    refine ⟨v _ (by omega), ?_⟩
    rw [h45, t_has ht]
    refine ⟨?_, k σ Eo.rf⟩
    cases (nowF c).testBit t
    · exact Or.inl rfl
    · exact Or.inr rfl
  rw [if_neg q0] at k
  rw [if_neg (by rw [N0, jI_eq (by omega) (by decide)]; omega)]
  by_cases q1 : kd = 1
  · rw [if_pos q1] at k
    rw [if_pos (by rw [q1]; rfl)]
    refine t_now h ok ?_
    refine t_doneBy h ok ?_
    refine ⟨v _ (by omega), ?_⟩
    rw [h45, t_has ht]
    refine ⟨?_, k σ Eo.rf⟩
    cases (doneF c (nowF c)).testBit t
    · exact Or.inl rfl
    · exact Or.inr rfl
  rw [if_neg q1] at k
  rw [if_neg (by rw [N1, jI_eq (by omega) (by decide)]; omega)]
  have htc := h0 q1
  obtain ⟨g2, g4⟩ := h2 (by omega)
  have hle := sum_le ok (s := openF c) htc
  refine t_inVote h ok ?_
  refine t_sums h ok (openF_lt ok) (fun τ e hg => ?_)
  have f : ∀ i, gi τ 106 i = gi σ 106 i := fun i => e.1 106 i (fun q => absurd (show (106 : Nat) = 109 from q) (by decide))
  have kk := k τ e
  refine ⟨v _ (by omega), ?_⟩
  rw [f, f, f, h45, h46, h51]
  refine ⟨vp_nI (by omega) (by decide), ?_⟩
  rw [tn_nI (by omega), hg t (by omega)]
  rintro _ rfl
  refine ⟨v _ (by omega), ?_⟩
  have hz := t_cmp (A := P 1 τ) (B := P 0 τ) hle g4 g2 (fun q => by rw [q] at kk; exact kk) (fun q => by rw [q] at kk; exact kk)
  have hv : vp_in (nI (146 + 9 * s)) 2105 := v _ (by omega)
  by_cases z1 : nI (c (151 + 9 * s)) = 60
  · rw [if_pos z1] at hz ⊢
    exact ⟨hv, hz⟩
  · rw [if_neg z1] at hz ⊢
    by_cases z2 : nI (c (151 + 9 * s)) = 62
    · rw [if_pos z2] at hz ⊢
      exact ⟨hv, hz⟩
    · rw [if_neg z2] at hz ⊢
      exact ⟨hv, hz⟩
