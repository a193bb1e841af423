/-! ===== promise 50: clash; the least over orders, from either end ===== -/
def mnS (w : Nat → Nat → Nat) (rec : Nat → Nat) (s b t : Nat) : Nat := if s.testBit t = true then Nat.min (rec (sd s (2 ^ t)) + w t (sd s (2 ^ t))) b else b
def mnF (n : Nat) (w : Nat → Nat → Nat) : Nat → Nat → Nat
  | 0, _ => 0
  | k + 1, s => if s = 0 then 0 else foldN (mnS w (mnF n w k) s) 144 n
theorem mnF_st {n : Nat} {w : Nat → Nat → Nat} : ∀ k s, s < 4096 → card s ≤ k → mnF n w (k + 1) s = mnF n w k s
  | 0, s, hs, hk => by
    rw [card_zero hs hk]
    rfl
  | k + 1, s, hs, hk => by
    show (if s = 0 then 0 else foldN (mnS w (mnF n w (k + 1)) s) 144 n) = (if s = 0 then 0 else foldN (mnS w (mnF n w k) s) 144 n)
    by_cases h0 : s = 0
    · rw [if_pos h0, if_pos h0]
    · rw [if_neg h0, if_neg h0]
      refine foldN_congr n (fun t _ a => ?_)
      unfold mnS
      by_cases hc : s.testBit t = true
      · have := sd_two_card hs hc
        rw [if_pos hc, if_pos hc, mnF_st k _ (sd_12' hs) (by omega)]
      · rw [if_neg hc, if_neg hc]
def MN (n : Nat) (w : Nat → Nat → Nat) (s : Nat) : Nat := mnF n w 12 s
theorem MN_eq {n : Nat} {w : Nat → Nat → Nat} {s : Nat} (hs : s < 4096) : MN n w s = if s = 0 then 0 else foldN (mnS w (MN n w) s) 144 n := by
  unfold MN
  rw [← mnF_st 12 s hs card_le]
  rfl
theorem mn_low {w : Nat → Nat → Nat} {rec : Nat → Nat} {s b t : Nat} (hb : s.testBit t = true) : ∀ n, t < n → foldN (mnS w rec s) b n ≤ rec (sd s (2 ^ t)) + w t (sd s (2 ^ t))
  | 0, h => absurd h (Nat.not_lt_zero _)
  | n + 1, h => by
    show (if s.testBit n = true then Nat.min (rec (sd s (2 ^ n)) + w n (sd s (2 ^ n))) (foldN (mnS w rec s) b n) else foldN (mnS w rec s) b n) ≤ _
    by_cases hn : t = n
    · subst hn
      rw [if_pos hb]
      exact Nat.min_le_left _ _
    · have ih := mn_low (w := w) (rec := rec) (b := b) hb n (by omega)
      split
      · exact Nat.le_trans (Nat.min_le_right _ _) ih
      · exact ih
theorem mn_wit {w : Nat → Nat → Nat} {rec : Nat → Nat} {s b : Nat} : ∀ n, foldN (mnS w rec s) b n = b ∨ ∃ t, t < n ∧ s.testBit t = true ∧ foldN (mnS w rec s) b n = rec (sd s (2 ^ t)) + w t (sd s (2 ^ t))
  | 0 => Or.inl rfl
  | n + 1 => by
    show (if s.testBit n = true then Nat.min (rec (sd s (2 ^ n)) + w n (sd s (2 ^ n))) (foldN (mnS w rec s) b n) else foldN (mnS w rec s) b n) = b ∨ ∃ t, t < n + 1 ∧ s.testBit t = true ∧ (if s.testBit n = true then Nat.min (rec (sd s (2 ^ n)) + w n (sd s (2 ^ n))) (foldN (mnS w rec s) b n) else foldN (mnS w rec s) b n) = rec (sd s (2 ^ t)) + w t (sd s (2 ^ t))
    have ih := mn_wit (w := w) (rec := rec) (s := s) (b := b) n
    by_cases hb : s.testBit n = true
    · rw [if_pos hb]
      by_cases hl : rec (sd s (2 ^ n)) + w n (sd s (2 ^ n)) ≤ foldN (mnS w rec s) b n
      · refine Or.inr ⟨n, by omega, hb, ?_⟩
        show min _ _ = _
        omega
      · have : Nat.min (rec (sd s (2 ^ n)) + w n (sd s (2 ^ n))) (foldN (mnS w rec s) b n) = foldN (mnS w rec s) b n := by show min _ _ = _; omega
        rw [this]
        rcases ih with h | ⟨t, h1, h2, h3⟩
        · exact Or.inl h
        · exact Or.inr ⟨t, by omega, h2, h3⟩
    · rw [if_neg hb]
      rcases ih with h | ⟨t, h1, h2, h3⟩
      · exact Or.inl h
      · exact Or.inr ⟨t, by omega, h2, h3⟩
theorem MN_le {n : Nat} {w : Nat → Nat → Nat} (hn : n ≤ 12) (hw : ∀ t r, w t r ≤ 12) : ∀ m s, card s ≤ m → s < 2 ^ n → MN n w s ≤ 12 * card s
  | 0, s, hm, hs => by
    have h12 := p12 hs hn
    rw [MN_eq h12, if_pos (card_zero h12 hm)]
    exact Nat.zero_le _
  | m + 1, s, hm, hs => by
    have h12 := p12 hs hn
    rw [MN_eq h12]
    by_cases h0 : s = 0
    · rw [if_pos h0]; exact Nat.zero_le _
    rw [if_neg h0]
    obtain ⟨t, ht⟩ := bit_of h0
    have h1 := mn_low (w := w) (rec := MN n w) (b := 144) ht n (bit_n hs ht)
    have h2 := sd_two_card h12 ht
    have h3 := MN_le hn hw m (sd s (2 ^ t)) (by omega) (sub_lt sub_sd hs)
    have h4 := hw t (sd s (2 ^ t))
    omega
theorem MN_low {n : Nat} {w : Nat → Nat → Nat} (hn : n ≤ 12) {s t : Nat} (hs : s < 2 ^ n) (ht : s.testBit t = true) : MN n w s ≤ MN n w (sd s (2 ^ t)) + w t (sd s (2 ^ t)) := by
  have h12 := p12 hs hn
  rw [MN_eq h12, if_neg (fun e => by rw [e, Nat.zero_testBit] at ht; cases ht)]
  exact mn_low ht n (bit_n hs ht)
theorem MN_wit {n : Nat} {w : Nat → Nat → Nat} (hn : n ≤ 12) (hw : ∀ t r, w t r ≤ 12) {s : Nat} (hs : s < 2 ^ n) (h0 : s ≠ 0) : ∃ t, s.testBit t = true ∧ MN n w s = MN n w (sd s (2 ^ t)) + w t (sd s (2 ^ t)) := by
  have h12 := p12 hs hn
  have e : MN n w s = foldN (mnS w (MN n w) s) 144 n := by rw [MN_eq h12, if_neg h0]
  rcases mn_wit (w := w) (rec := MN n w) (s := s) (b := 144) n with h | ⟨t, h1, h2, h3⟩
  · obtain ⟨t, ht⟩ := bit_of h0
    have h1 := MN_low (w := w) hn hs ht
    have h2 := sd_two_card h12 ht
    have h3 := MN_le hn hw 12 (sd s (2 ^ t)) card_le (sub_lt sub_sd hs)
    have h4 := hw t (sd s (2 ^ t))
    have h5 := card_le (a := s)
    exact ⟨t, ht, by omega⟩
  · exact ⟨t, h2, by rw [e]; exact h3⟩
theorem MN_both {n : Nat} {w v : Nat → Nat → Nat} (hn : n ≤ 12) (hw : ∀ t r, w t r ≤ 12) (hv : ∀ s t, s < 2 ^ n → s.testBit t = true → w t (sd s (2 ^ t)) = v t (sd (allF n) s)) : ∀ m s, card s ≤ m → s < 2 ^ n → MN n v (allF n) ≤ MN n w s + MN n v (sd (allF n) s)
  | 0, s, hm, hs => by
    rw [card_zero (p12 hs hn) hm, sd_0]
    exact Nat.le_add_left _ _
  | m + 1, s, hm, hs => by
    by_cases h0 : s = 0
    · rw [h0, sd_0]
      exact Nat.le_add_left _ _
    obtain ⟨t, ht, he⟩ := MN_wit hn hw hs h0
    have h2 := sd_two_card (p12 hs hn) ht
    have ih := MN_both hn hw hv m (sd s (2 ^ t)) (by omega) (sub_lt sub_sd hs)
    have hall : allF n < 2 ^ n := by have := Nat.two_pow_pos n; show 2 ^ n - 1 < _; omega
    have htn := bit_n hs ht
    have hb : (sd (allF n) (sd s (2 ^ t))).testBit t = true := by
      rw [sd_bit, sd_bit, allF_bit, two_bit]
      simp [htn]
    have e1 : sd (sd (allF n) (sd s (2 ^ t))) (2 ^ t) = sd (allF n) s := by
      apply Nat.eq_of_testBit_eq
      intro k
      rw [sd_bit, sd_bit, sd_bit, sd_bit, two_bit]
      by_cases hk : t = k
      · subst hk; simp [ht]
      · simp [hk]
    have h3 := MN_low (w := v) hn (sub_lt (sub_sd (a := allF n) (b := sd s (2 ^ t))) hall) hb
    rw [e1] at h3
    have h4 := hv s t hs ht
    omega
/-- those told ahead of t that are in a set; that are not -/
def wI (c : Nat → Nat) (t r : Nat) : Nat := card (c (130 + t) &&& r)
def wO (c : Nat → Nat) (t r : Nat) : Nat := card (sd (c (130 + t)) r)
theorem wIO {c : Nat → Nat} (ok : OK c) {s t : Nat} (hs : s < 2 ^ c 0) (ht : s.testBit t = true) : wI c t (sd s (2 ^ t)) = wO c t (sd (allF (c 0)) s) := by
  have htn := bit_n hs ht
  unfold wI wO
  congr 1
  apply Nat.eq_of_testBit_eq
  intro k
  rw [Nat.testBit_and, sd_bit, sd_bit, sd_bit, allF_bit, two_bit]
  cases hk : (c (130 + t)).testBit k
  · rfl
  · have h1 := bit_n (ok.ahead t htn) hk
    have h2 : t ≠ k := fun e => by rw [← e, ok.aheadn t htn] at hk; cases hk
    simp [h1, h2]
theorem wOI {c : Nat → Nat} (ok : OK c) {s t : Nat} (hs : s < 2 ^ c 0) (ht : s.testBit t = true) : wO c t (sd s (2 ^ t)) = wI c t (sd (allF (c 0)) s) := by
  have htn := bit_n hs ht
  unfold wI wO
  congr 1
  apply Nat.eq_of_testBit_eq
  intro k
  rw [Nat.testBit_and, sd_bit, sd_bit, sd_bit, allF_bit, two_bit]
  cases hk : (c (130 + t)).testBit k
  · rfl
  · have h1 := bit_n (ok.ahead t htn) hk
    have h2 : t ≠ k := fun e => by rw [← e, ok.aheadn t htn] at hk; cases hk
    simp [h1, h2]
theorem clash_eq {c : Nat → Nat} (ok : OK c) : MN (c 0) (wI c) (allF (c 0)) = MN (c 0) (wO c) (allF (c 0)) := by
  have hn := ok.n0
  have hall : allF (c 0) < 2 ^ c 0 := by have := Nat.two_pow_pos (c 0); show 2 ^ c 0 - 1 < _; omega
  have z : sd (allF (c 0)) (allF (c 0)) = 0 := sd_zero.mpr sub.rf
  have zz : ∀ w, MN (c 0) w 0 = 0 := fun w => by rw [MN_eq (by decide)]; rfl
  have h1 := MN_both hn (w := wI c) (v := wO c) (fun t r => card_le) (fun s t => wIO ok) 12 (allF (c 0)) card_le hall
  have h2 := MN_both hn (w := wO c) (v := wI c) (fun t r => card_le) (fun s t => wOI ok) 12 (allF (c 0)) card_le hall
  rw [z, zz] at h1 h2
  omega
def clashA (c : Nat → Nat) : Int32 × Int32 := (nI (MN (c 0) (wO c) (allF (c 0))), 0)
theorem sd_two_no {s t : Nat} (h : s.testBit t = false) : sd s (2 ^ t) = s := by
  apply Nat.eq_of_testBit_eq
  intro m
  rw [sd_bit, two_bit]
  by_cases hm : t = m
  · subst hm; simp [h]
  · simp [hm]
theorem c_clash {σ : Sto} {c : Nat → Nat} {P : Int32 → Sto → Prop} {N : Nat} (h : KW N σ c) (ok : OK c) (k : ∀ τ, Eo SQ σ τ → KW N τ c → gi τ 1 15 = (clashA c).2 → P (clashA c).1 τ) : w_X11_clash σ P := by
  have := ok.n0
  have hp := pw12 ok
  have hp1 := Nat.two_pow_pos (c 0)
  have hle : ∀ s, s < 2 ^ c 0 → MN (c 0) (wI c) s ≤ 144 := fun s hs => by
    have h1 := MN_le ok.n0 (w := wI c) (fun t r => card_le) 12 s card_le hs
    have h2 := card_le (a := s)
    omega
  unfold clashA at k
  rw [← clash_eq ok] at k
  unfold w_X11_clash w_X4_fewestUntrue
  refine ⟨h.p95.1, ?_⟩
  rw [show gi σ (gr σ 95 3) 8 = nI (c 0) from h.p95.2.1 0 (by decide), bit1 (by omega)]
  rintro x3 rfl
  refine Lp_for (2 ^ c 0 - 1) (fun j q => q.1 = nI (j + 1) ∧ Eo SX σ q.2 ∧ ∀ r, r ≤ j → gi q.2 87 r = nI (MN (c 0) (wI c) r)) ⟨rfl, Eo.si (Or.inl rfl), fun r hr => ?_⟩ ?_ ?_
  · have : r = 0 := by omega
    subst this
    dsimp only
    rw [gi_si_s, MN_eq (by decide)]
    rfl
  · rintro j hj K ⟨x4, τ⟩ ⟨r4, e1, hr⟩ hK
    dsimp only at r4 e1 hr hK ⊢
    subst r4
    have hs : j + 1 < 4096 := by omega
    have heq := MN_eq (n := c 0) (w := wI c) hs
    rw [if_neg (by omega)] at heq
    have hw := h.ex e1
    unfold w_X4_fewestUntrue_19
    rw [if_neg (by rw [jI_le (by omega) (by omega)]; omega)]
    refine Lp_det (c 0) (fun i => (nI (foldN (mnS (wI c) (MN (c 0) (wI c)) (j + 1)) 144 i), nI i, τ)) rfl (fun i hi K2 hK2 => ?_) (fun K2 => ?_)
    · have hn : ¬ c 0 ≤ i := by omega
      have hb : gi τ (gr τ 95 3 + 7) i = nI (c (130 + i)) := hw.p95.2.2.2.2.2.2.2 i hi
      have hst : foldN (mnS (wI c) (MN (c 0) (wI c)) (j + 1)) 144 (i + 1) = if (j + 1).testBit i = true then Nat.min (MN (c 0) (wI c) (sd (j + 1) (2 ^ i)) + wI c i (sd (j + 1) (2 ^ i))) (foldN (mnS (wI c) (MN (c 0) (wI c)) (j + 1)) 144 i) else foldN (mnS (wI c) (MN (c 0) (wI c)) (j + 1)) 144 i := rfl
      rw [hst] at hK2
      have hfl : foldN (mnS (wI c) (MN (c 0) (wI c)) (j + 1)) 144 i ≤ 144 := foldN_inv (f := mnS (wI c) (MN (c 0) (wI c)) (j + 1)) (a := 144) (fun _ b => b ≤ 144) (Nat.le_refl _) (fun t b hb => by
        unfold mnS; split
        · exact Nat.le_trans (Nat.min_le_right _ _) hb
        · exact hb) i
      generalize foldN (mnS (wI c) (MN (c 0) (wI c)) (j + 1)) 144 i = a at hK2 hfl ⊢
      have hsd := sd_12' (b := 2 ^ i) hs
      dsimp only
      unfold w_X4_fewestUntrue_31
      refine ⟨hw.p95.1, ?_⟩
      rw [show gi τ (gr τ 95 3) 8 = nI (c 0) from hw.p95.2.1 0 (by decide), if_neg (by rw [jI_le (by omega) (by omega)]; exact hn), bit1 (by omega), jI_andn, tn_nI (by omega), hb]
      rintro x5 rfl
      cases hbi : (j + 1).testBit i
      · simp only [hbi, Bool.false_eq_true, ↓reduceIte] at hK2
        rw [if_pos (by rw [sd_two_no hbi])]
        rintro x rfl
        rw [N1, jI_add]
        exact hK2
      · simp only [hbi, ↓reduceIte] at hK2
        have hlt := sd_two_lt hbi
        rw [if_neg (by rw [jI_eq (by omega) (by omega)]; omega)]
        refine ⟨vp_nI hsd (by decide), vp_nI (by omega) (by decide), ?_⟩
        rw [jI_and, t_bitCount12 (and_12 (p12 (ok.ahead i hi) ok.n0)), tn_nI (by omega), hr _ (by omega), show card (c (130 + i) &&& sd (j + 1) (2 ^ i)) = wI c i (sd (j + 1) (2 ^ i)) from rfl, jI_add]
        have h3 := hle (sd (j + 1) (2 ^ i)) (by omega)
        have h4 : wI c i (sd (j + 1) (2 ^ i)) ≤ 12 := card_le
        rw [jI_min (by omega) (by omega), N1, jI_add]
        rintro x rfl
        rintro y rfl
        exact hK2
    · dsimp only
      unfold w_X4_fewestUntrue_31
      refine ⟨hw.p95.1, ?_⟩
      rw [show gi τ (gr τ 95 3) 8 = nI (c 0) from hw.p95.2.1 0 (by decide), if_pos (by rw [jI_le (by omega) (by omega)]; exact Nat.le_refl _)]
      refine ⟨vp_nI hs (by decide), ?_⟩
      rw [tn_nI (by omega), ← heq, N1, jI_add]
      rintro x rfl
      refine hK _ ⟨rfl, e1.tr (Eo.si (Or.inl rfl)), fun r hrj => ?_⟩
      dsimp only
      by_cases hre : r = j + 1
      · subst hre; exact gi_si_s
      · rw [gi_si_k hre]; exact hr r (by omega)
  · rintro K ⟨x4, τ⟩ ⟨r4, e1, hr⟩
    dsimp only at r4 e1 hr ⊢
    subst r4
    unfold w_X4_fewestUntrue_19
    rw [if_pos (by rw [jI_le (by omega) (by omega)]; omega), N1, jI_sub (by omega)]
    refine ⟨vp_nI (by omega) (by decide), ?_⟩
    rw [tn_nI (by omega), hr _ (Nat.le_refl _)]
    exact k _ ((e1.mo (fun _ _ => SXq)).tr stq) (h.ex e1).st gi_si_s
def S117 (a k : Nat) : Prop := a = 117 ∧ 1 ≤ k
theorem S117m {a k : Nat} (h : S117 a k) : SM a k := by unfold S117 at h; unfold SM; omega
theorem m_clash {σ : Sto} {c : Nat → Nat} {P : Int32 → Sto → Prop} (h : MR σ c) (ok : OK c) (hz : gi σ 117 0 = 0) (k : ∀ τ, Eo SM σ τ → gi τ 101 0 = (clashA c).2 → P (clashA c).1 τ) : w_X12_clash σ P := by
  have := ok.n0
  have hp := pw12 ok
  have hp1 := Nat.two_pow_pos (c 0)
  have hall : allF (c 0) = 2 ^ c 0 - 1 := rfl
  have hle : ∀ s, s < 2 ^ c 0 → MN (c 0) (wO c) s ≤ 144 := fun s hs => by
    have h1 := MN_le ok.n0 (w := wO c) (fun t r => card_le) 12 s card_le hs
    have h2 := card_le (a := s)
    omega
  have hst0 : gi (si (si σ 101 1 0) 101 0 0) 101 0 = 0 := gi_si_s
  have hs0 : MR (si (si σ 101 1 0) 101 0 0) c := h.sm sm10
  have he : Eo SM σ (si (si σ 101 1 0) 101 0 0) := sm10
  have hz0 : gi (si (si σ 101 1 0) 101 0 0) 117 0 = 0 := by rw [gi_si_a (by decide), gi_si_a (by decide)]; exact hz
  unfold w_X12_clash
  generalize si (si σ 101 1 0) 101 0 0 = υ at hst0 hs0 he hz0 ⊢
  rw [t_allThings hs0 ok]
  refine Lp_for (2 ^ c 0 - 1) (fun j q => q.1 = nI (j + 1) ∧ Eo S117 υ q.2 ∧ ∀ r, r ≤ j → gi q.2 117 r = nI (MN (c 0) (wO c) r)) ⟨rfl, Eo.rf, fun r hr => ?_⟩ ?_ ?_
  · have : r = 0 := by omega
    subst this
    dsimp only
    rw [hz0, MN_eq (by decide)]
    rfl
  · rintro j hj K ⟨x4, τ⟩ ⟨r4, e1, hr⟩ hK
    dsimp only at r4 e1 hr hK ⊢
    subst r4
    have hs : j + 1 < 4096 := by omega
    have heq := MN_eq (n := c 0) (w := wO c) hs
    rw [if_neg (by omega)] at heq
    unfold w_X12_clash_17
    rw [if_neg (by rw [jI_lt (by omega) (by omega)]; omega)]
    refine ⟨vp_nI hs (by decide), ?_⟩
    rw [tn_nI (by omega)]
    refine Lp_for (c 0) (fun i q => q.1 = nI i ∧ Eo (fun a k => a = 117 ∧ k = j + 1) τ q.2 ∧ ((foldN (mnS (wO c) (MN (c 0) (wO c)) (j + 1)) 144 i = 144 ∧ gi q.2 117 (j + 1) = -1 ∧ ∀ t, t < i → (j + 1).testBit t = false) ∨ gi q.2 117 (j + 1) = nI (foldN (mnS (wO c) (MN (c 0) (wO c)) (j + 1)) 144 i))) ⟨rfl, Eo.si ⟨rfl, rfl⟩, Or.inl ⟨rfl, gi_si_s, fun t ht => absurd ht (Nat.not_lt_zero _)⟩⟩ ?_ ?_
    · rintro i hi K2 ⟨x3, φ⟩ ⟨r3, e2, hv⟩ hK2
      dsimp only at r3 e2 hv hK2 ⊢
      subst r3
      have hn : ¬ c 0 ≤ i := by omega
      have hm : MR φ c := (hs0.sm (e1.mo (fun _ _ => S117m))).sm (e2.mo (T := SM) (fun a k q => S117m ⟨q.1, by omega⟩))
      have hst : foldN (mnS (wO c) (MN (c 0) (wO c)) (j + 1)) 144 (i + 1) = if (j + 1).testBit i = true then Nat.min (MN (c 0) (wO c) (sd (j + 1) (2 ^ i)) + wO c i (sd (j + 1) (2 ^ i))) (foldN (mnS (wO c) (MN (c 0) (wO c)) (j + 1)) 144 i) else foldN (mnS (wO c) (MN (c 0) (wO c)) (j + 1)) 144 i := rfl
      rw [hst] at hK2
      have hfl : foldN (mnS (wO c) (MN (c 0) (wO c)) (j + 1)) 144 i ≤ 144 := foldN_inv (f := mnS (wO c) (MN (c 0) (wO c)) (j + 1)) (a := 144) (fun _ b => b ≤ 144) (Nat.le_refl _) (fun t b hb => by
        unfold mnS; split
        · exact Nat.le_trans (Nat.min_le_right _ _) hb
        · exact hb) i
      generalize foldN (mnS (wO c) (MN (c 0) (wO c)) (j + 1)) 144 i = a at hK2 hfl hv ⊢
      have hsd := sd_12' (b := 2 ^ i) hs
      unfold w_X12_clash_31
      rw [hm 0 (by decide), if_neg (by rw [jI_le (by omega) (by omega)]; exact hn), t_has (by omega)]
      cases hbi : (j + 1).testBit i
      · simp only [hbi, Bool.false_eq_true, ↓reduceIte] at hK2
        rw [if_pos (show bI false = 0 from rfl), N1, jI_add]
        rintro x rfl
        refine hK2 _ ⟨rfl, e2, ?_⟩
        rcases hv with ⟨v1, v2, v3⟩ | v1
        · refine Or.inl ⟨v1, v2, fun t ht => ?_⟩
          by_cases hti : t = i
          · rw [hti]; exact hbi
          · exact v3 t (by omega)
        · exact Or.inr v1
      · simp only [hbi, ↓reduceIte] at hK2
        have hlt := sd_two_lt hbi
        have h3 := hle (sd (j + 1) (2 ^ i)) (by omega)
        have h4 : wO c i (sd (j + 1) (2 ^ i)) ≤ 12 := card_le
        rw [if_neg (show ¬ bI true = 0 by decide), bit1 (by omega), jI_andn]
        rintro x4 rfl
        refine ⟨vp_nI hsd (by decide), ?_⟩
        rw [N130, jI_add, tn_nI (by omega), hm _ (by omega), jI_andn]
        refine ⟨vp_nI (by omega) (by decide), t_sizeOf12 (sd_12' (p12 (ok.ahead i hi) ok.n0)) ?_⟩
        rw [tn_nI (by omega), e2.1 117 _ (by omega), hr _ (by omega), show card (sd (c (130 + i)) (sd (j + 1) (2 ^ i))) = wO c i (sd (j + 1) (2 ^ i)) from rfl, jI_add]
        rintro x5 rfl
        refine ⟨vp_nI hs (by decide), ?_⟩
        rw [tn_nI (by omega)]
        have h5 : MN (c 0) (wO c) (sd (j + 1) (2 ^ i)) + wO c i (sd (j + 1) (2 ^ i)) ≤ 144 := by
          have h6 := MN_le ok.n0 (w := wO c) (fun t r => card_le) 12 (sd (j + 1) (2 ^ i)) card_le (show sd (j + 1) (2 ^ i) < 2 ^ c 0 by omega)
          have h7 := sd_two_card hs hbi
          have h8 := card_le (a := j + 1)
          omega
        rcases hv with ⟨v1, v2, v3⟩ | v1
        · rw [v2, if_neg (by decide), N1, jI_add]
          rintro x rfl
          refine hK2 _ ⟨rfl, e2.tr (Eo.si ⟨rfl, rfl⟩), Or.inr ?_⟩
          dsimp only
          rw [gi_si_s, v1]
          congr 1
          show _ = min _ _
          omega
        · rw [v1, if_pos (show (0 : Int32) ≤ nI a by rw [N0, jI_le (by decide) (by omega)]; omega), jI_min (by omega) (by omega), N1, jI_add]
          rintro x rfl
          exact hK2 _ ⟨rfl, e2.tr (Eo.si ⟨rfl, rfl⟩), Or.inr gi_si_s⟩
    · rintro K2 ⟨x3, φ⟩ ⟨r3, e2, hv⟩
      dsimp only at r3 e2 hv ⊢
      subst r3
      have hm : MR φ c := (hs0.sm (e1.mo (fun _ _ => S117m))).sm (e2.mo (T := SM) (fun a k q => S117m ⟨q.1, by omega⟩))
      unfold w_X12_clash_31
      rw [hm 0 (by decide), if_pos (by rw [jI_le (by omega) (by omega)]; exact Nat.le_refl _), N1, jI_add]
      rintro x rfl
      refine hK _ ⟨rfl, e1.tr (e2.mo (fun a k q => ⟨q.1, by omega⟩)), fun r hrj => ?_⟩
      dsimp only
      by_cases hre : r = j + 1
      · rcases hv with ⟨v1, v2, v3⟩ | v1
        · obtain ⟨t, ht⟩ := bit_of (show j + 1 ≠ 0 by omega)
          have := v3 t (bit_n (show j + 1 < 2 ^ c 0 by omega) ht)
          rw [this] at ht
          cases ht
        · rw [hre, v1, heq]
      · rw [e2.1 117 r (by omega)]; exact hr r (by omega)
  · rintro K ⟨x4, τ⟩ ⟨r4, e1, hr⟩
    dsimp only at r4 e1 hr ⊢
    subst r4
    unfold w_X12_clash_17
    rw [if_pos (by rw [jI_lt (by omega) (by omega)]; omega)]
    refine ⟨vp_nI (by omega) (by decide), ?_⟩
    rw [tn_nI (by omega), hr _ (by omega)]
    exact k _ (he.tr (e1.mo (fun _ _ => S117m))) (by rw [e1.1 101 0 (by unfold S117; omega)]; exact hst0)
