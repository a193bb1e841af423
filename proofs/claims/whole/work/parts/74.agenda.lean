/-! ===== promises 39, 40: the agenda ===== -/
theorem jI_pv {f e : Nat} (he : sub e f) (hf : f < 4096) : (nI (sd f e) - 1) &&& nI f = nI (sd f (nxN f e)) := by
  have hd : sub (sd f e) f := sub_sd
  apply Int32.toBitVec_inj.mp
  rw [N1, Int32.toBitVec_and, Int32.toBitVec_sub, jI_toBV, jI_toBV, jI_toBV, jI_toBV]
  have e0 : BitVec.ofNat 32 (sd f e) - BitVec.ofNat 32 1 = ~~~(-(BitVec.ofNat 32 (sd f e))) := by
    rw [BitVec.neg_eq_not_add, BitVec.not_add_one]
    rw [BitVec.not_not]
  have e1 : BitVec.ofNat 32 (nxN f e) = -(BitVec.ofNat 32 (sd f e)) &&& BitVec.ofNat 32 f := by
    unfold nxN
    rw [BitVec.ofNat_toNat, BitVec.setWidth_eq]
    congr 1
    have h2 : BitVec.ofNat 32 e &&& BitVec.ofNat 32 (sd f e) = 0#32 := by
      apply BitVec.eq_of_getLsbD_eq
      intro k hk
      rw [BitVec.getLsbD_and, BitVec.getLsbD_ofNat, BitVec.getLsbD_ofNat, sd_bit]
      cases e.testBit k <;> simp
    have h3 : BitVec.ofNat 32 f = BitVec.ofNat 32 e + BitVec.ofNat 32 (sd f e) := by
      rw [BitVec.add_eq_or_of_and_eq_zero _ _ h2]
      apply BitVec.eq_of_getLsbD_eq
      intro k hk
      rw [BitVec.getLsbD_or, BitVec.getLsbD_ofNat, BitVec.getLsbD_ofNat, BitVec.getLsbD_ofNat, sd_bit]
      have := he k
      cases h1 : e.testBit k <;> cases h2 : f.testBit k <;> simp_all
    rw [BitVec.sub_eq_iff_eq_add, h3]
    generalize BitVec.ofNat 32 e = u
    generalize BitVec.ofNat 32 (sd f e) = v
    rw [BitVec.add_comm u v, ← BitVec.add_assoc, BitVec.add_comm (-v) v, BitVec.add_right_neg, BitVec.zero_add]
  have e2 : BitVec.ofNat 32 (sd f (nxN f e)) = BitVec.ofNat 32 f &&& ~~~(BitVec.ofNat 32 (nxN f e)) := by
    apply BitVec.eq_of_getLsbD_eq
    intro k hk
    rw [BitVec.getLsbD_and, BitVec.getLsbD_not, BitVec.getLsbD_ofNat, BitVec.getLsbD_ofNat, BitVec.getLsbD_ofNat, sd_bit, decide_eq_true hk]
    simp
  rw [e0, e2, e1]
  generalize -(BitVec.ofNat 32 (sd f e)) = u
  generalize BitVec.ofNat 32 f = v
  apply BitVec.eq_of_getLsbD_eq
  intro k hk
  simp only [BitVec.getLsbD_and, BitVec.getLsbD_not, hk, decide_true, Bool.true_and]
  cases u.getLsbD k <;> cases v.getLsbD k <;> rfl
/-- how many works can be done, of told things so many unmade more -/
def wdF (c : Nat → Nat) (D : Nat) : Nat := card (doneF c (upF c (c 6 ||| D)))
def agS (val : Nat → Nat) (L : Nat) (p : Nat × Nat) (t : Nat) : Nat × Nat := if L.testBit t = true ∧ (p.1 = 0 ∨ p.2 < val t) then (t + 1, val t) else p
def agV (c : Nat → Nat) (f : Nat) : Nat → Nat → Nat
  | 0, _ => 0
  | k + 1, L => if L = 0 then 0 else (foldN (agS (fun t => wdF c (sd f (sd L (2 ^ t))) + agV c f k (sd L (2 ^ t))) L) (0, 0) (c 0)).2
theorem agV_st {c : Nat → Nat} {f : Nat} : ∀ k L, L < 4096 → card L ≤ k → agV c f (k + 1) L = agV c f k L
  | 0, L, hs, hk => by
    rw [card_zero hs hk]
    rfl
  | k + 1, L, hs, hk => by
    show (if L = 0 then 0 else (foldN (agS (fun t => wdF c (sd f (sd L (2 ^ t))) + agV c f (k + 1) (sd L (2 ^ t))) L) (0, 0) (c 0)).2) = (if L = 0 then 0 else (foldN (agS (fun t => wdF c (sd f (sd L (2 ^ t))) + agV c f k (sd L (2 ^ t))) L) (0, 0) (c 0)).2)
    by_cases h0 : L = 0
    · rw [if_pos h0, if_pos h0]
    · rw [if_neg h0, if_neg h0]
      congr 1
      refine foldN_congr (c 0) (fun t _ p => ?_)
      unfold agS
      by_cases hc : L.testBit t = true
      · have := sd_two_card hs hc
        have e1 := agV_st (c := c) (f := f) k (sd L (2 ^ t)) (sd_12' hs) (by omega)
        simp only [e1]
      · rw [if_neg (fun q => hc q.1), if_neg (fun q => hc q.1)]
def AV (c : Nat → Nat) (f L : Nat) : Nat := agV c f 12 L
def valF (c : Nat → Nat) (f L t : Nat) : Nat := wdF c (sd f (sd L (2 ^ t))) + AV c f (sd L (2 ^ t))
def agP (c : Nat → Nat) (f L n : Nat) : Nat × Nat := foldN (agS (valF c f L) L) (0, 0) n
theorem AV_eq {c : Nat → Nat} {f L : Nat} (hL : L < 4096) : AV c f L = if L = 0 then 0 else (agP c f L (c 0)).2 := by
  unfold AV
  rw [← agV_st 12 L hL card_le]
  rfl
theorem agP_s {c : Nat → Nat} {f L n : Nat} : agP c f L (n + 1) = if L.testBit n = true ∧ ((agP c f L n).1 = 0 ∨ (agP c f L n).2 < valF c f L n) then (n + 1, valF c f L n) else agP c f L n := rfl
theorem agP_in {c : Nat → Nat} {f L : Nat} : ∀ n, ((agP c f L n).1 = 0 ∧ (agP c f L n).2 = 0 ∧ ∀ t, t < n → L.testBit t = false) ∨ ∃ t, t < n ∧ L.testBit t = true ∧ agP c f L n = (t + 1, valF c f L t)
  | 0 => Or.inl ⟨rfl, rfl, fun t ht => absurd ht (Nat.not_lt_zero _)⟩
  | n + 1 => by
    have ih := agP_in (c := c) (f := f) (L := L) n
    rw [agP_s]
    by_cases hc : L.testBit n = true ∧ ((agP c f L n).1 = 0 ∨ (agP c f L n).2 < valF c f L n)
    · rw [if_pos hc]
      exact Or.inr ⟨n, by omega, hc.1, rfl⟩
    · rw [if_neg hc]
      rcases ih with ⟨a, b, d⟩ | ⟨t, a, b, d⟩
      · refine Or.inl ⟨a, b, fun t ht => ?_⟩
        by_cases htn : t = n
        · cases hb : L.testBit t with
          | false => rfl
          | true => rw [htn] at hb; exact absurd ⟨hb, Or.inl a⟩ hc
        · exact d t (by omega)
      · exact Or.inr ⟨t, by omega, b, d⟩
def agT (c : Nat → Nat) (f L : Nat) : Nat := (agP c f L (c 0)).1 - 1
theorem agT_in {c : Nat → Nat} {f L n : Nat} (hn : n = c 0) (hL : L < 2 ^ n) (h0 : L ≠ 0) : L.testBit (agT c f L) = true ∧ agP c f L (c 0) = (agT c f L + 1, valF c f L (agT c f L)) := by
  subst hn
  rcases agP_in (c := c) (f := f) (L := L) (c 0) with ⟨a, b, d⟩ | ⟨t, a, b, d⟩
  · obtain ⟨t, ht⟩ := bit_of h0
    rw [d t (bit_n hL ht)] at ht
    cases ht
  · have e1 : agT c f L = t := by unfold agT; rw [d]; rfl
    rw [e1]
    exact ⟨b, d⟩
theorem AV_T {c : Nat → Nat} (ok : OK c) {f L : Nat} (hL : L < 2 ^ c 0) (h0 : L ≠ 0) : AV c f L = valF c f L (agT c f L) := by
  rw [AV_eq (p12 hL ok.n0), if_neg h0, (agT_in rfl hL h0).2]
theorem AV_le {c : Nat → Nat} (ok : OK c) {f : Nat} : ∀ m L, card L ≤ m → L < 2 ^ c 0 → AV c f L ≤ 12 * card L
  | 0, L, hm, hL => by
    have h12 := p12 hL ok.n0
    rw [AV_eq h12, if_pos (card_zero h12 hm)]
    exact Nat.zero_le _
  | m + 1, L, hm, hL => by
    have h12 := p12 hL ok.n0
    by_cases h0 : L = 0
    · rw [AV_eq h12, if_pos h0]; exact Nat.zero_le _
    have h1 := (agT_in (f := f) rfl hL h0).1
    rw [AV_T ok hL h0]
    have h2 := sd_two_card h12 h1
    have h3 := AV_le ok (f := f) m (sd L (2 ^ agT c f L)) (by omega) (sub_lt sub_sd hL)
    have h4 : wdF c (sd f (sd L (2 ^ agT c f L))) ≤ 12 := card_le
    unfold valF
    omega
theorem valF_le {c : Nat → Nat} (ok : OK c) {f L t : Nat} (hL : L < 2 ^ c 0) : valF c f L t ≤ 156 := by
  have h3 := AV_le ok (f := f) 12 (sd L (2 ^ t)) card_le (sub_lt sub_sd hL)
  have h4 : wdF c (sd f (sd L (2 ^ t))) ≤ 12 := card_le
  have h5 := card_le (a := sd L (2 ^ t))
  unfold valF
  omega
/-! == the class == -/
def SAG (a k : Nat) : Prop := a = 87 ∨ a = 89
theorem SAGq {a k : Nat} (h : SAG a k) : SQ a k := by unfold SAG at h; unfold SQ; omega
/-- rows known of all that is less -/
def Ag (σ : Sto) (c : Nat → Nat) (f e : Nat) : Prop := ∀ s, sub s f → s < e → gi σ 87 (sd f s) = nI (AV c f s)
theorem or_sd {f L t : Nat} (hs : sub L f) (ht : L.testBit t = true) : sd f L ||| 2 ^ t = sd f (sd L (2 ^ t)) := by
  apply Nat.eq_of_testBit_eq
  intro k
  rw [Nat.testBit_or, sd_bit, sd_bit, sd_bit, two_bit]
  by_cases hk : t = k
  · subst hk; simp [ht, hs t ht]
  · simp [hk]
theorem c_worthOfNext {σ : Sto} {c : Nat → Nat} {P : Int32 → Sto → Prop} {N : Nat} (h : KW N σ c) (ok : OK c) (hN : N ≤ 2000) {f L t : Nat} (hf : f < 2 ^ c 0) (hs : sub L f) (ht : L.testBit t = true) (hr : gi σ 87 (sd f (sd L (2 ^ t))) = nI (AV c f (sd L (2 ^ t)))) (k : ∀ τ, Eo S89 σ τ → KW N τ c → P (nI (valF c f L t)) τ) : w_X5_worthOfNext (nI (sd f L)) (nI t) σ P := by
  have := ok.n0
  have hL := sub_lt hs hf
  have htn := bit_n hL ht
  have hD : sd f (sd L (2 ^ t)) < 2 ^ c 0 := sub_lt sub_sd hf
  have hD12 := p12 hD ok.n0
  unfold w_X5_worthOfNext
  rw [bit1 (by omega), jI_or, or_sd hs ht]
  rintro x3 rfl
  refine ⟨h.p93.1, ?_⟩
  rw [show gi σ (gr σ 93 5) 14 = nI (c 6) from h.p93.2.1 6 (by decide), jI_or]
  refine t_without h.kb.1 ok hN (p12 (or_lt ok.n6 hD) ok.n0) (fun τ e1 h1 => ?_)
  have hw1 := h.e89 e1 h1
  refine t_doable hw1.kb.1.1 hw1.kb.1.2.1 ok ?_
  rw [t_bitCount12 (doneF_12 ok), tn_nI (by omega), e1.1 87 _ (by unfold S89; decide), hr, jI_add]
  exact ⟨vp_nI hD12 (by decide), k τ e1 hw1⟩
theorem c_bestNext {σ : Sto} {c : Nat → Nat} {P : Int32 → Sto → Prop} {N : Nat} (h : KW N σ c) (ok : OK c) (hN : N ≤ 2000) {f L : Nat} (hf : f < 2 ^ c 0) (hs : sub L f) (h0 : L ≠ 0) (hr : Ag σ c f L) (k : ∀ τ, Eo S89 σ τ → KW N τ c → P (nI (agT c f L)) τ) : w_X5_bestNext (nI f) (nI (sd f L)) σ P := by
  have := ok.n0
  have hL := sub_lt hs hf
  unfold w_X5_bestNext
  refine Lp_for (c 0) (fun j q => q.1 = nI ((agP c f L j).1 - 1) ∧ q.2.1 = (if (agP c f L j).1 = 0 then -1 else nI (agP c f L j).2) ∧ q.2.2.1 = nI j ∧ Eo S89 σ q.2.2.2 ∧ KW N q.2.2.2 c) ⟨rfl, rfl, rfl, Eo.rf, h⟩ ?_ ?_
  · rintro j hj K ⟨x3, x4, x5, τ⟩ ⟨r3, r4, r5, e, hw⟩ hK
    dsimp only at r3 r4 r5 e hw hK ⊢
    subst r3 r4 r5
    have hnj : ¬ c 0 ≤ j := by omega
    rw [agP_s] at hK
    have hpl : (agP c f L j).2 ≤ 156 := by
      rcases agP_in (c := c) (f := f) (L := L) j with ⟨a, b, d⟩ | ⟨t, a, b, d⟩
      · omega
      · rw [d]; exact valF_le ok hL
    generalize agP c f L j = p at hK hpl ⊢
    have hvl := valF_le ok (f := f) (t := j) hL
    unfold w_X5_bestNext_8
    refine ⟨hw.p93.1, ?_⟩
    rw [show gi τ (gr τ 93 5) 8 = nI (c 0) from hw.p93.2.1 0 (by decide), if_neg (by rw [jI_le (by omega) (by omega)]; exact hnj), jI_31 (by omega), N0, N1, jI_add]
    simp only [jI_bit0 (show j < 32 by omega)]
    cases hbL : L.testBit j
    · have hno : ¬ (false = true ∧ (p.1 = 0 ∨ p.2 < valF c f L j)) := fun q => by cases q.1
      rw [hbL, if_neg hno] at hK
      cases hbf : f.testBit j
      · rw [if_pos rfl]
        rintro x rfl
        exact hK _ ⟨rfl, rfl, rfl, e, hw⟩
      · rw [if_neg (by decide), if_neg (by rw [sd_bit, hbf, hbL]; decide)]
        rintro x rfl
        exact hK _ ⟨rfl, rfl, rfl, e, hw⟩
    · rw [hs j hbL, if_neg (by decide), if_pos (by rw [sd_bit, hbL]; simp)]
      have hlt := sd_two_lt hbL
      refine c_worthOfNext hw ok hN hf hs hbL ?_ (fun υ e2 hw2 => ?_)
      · rw [e.1 87 _ (by unfold S89; decide)]
        exact hr _ (sub_sd.tr hs) hlt
      · rw [hbL] at hK
        by_cases hp0 : p.1 = 0
        · rw [if_pos ⟨rfl, Or.inl hp0⟩] at hK
          rw [if_pos hp0, if_neg (by
            rw [Int32.le_iff_toInt_le, jI_toInt (by omega)]
            have : (-nI 1 : Int32).toInt = -1 := by decide
            omega)]
          rintro x rfl
          exact hK _ ⟨rfl, rfl, rfl, e.tr e2, hw2⟩
        · rw [if_neg hp0]
          by_cases hl : p.2 < valF c f L j
          · rw [if_pos ⟨rfl, Or.inr hl⟩] at hK
            rw [if_neg (by rw [jI_le (by omega) (by omega)]; omega)]
            rintro x rfl
            exact hK _ ⟨rfl, rfl, rfl, e.tr e2, hw2⟩
          · rw [if_neg (fun q => q.2.elim hp0 hl)] at hK
            rw [if_pos (by rw [jI_le (by omega) (by omega)]; omega)]
            rintro x rfl
            exact hK _ ⟨rfl, by rw [if_neg hp0], rfl, e.tr e2, hw2⟩
  · rintro K ⟨x3, x4, x5, τ⟩ ⟨r3, r4, r5, e, hw⟩
    dsimp only at r3 r4 r5 e hw ⊢
    subst r3 r4 r5
    unfold w_X5_bestNext_8
    refine ⟨hw.p93.1, ?_⟩
    rw [show gi τ (gr τ 93 5) 8 = nI (c 0) from hw.p93.2.1 0 (by decide), if_pos (by rw [jI_le (by omega) (by omega)]; exact Nat.le_refl _)]
    exact k τ e hw
