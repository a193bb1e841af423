/-! ===== centuries lived: single steps of the class ===== -/
theorem c_tryUnmaking {σ : Sto} {c : Nat → Nat} {q : LQ} {P : Sto → Prop} {N : Nat} (h : LR N σ c q) {t : Nat} (ht : t < c 0) (k : ∀ τ, Eo (SLa (gr σ 1 11)) σ τ → LR N τ (unmF t c q).1 (unmF t c q).2 → P τ) : w_X3_tryUnmaking (nI t) σ P := by
  have h0 := h
  obtain ⟨hw, ok, h3, h4, h5, h6, h7, h8⟩ := h
  have n0 := ok.n0
  have hA := hw.1.rg
  unfold unmF at k
  unfold w_X3_tryUnmaking
  rw [hw.r97, show gi σ (gr σ 1 11) 14 = nI (c 6) from hw.f (k := 6) (by decide), show gi σ (gr σ 1 11) 15 = nI (c 7) from hw.f (k := 7) (by decide), jI_or, bit1 (by omega), jI_31 (by omega), jI_or]
  refine ⟨hw.1, ?_⟩
  simp only [N0, N1, jI_bit0 (show t < 32 by omega)]
  cases hb : (c 6 ||| c 7).testBit t
  · rw [hb] at k
    rw [if_neg (by decide)] at k
    rw [if_pos rfl]
    rintro _ rfl
    have hlt : c 6 ||| 2 ^ t < 2 ^ c 0 := or_lt ok.n6 (two_lt ht)
    have hp := hw.put ok (k := 6) (v := c 6 ||| 2 ^ t) (Or.inr (Or.inl rfl))
    have h98 : gi (si σ (gr σ 1 11) 14 (nI (c 6 ||| 2 ^ t))) 98 2 = nI q.2.2.2.1 := by rw [gi_si_a (by omega)]; exact h7
    rw [h98, jI_add]
    refine k _ ((Eo.si (by unfold SLa; omega)).tr (Eo.si (by unfold SLa; omega))) ⟨hp.ex (Eo.si (by unfold SX; omega)), ok.put (Or.inr (Or.inl ⟨rfl, hlt⟩)), ?_, h4, ?_, ?_, gi_si_s, ?_⟩
    · rw [gi_si_a (by decide), gi_si_a (by omega)]; exact h3
    · rw [gi_si_k (by decide), gi_si_a (by omega)]; exact h5
    · rw [gi_si_k (by decide), gi_si_a (by omega)]; exact h6
    · rw [gi_si_k (by decide), gi_si_a (by omega)]; exact h8
  · rw [hb, if_pos rfl] at k
    rw [if_neg (by decide)]
    exact k _ (c_miss h0).1 (c_miss h0).2
theorem c_tryRemaking {σ : Sto} {c : Nat → Nat} {q : LQ} {P : Sto → Prop} {N : Nat} (h : LR N σ c q) {t : Nat} (ht : t < c 0) (k : ∀ τ, Eo (SLa (gr σ 1 11)) σ τ → LR N τ (remF t c q).1 (remF t c q).2 → P τ) : w_X3_tryRemaking (nI t) σ P := by
  have h0 := h
  obtain ⟨hw, ok, h3, h4, h5, h6, h7, h8⟩ := h
  have n0 := ok.n0
  have hA := hw.1.rg
  unfold remF at k
  unfold w_X3_tryRemaking
  rw [hw.r97, show gi σ (gr σ 1 11) 14 = nI (c 6) from hw.f (k := 6) (by decide), bit1 (by omega), jI_31 (by omega), jI_andn]
  refine ⟨hw.1, ?_⟩
  simp only [N0, N1, jI_bit0 (show t < 32 by omega)]
  cases hb : (c 6).testBit t
  · rw [hb, if_neg (by decide)] at k
    rw [if_pos rfl]
    exact k _ (c_miss h0).1 (c_miss h0).2
  · rw [hb, if_pos rfl] at k
    rw [if_neg (by decide)]
    have hlt : sd (c 6) (2 ^ t) < 2 ^ c 0 := sub_lt sub_sd ok.n6
    have hp := hw.put ok (k := 6) (v := sd (c 6) (2 ^ t)) (Or.inr (Or.inl rfl))
    refine k _ (Eo.si (by unfold SLa; omega)) ⟨hp, ok.put (Or.inr (Or.inl ⟨rfl, hlt⟩)), ?_, h4, ?_, ?_, ?_, ?_⟩
    · rw [gi_si_a (by omega)]; exact h3
    · rw [gi_si_a (by omega)]; exact h5
    · rw [gi_si_a (by omega)]; exact h6
    · rw [gi_si_a (by omega)]; exact h7
    · rw [gi_si_a (by omega)]; exact h8
theorem c_spare {σ : Sto} {c : Nat → Nat} {q : LQ} {P : Sto → Prop} {N : Nat} (h : LR N σ c q) {t : Nat} (ht : t < c 0) (k : ∀ τ, Eo (SLa (gr σ 1 11)) σ τ → LR N τ (spF t c q).1 (spF t c q).2 → P τ) : isCity (gr σ 97 4) ∧ P (si σ (gr σ 97 4) 15 ((gi σ (gr σ 97 4) 15) ^^^ (1 <<< (nI t &&& 31)))) := by
  obtain ⟨hw, ok, h3, h4, h5, h6, h7, h8⟩ := h
  have n0 := ok.n0
  have hA := hw.1.rg
  rw [hw.r97, show gi σ (gr σ 1 11) 15 = nI (c 7) from hw.f (k := 7) (by decide), bit1 (by omega), jI_xor]
  refine ⟨hw.1, ?_⟩
  have hlt : c 7 ^^^ 2 ^ t < 2 ^ c 0 := Nat.xor_lt_two_pow ok.n7 (two_lt ht)
  have hp := hw.put ok (k := 7) (v := c 7 ^^^ 2 ^ t) (Or.inr (Or.inr rfl))
  refine k _ (Eo.si (by unfold SLa; omega)) ⟨hp, ok.put (Or.inr (Or.inr ⟨rfl, hlt⟩)), ?_, h4, ?_, ?_, ?_, ?_⟩
  · rw [gi_si_a (by omega)]; exact h3
  · rw [gi_si_a (by omega)]; exact h5
  · rw [gi_si_a (by omega)]; exact h6
  · rw [gi_si_a (by omega)]; exact h7
  · rw [gi_si_a (by omega)]; exact h8
theorem jI_div {a b : Nat} (ha : a < 2147483648) (hb : b < 2147483648) : nI a / nI b = nI (a / b) := by
  apply Int32.toInt_inj.mp
  have h1 : a / b ≤ a := Nat.div_le_self a b
  have hne : nI b ≠ -1 := jI_none hb
  rw [Int32.toInt_div_of_ne_right _ _ hne, jI_toInt ha, jI_toInt hb, jI_toInt (by omega)]
  rfl
theorem jI_mod {a b : Nat} (ha : a < 2147483648) (hb : b < 2147483648) : nI a - nI a / nI b * nI b = nI (a % b) := by
  rw [jI_div ha hb, jI_mul, jI_sub (Nat.div_mul_le_self a b)]
  congr 1
  have h := Nat.div_add_mod a b
  rw [Nat.mul_comm] at h
  omega
theorem rnd_nI {r : Nat} (h : r ≤ 65535) : ((nI r * 2971) + 10663) - ((nI r * 2971) + 10663) / 65536 * 65536 = nI (rndF r) := by
  rw [N2971, N10663, N65536, jI_mul, jI_add, jI_mod (by omega) (by decide)]
  rfl
theorem rndF_le {r : Nat} : rndF r ≤ 65535 := by
  have := Nat.mod_lt (r * 2971 + 10663) (show 65536 > 0 by decide)
  unfold rndF
  omega
theorem nth_n {op n t : Nat} (ht : op.testBit t = true) (hc : cardN t op = n) : ∀ m, t < m → (∀ u, t < u → u < m → ¬ (op.testBit u = true ∧ cardN u op = n)) → foldN (fun r t => if op.testBit t = true ∧ cardN t op = n then t else r) 0 m = t
  | 0, h, _ => absurd h (Nat.not_lt_zero _)
  | m + 1, h, hu => by
    show (if op.testBit m = true ∧ cardN m op = n then m else foldN (fun r t => if op.testBit t = true ∧ cardN t op = n then t else r) 0 m) = t
    by_cases hm : m = t
    · subst hm
      rw [if_pos ⟨ht, hc⟩]
    · rw [if_neg (hu m (by omega) (by omega))]
      exact nth_n ht hc m (by omega) (fun u h1 h2 => hu u h1 (by omega))
theorem cardN_mono {s : Nat} {a b : Nat} (h : a ≤ b) : cardN a s ≤ cardN b s := by
  obtain ⟨d, rfl⟩ : ∃ d, b = a + d := ⟨b - a, by omega⟩
  clear h
  induction d with
  | zero => exact Nat.le_refl _
  | succ d ih => exact Nat.le_trans ih (by rw [← Nat.add_assoc, cardN_s]; exact Nat.le_add_right _ _)
theorem nthF_eq {op n t : Nat} (hop : op < 4096) (ht : op.testBit t = true) (hc : cardN t op = n) : nthF op n = t := by
  have h12 := bit_12 hop ht
  refine nth_n ht hc 12 h12 (fun u h1 h2 => fun q => ?_)
  have h3 : cardN (t + 1) op = n + 1 := by rw [cardN_s, ht, hc]; rfl
  have h4 := cardN_mono (s := op) (show t + 1 ≤ u by omega)
  omega
/-- the set, once its element is passed -/
def jkG (c : Nat → Nat) (op n j : Nat) : Nat := if n < cardN j op then c 6 ||| 2 ^ nthF op n else c 6
theorem c_tryJoking {σ : Sto} {c : Nat → Nat} {q : LQ} {P : Sto → Prop} {N : Nat} (h : LR N σ c q) (hN : N ≤ 2000) (k : ∀ τ, Eo (SLa (gr σ 1 11)) σ τ → LR N τ (jkF c q).1 (jkF c q).2 → P τ) : w_X3_tryJoking σ P := by
  obtain ⟨hw, ok, h3, h4, h5, h6, h7, h8⟩ := h
  have n0 := ok.n0
  have hA := hw.1.rg
  have hop := p12 (openF_lt ok) ok.n0
  have hcl := card_le (a := openF c)
  unfold jkF at k
  unfold w_X3_tryJoking
  refine t_openNow hw.kb ok hN (fun υ e1 hb1 => ?_)
  have hw1 : KW N υ c := hw.mk e1 hb1
  have u11 : gr υ 1 11 = gr σ 1 11 := e1.2.2 1 11
  have eu : Eo (SLa (gr σ 1 11)) σ υ := e1.mo (fun a k z => by unfold S89 at z; unfold SLa; omega)
  have hR : LR N υ c q := ⟨hw1, ok, by rw [e1.1 97 5 (by unfold S89; decide)]; exact h3, h4, by rw [e1.1 98 0 (by unfold S89; decide)]; exact h5, by rw [e1.1 98 1 (by unfold S89; decide)]; exact h6, by rw [e1.1 98 2 (by unfold S89; decide)]; exact h7, by rw [e1.1 98 3 (by unfold S89; decide)]; exact h8⟩
  rw [t_bitCount12 hop]
  by_cases h0 : openF c = 0
  · rw [if_pos h0] at k
    rw [if_pos (by rw [h0, card_0]; rfl)]
    have hm := c_miss hR
    rw [u11] at hm
    exact k _ (eu.tr hm.1) hm.2
  · rw [if_neg h0] at k
    have hcp := card_pos hop h0
    rw [if_neg (by rw [N0, jI_eq (by omega) (by decide)]; omega)]
    unfold w_X3_draw
    rw [if_neg (by rw [N0, jI_le (by omega) (by decide)]; omega), hR.2.2.1, rnd_nI h4]
    rintro _ rfl
    rw [gi_si_s]
    refine ⟨by rw [N0, jI_eq (by omega) (by decide)]; omega, ?_⟩
    have hrl := rndF_le (r := q.1)
    rw [N8, jI_div (by omega) (by decide), jI_mod (by omega) (by omega)]
    have hnl : rndF q.1 / 8 % card (openF c) < card (openF c) := Nat.mod_lt _ (by omega)
    have hz : nI (rndF q.1 / 8 % card (openF c)) = zI ((rndF q.1 / 8 % card (openF c) : Nat) : Int) := by
      apply Int32.toInt_inj.mp
      rw [jI_toInt (by omega), zI_toInt (by omega) (by omega)]
    rw [hz]
    generalize rndF q.1 / 8 % card (openF c) = n at hnl k ⊢
    have e2 : Eo (SLa (gr σ 1 11)) υ (si υ 97 5 (nI (rndF q.1))) := Eo.si (by unfold SLa; omega)
    have hw2 : KW N (si υ 97 5 (nI (rndF q.1))) c := hw1.ex (Eo.si (by unfold SX; omega))
    refine Lp_for (c 0) (fun j s => s.1 = zI ((n : Int) - cardN j (openF c)) ∧ s.2.1 = nI j ∧ Eo (SLa (gr σ 1 11)) σ s.2.2 ∧ KW N s.2.2 (updC c 6 (jkG c (openF c) n j)) ∧ gi s.2.2 97 5 = nI (rndF q.1) ∧ ∀ i, i < 4 → gi s.2.2 98 i = gi υ 98 i) ⟨by dsimp only; rw [show cardN 0 (openF c) = 0 from rfl, Int.ofNat_zero, Int.sub_zero], rfl, eu.tr e2, ?_, gi_si_s, fun i hi => by dsimp only; rw [gi_si_a (by decide)]⟩ ?_ ?_
    · have e : updC c 6 (jkG c (openF c) n 0) = c := by
        funext i
        by_cases hi : i = 6
        · subst hi
          rw [updC_s]
          unfold jkG
          rw [if_neg (by rw [show cardN 0 (openF c) = 0 from rfl]; omega)]
        · rw [updC_n hi]
      rw [e]
      exact hw2
    · rintro j hj K ⟨x3, x4, τ⟩ ⟨r3, r4, e, hw3, g1, g2⟩ hK
      dsimp only at r3 r4 e hw3 g1 g2 hK ⊢
      subst r3 r4
      have t11 : gr τ 1 11 = gr σ 1 11 := e.2.2 1 11
      have hcj := cardN_le (s := openF c) j (by omega)
      have hlt6 : jkG c (openF c) n j < 2 ^ c 0 ∨ True := Or.inr trivial
      have ok3 : likeS c c := ⟨rfl, rfl, fun _ _ => rfl, fun _ _ => rfl⟩
      unfold w_X3_tryJoking_37
      rw [hw3.r97, show gi τ (gr τ 1 11) 8 = nI (c 0) from by rw [hw3.f (k := 0) (by decide), updC_n (by decide)], if_neg (by rw [jI_le (by omega) (by omega)]; omega), show gi τ (gr τ 1 11) 14 = nI (jkG c (openF c) n j) from by rw [hw3.f (k := 6) (by decide), updC_s], bit1 (by omega), jI_31 (by omega), jI_or]
      refine ⟨hw3.1, ?_⟩
      rw [N0, N1, jI_add]
      simp only [jI_bit0 (show j < 32 by omega)]
      have hzm : zI ((n : Int) - (cardN j (openF c) : Int)) + -nI 1 = zI ((n : Int) - ((cardN j (openF c) + 1 : Nat) : Int)) := by
        apply Int32.toInt_inj.mp
        rw [Int32.toInt_add, zI_toInt (by omega) (by omega), zI_toInt (by omega) (by omega)]
        have : (-nI 1 : Int32).toInt = -1 := by decide
        rw [this, Int.bmod_eq_of_le (by omega) (by omega)]
        omega
      cases hb : (openF c).testBit j
      · rw [if_pos rfl]
        rintro y rfl
        have hcs : cardN (j + 1) (openF c) = cardN j (openF c) := by rw [cardN_s, hb]; rfl
        refine hK _ ⟨by dsimp only; rw [hcs], rfl, e, ?_, g1, g2⟩
        dsimp only
        unfold jkG at hw3 ⊢
        rw [hcs]
        exact hw3
      · rw [if_neg (by decide)]
        have hcs : cardN (j + 1) (openF c) = cardN j (openF c) + 1 := by rw [cardN_s, hb]; rfl
        by_cases hn : n = cardN j (openF c)
        · have hz0 : zI ((n : Int) - (cardN j (openF c) : Int)) = nI 0 := by rw [hn, Int.sub_self]; decide
          rw [if_pos hz0, hzm]
          rintro y rfl
          rintro z rfl
          have hnth := nthF_eq hop hb hn.symm
          have hG : jkG c (openF c) n j = c 6 := by unfold jkG; rw [if_neg (by omega)]
          have hG2 : jkG c (openF c) n (j + 1) = c 6 ||| 2 ^ j := by unfold jkG; rw [if_pos (by omega), hnth]
          rw [hG]
          refine hK _ ⟨by dsimp only; rw [hcs], rfl, e.tr (Eo.si (by unfold SLa; omega)), ?_, ?_, fun i hi => ?_⟩
          · dsimp only
            rw [hG2]
            rw [hG] at hw3
            have okc : OK (updC c 6 (c 6)) := ok.put (Or.inr (Or.inl ⟨rfl, ok.n6⟩))
            have hp := hw3.put okc (k := 6) (v := c 6 ||| 2 ^ j) (Or.inr (Or.inl rfl))
            have eq1 : updC (updC c 6 (c 6)) 6 (c 6 ||| 2 ^ j) = updC c 6 (c 6 ||| 2 ^ j) := by
              funext i
              by_cases hi : i = 6
              · subst hi; rw [updC_s, updC_s]
              · rw [updC_n hi, updC_n hi, updC_n hi]
            rw [eq1] at hp
            exact hp
          · dsimp only; rw [gi_si_a (by omega)]; exact g1
          · dsimp only; rw [gi_si_a (by omega)]; exact g2 i hi
        · rw [if_neg (by rw [show nI 0 = zI 0 by decide, zI_eq (by omega) (by omega) (by omega) (by omega)]; omega), hzm]
          rintro y rfl
          rintro z rfl
          refine hK _ ⟨by dsimp only; rw [hcs], rfl, e, ?_, g1, g2⟩
          dsimp only
          have hG : jkG c (openF c) n (j + 1) = jkG c (openF c) n j := by
            unfold jkG
            by_cases hl : n < cardN j (openF c)
            · rw [if_pos hl, if_pos (by omega)]
            · rw [if_neg hl, if_neg (by omega)]
          rw [hG]
          exact hw3
    · rintro K ⟨x3, x4, τ⟩ ⟨r3, r4, e, hw3, g1, g2⟩
      dsimp only at r3 r4 e hw3 g1 g2 ⊢
      subst r3 r4
      have t11 : gr τ 1 11 = gr σ 1 11 := e.2.2 1 11
      have hall : cardN (c 0) (openF c) = card (openF c) := by
        have h1 := cardN_le (s := openF c) (c 0) n0
        have h2 : ∀ d, cardN (c 0 + d) (openF c) = cardN (c 0) (openF c) := fun d => by
          induction d with
          | zero => rfl
          | succ d ih => rw [← Nat.add_assoc, cardN_s, ih, lt_two.mp (openF_lt ok) _ (by omega)]; rfl
        have h3 := h2 (12 - c 0)
        rw [show c 0 + (12 - c 0) = 12 by omega] at h3
        exact h3.symm
      have hG : jkG c (openF c) n (c 0) = c 6 ||| 2 ^ nthF (openF c) n := by unfold jkG; rw [if_pos (by omega)]
      rw [hG] at hw3
      unfold w_X3_tryJoking_37
      rw [hw3.r97, show gi τ (gr τ 1 11) 8 = nI (c 0) from by rw [hw3.f (k := 0) (by decide), updC_n (by decide)], if_pos (by rw [jI_le (by omega) (by omega)]; exact Nat.le_refl _)]
      refine ⟨hw3.1, ?_⟩
      rintro _ rfl
      have q2 : gi τ 98 2 = nI q.2.2.2.1 := by rw [g2 2 (by decide)]; exact hR.2.2.2.2.2.2.1
      have q3 : gi τ 98 3 = nI q.2.2.2.2 := by rw [g2 3 (by decide)]; exact hR.2.2.2.2.2.2.2
      rw [gi_si_k (by decide), q2, q3, N1, jI_add, jI_add]
      -- the thing is below the number of things
      have hlt : c 6 ||| 2 ^ nthF (openF c) n < 2 ^ c 0 := by
        refine or_lt ok.n6 (two_lt ?_)
        obtain ⟨t, ht, hct⟩ : ∃ t, (openF c).testBit t = true ∧ cardN t (openF c) = n := by
          have key : ∀ m, n < cardN m (openF c) → ∃ t, (openF c).testBit t = true ∧ cardN t (openF c) = n := fun m => by
            induction m with
            | zero => intro hq; exact absurd hq (Nat.not_lt_zero _)
            | succ m ih =>
              intro hq
              by_cases hl : n < cardN m (openF c)
              · exact ih hl
              · rw [cardN_s] at hq
                cases hbm : (openF c).testBit m
                · rw [hbm] at hq; exact absurd hq hl
                · rw [hbm] at hq
                  exact ⟨m, hbm, by simp at hq; omega⟩
          exact key (c 0) (by omega)
        rw [nthF_eq hop ht hct]
        exact bit_n (openF_lt ok) ht
      refine k _ (e.tr ((Eo.si (by unfold SLa; omega)).tr (Eo.si (by unfold SLa; omega)))) ⟨(hw3.ex (Eo.si (by unfold SX; omega))).ex (Eo.si (by unfold SX; omega)), ok.put (Or.inr (Or.inl ⟨rfl, hlt⟩)), ?_, hrl, ?_, ?_, ?_, gi_si_s⟩
      · rw [gi_si_a (by decide), gi_si_a (by decide)]; exact g1
      · rw [gi_si_k (by decide), gi_si_k (by decide), g2 0 (by decide)]; exact hR.2.2.2.2.1
      · rw [gi_si_k (by decide), gi_si_k (by decide), g2 1 (by decide)]; exact hR.2.2.2.2.2.1
      · rw [gi_si_k (by decide), gi_si_s]
