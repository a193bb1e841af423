/-! ===== centuries lived: single steps of the model; tests ===== -/
def ML (σ : Sto) (c : Nat → Nat) (q : LQ) : Prop := MR σ c ∧ OK c ∧ gi σ 101 41 = nI q.1 ∧ q.1 ≤ 65535 ∧ gi σ 101 43 = nI q.2.1 ∧ gi σ 101 44 = nI q.2.2.1 ∧ gi σ 101 45 = nI q.2.2.2.1 ∧ gi σ 101 46 = nI q.2.2.2.2
def SMv (a k : Nat) : Prop := SM a k ∨ (a = 101 ∧ 41 ≤ k ∧ k ≤ 46 ∧ k ≠ 42) ∨ (a = 106 ∧ 5 ≤ k ∧ k ≤ 7)
theorem MR.vv {σ τ : Sto} {c : Nat → Nat} (h : MR σ c) {j : Nat} {v : Int32} (e : τ = si σ 101 j v) : MR τ c := fun k hk => by rw [e, gi_si_a (by decide)]; exact h k hk
theorem sd_xor {a t : Nat} (h : a.testBit t = true) : a ^^^ 2 ^ t = sd a (2 ^ t) := Nat.eq_of_testBit_eq (fun k => by
  rw [Nat.testBit_xor, sd_bit, two_bit]
  by_cases hk : t = k
  · subst hk; simp [h]
  · simp [hk])
theorem or_xor {a t : Nat} (h : a.testBit t = false) : a ^^^ 2 ^ t = a ||| 2 ^ t := Nat.eq_of_testBit_eq (fun k => by
  rw [Nat.testBit_xor, Nat.testBit_or, two_bit]
  by_cases hk : t = k
  · subst hk; simp [h]
  · simp [hk])
/-- behind a step: what was missed comes by the caller -/
def MK (σ τ : Sto) (c : Nat → Nat) (q0 q : LQ) (d : Nat) : Prop := Eo SMv σ τ ∧ gi τ 101 0 = gi σ 101 0 ∧ MR τ c ∧ OK c ∧ gi τ 101 41 = nI q.1 ∧ q.1 ≤ 65535 ∧ q.2.1 = q0.2.1 + d ∧ gi τ 101 44 = nI q.2.2.1 ∧ gi τ 101 45 = nI q.2.2.2.1 ∧ gi τ 101 46 = nI q.2.2.2.2
theorem ML.same {σ : Sto} {c : Nat → Nat} {q : LQ} (h : ML σ c q) : MK σ σ c q (missQ q 1) 1 := by
  obtain ⟨h1, h2, h3, h4, h5, h6, h7, h8⟩ := h
  exact ⟨Eo.rf, rfl, h1, h2, h3, h4, rfl, h6, h7, h8⟩
theorem m_missedYears {σ : Sto} {c : Nat → Nat} {q : LQ} {P : Int32 → Sto → Prop} (h : ML σ c q) {n : Nat} (hn : n ≤ 9) (k : ∀ τ d, MK σ τ (goF n c q).1 q (goF n c q).2 d → P (nI d) τ) : w_X12_missedYears (nI n) σ P := by
  have h0 := h
  obtain ⟨hm, ok, h3, h4, h5, h6, h7, h8⟩ := h
  have n5 := ok.n5
  unfold goF at k
  unfold w_X12_missedYears
  rw [hm 5 (by decide), jI_add, N9999]
  by_cases hd : c 5 + n ≤ 9999
  · rw [if_pos hd] at k
    rw [if_pos ((jI_le (by omega) (by decide)).mpr hd)]
    refine Lp_for n (fun j s => s.1 = nI (misN c j) ∧ s.2.1 = nI j ∧ Eo SMv σ s.2.2 ∧ gi s.2.2 101 0 = gi σ 101 0 ∧ MR s.2.2 (yearsC c j) ∧ gi s.2.2 101 41 = nI q.1 ∧ gi s.2.2 101 44 = nI q.2.2.1 ∧ gi s.2.2 101 45 = nI (q.2.2.2.1 + (j - misN c j)) ∧ gi s.2.2 101 46 = nI q.2.2.2.2) ⟨rfl, rfl, Eo.rf, rfl, by dsimp only; rw [yearsC_0 ok]; exact hm, h3, h6, h7, h8⟩ ?_ ?_
    · rintro j hj K ⟨x2, x3, τ⟩ ⟨r2, r3, e, g0, hmt, g1, g2, g3, g4⟩ hK
      dsimp only at r2 r3 e g0 hmt g1 g2 g3 g4 hK ⊢
      subst r2 r3
      have hml := misN_le (c := c) j
      have okj := yearsC_OK ok (n := j) (by omega)
      obtain ⟨ls, lv, l4⟩ := like56 ok (g := gN c (c 6) (c 7) j) (y := c 5 + j)
      have hvo : votedF (yearsC c j) (yearsC c j 6) (yearsC c j 7) = votedF c (gN c (c 6) (c 7) j) (c 7) := by
        rw [yearsC_6, yearsC_7]
        exact votedF_like ls lv l4
      unfold w_X12_missedYears_20
      rw [if_neg (by rw [jI_le (by omega) (by omega)]; omega)]
      refine t_goesYear hmt okj (fun υ e2 hm2 hst => ?_)
      rw [hvo]
      have f : ∀ i, 40 ≤ i → gi υ 101 i = gi τ 101 i := fun i hi => e2.1 101 i (by unfold SMD SM; omega)
      have eu : Eo SMv σ υ := e.tr (e2.mo (fun a i z => by
        unfold SMD at z; unfold SMv
        rcases z with z | z
        · exact Or.inl z
        · omega))
      have hm3 : MR υ (yearsC c (j + 1)) := by rw [← yearsC_s ok]; exact hm2
      have g0' : gi υ 101 0 = gi σ 101 0 := by rw [hst]; exact g0
      have fin : ∀ v, v = nI (q.2.2.2.1 + (j + 1 - misN c (j + 1))) → K (nI (misN c (j + 1)), nI (j + 1), si υ 101 45 v) := fun v hv => hK _ ⟨rfl, rfl, eu.tr (Eo.si (by unfold SMv; omega)), by dsimp only; rw [gi_si_k (by decide)]; exact g0', hm3.vv rfl, by dsimp only; rw [gi_si_k (by decide), f 41 (by decide)]; exact g1, by dsimp only; rw [gi_si_k (by decide), f 44 (by decide)]; exact g2, by dsimp only; rw [gi_si_s, hv], by dsimp only; rw [gi_si_k (by decide), f 46 (by decide)]; exact g4⟩
      rw [misN_s] at fin
      by_cases hv : votedF c (gN c (c 6) (c 7) j) (c 7) = 0
      · rw [if_pos hv] at fin
        rw [if_pos hv, if_pos (show (0 : Int32) = 0 from rfl)]
        unfold w_X12_missedYears_42
        rintro y hy
        rw [if_pos (show (0 : Int32) = 0 from rfl)]
        rintro z hz
        have ey : y = nI (misN c j + 1) := by rw [hy]; exact jI_add (a := misN c j) (b := 1)
        have ez : z = nI (j + 1) := by rw [hz]; exact jI_add (a := j) (b := 1)
        rw [ey, ez]
        exact fin _ (by rw [f 45 (by decide), g3]; exact (jI_add (b := 0)).trans (by congr 1; omega))
      · rw [if_neg hv] at fin
        rw [if_neg hv, if_neg (show ¬ (1 : Int32) = 0 by decide)]
        unfold w_X12_missedYears_42
        rintro y hy
        rw [if_neg (show ¬ (1 : Int32) = 0 by decide)]
        rintro z hz
        have ey : y = nI (misN c j) := by rw [hy]; exact jI_add (a := misN c j) (b := 0)
        have ez : z = nI (j + 1) := by rw [hz]; exact jI_add (a := j) (b := 1)
        rw [ey, ez]
        exact fin _ (by rw [f 45 (by decide), g3, N1, jI_add]; congr 1; omega)
    · rintro K ⟨x2, x3, τ⟩ ⟨r2, r3, e, g0, hmt, g1, g2, g3, g4⟩
      dsimp only at r2 r3 e g0 hmt g1 g2 g3 g4 ⊢
      subst r2 r3
      unfold w_X12_missedYears_20
      rw [if_pos (by rw [jI_le (by omega) (by omega)]; exact Nat.le_refl _), g2, jI_add]
      refine k _ _ ⟨e.tr (Eo.si (by unfold SMv; omega)), by rw [gi_si_k (by decide)]; exact g0, hmt.vv rfl, yearsC_OK ok hd, ?_, h4, rfl, gi_si_s, ?_, ?_⟩
      · rw [gi_si_k (by decide)]; exact g1
      · rw [gi_si_k (by decide)]; exact g3
      · rw [gi_si_k (by decide)]; exact g4
  · rw [if_neg hd] at k
    rw [if_neg (fun z => hd ((jI_le (by omega) (by decide)).mp z))]
    exact k σ 1 h0.same
theorem m_isJoked {σ : Sto} {c : Nat → Nat} {q : LQ} {P : Int32 → Sto → Prop} (h : ML σ c q) (k0 : openF c = 0 → P 0 σ) (k1 : openF c ≠ 0 → ∀ τ, MK σ τ (jkF c q).1 q (jkF c q).2 0 → P 1 τ) : w_X12_isJoked σ P := by
  obtain ⟨hm, ok, h3, h4, h5, h6, h7, h8⟩ := h
  have n0 := ok.n0
  have hop := p12 (openF_lt ok) ok.n0
  have hcl := card_le (a := openF c)
  unfold jkF at k1
  unfold w_X12_isJoked
  refine t_inVote hm ok ?_
  rw [N0]
  by_cases h0 : openF c = 0
  · rw [if_pos (by rw [h0])]
    exact k0 h0
  · rw [if_neg h0] at k1
    rw [if_neg (by rw [jI_eq (by omega) (by decide)]; exact h0)]
    have hcp := card_pos hop h0
    refine t_sizeOf12 hop ?_
    unfold w_X12_draw
    rw [h3, rnd_nI h4]
    rintro _ rfl
    have hrl := rndF_le (r := q.1)
    rw [gi_si_s, N8, jI_div (by omega) (by decide), jI_mod (by omega) (by omega)]
    refine ⟨by rw [N0, jI_eq (by omega) (by decide)]; omega, ?_⟩
    have hnl : rndF q.1 / 8 % card (openF c) < card (openF c) := Nat.mod_lt _ (by omega)
    generalize rndF q.1 / 8 % card (openF c) = n at hnl k1 ⊢
    have hm2 : MR (si σ 101 41 (nI (rndF q.1))) c := hm.vv rfl
    refine Lp_for 12 (fun j s => s.1 = nI (n - cardN j (openF c)) ∧ s.2.1 = nI j ∧ s.2.2 = si σ 101 41 (nI (rndF q.1)) ∧ cardN j (openF c) ≤ n) ⟨rfl, rfl, rfl, Nat.zero_le _⟩ ?_ ?_
    · rintro j hj K ⟨x2, x3, τ⟩ ⟨r2, r3, e, hc⟩ hK
      dsimp only at r2 r3 e hc hK ⊢
      subst r2 r3 e
      have go : ∀ b, b = ((openF c).testBit j).toNat → cardN j (openF c) + b ≤ n → K (nI (n - cardN j (openF c) - b), nI (j + 1), si σ 101 41 (nI (rndF q.1))) := fun b hb hl => hK _ ⟨by dsimp only; rw [cardN_s, ← hb]; congr 1; omega, rfl, rfl, by rw [cardN_s, ← hb]; exact hl⟩
      unfold w_X12_isJoked_22
      rw [t_has (by omega)]
      cases hb : (openF c).testBit j
      · rw [hb] at go
        rw [if_pos (show bI false = 0 from rfl)]
        unfold w_X12_isJoked_34
        rw [t_has (by omega), hb, if_pos (show bI false = 0 from rfl), N0, N1, jI_sub (Nat.zero_le _), jI_add]
        rintro y rfl
        rintro z rfl
        exact go 0 rfl hc
      · rw [hb] at go
        rw [if_neg (show ¬ bI true = 0 by decide)]
        by_cases hn : n = cardN j (openF c)
        · rw [if_pos (by rw [N0, jI_le (by omega) (by decide)]; omega), hm2 6 (by decide), bit1 (by omega), jI_or]
          have hnth := nthF_eq hop hb hn.symm
          rw [hnth] at k1
          rintro _ rfl
          rw [gi_si_a (by decide), gi_si_k (by decide), h7, N1, jI_add]
          rintro _ rfl
          rw [gi_si_k (by decide), gi_si_a (by decide), gi_si_k (by decide), h8, jI_add]
          have hjc := bit_n (openF_lt ok) hb
          have hlt : c 6 ||| 2 ^ j < 2 ^ c 0 := or_lt ok.n6 (two_lt hjc)
          have hp := hm2.put 6 (c 6 ||| 2 ^ j)
          refine k1 h0 _ ⟨?_, ?_, ?_, ok.put (Or.inr (Or.inl ⟨rfl, hlt⟩)), ?_, hrl, rfl, ?_, ?_, gi_si_s⟩
          · exact Eo.tr (S := SMv) (Eo.tr (S := SMv) (Eo.tr (S := SMv) (Eo.si (by unfold SMv; omega)) (Eo.si (by unfold SMv; omega))) (Eo.si (by unfold SMv; omega))) (Eo.si (by unfold SMv; omega))
          · rw [gi_si_k (by decide), gi_si_k (by decide), gi_si_a (by decide), gi_si_k (by decide)]
          · exact (hp.vv (j := 45) rfl).vv rfl
          · rw [gi_si_k (by decide), gi_si_k (by decide), gi_si_a (by decide), gi_si_s]
          · rw [gi_si_k (by decide), gi_si_k (by decide), gi_si_a (by decide), gi_si_k (by decide)]; exact h6
          · rw [gi_si_k (by decide), gi_si_s]
        · rw [if_neg (by rw [N0, jI_le (by omega) (by decide)]; omega)]
          unfold w_X12_isJoked_34
          rw [t_has (by omega), hb, if_neg (show ¬ bI true = 0 by decide), N1, jI_sub (by omega), jI_add]
          rintro y rfl
          rintro z rfl
          exact go 1 rfl (by omega)
    · rintro K ⟨x2, x3, τ⟩ ⟨r2, r3, e, hc⟩
      have h12 : cardN 12 (openF c) = card (openF c) := rfl
      omega
theorem bitn {t : Nat} (h : t < 32) : nI 1 <<< (nI t &&& 31) = nI (2 ^ t) := bit1 h
/-- a step that is none of when, loop, stop -/
def actF (s : Nat) (c : Nat → Nat) (q : LQ) : (Nat → Nat) × LQ := if c (144 + 9 * s) = 0 then goF (c (145 + 9 * s)) c q else if c (144 + 9 * s) = 4 then jkF c q else if c (144 + 9 * s) = 3 then spF (c (145 + 9 * s)) c q else if c (144 + 9 * s) = 1 then unmF (c (145 + 9 * s)) c q else remF (c (145 + 9 * s)) c q
theorem m_does {σ : Sto} {c : Nat → Nat} {q : LQ} {P : Int32 → Sto → Prop} (h : ML σ c q) {s : Nat} (hs : s < 30) (hk : c (144 + 9 * s) ≤ 4) (hg : c (144 + 9 * s) = 0 → c (145 + 9 * s) ≤ 9) (ht : (c (144 + 9 * s) = 1 ∨ c (144 + 9 * s) = 2 ∨ c (144 + 9 * s) = 3) → c (145 + 9 * s) < c 0) (k : ∀ τ d, MK σ τ (actF s c q).1 q (actF s c q).2 d → P (nI d) τ) : w_X12_does (nI (144 + 9 * s)) σ P := by
  have h0 := h
  obtain ⟨hm, ok, h3, h4, h5, h6, h7, h8⟩ := h
  have n0 := ok.n0
  unfold actF at k
  unfold w_X12_does
  rw [N1, jI_add, tn_nI (by omega), tn_nI (by omega), hm _ (by omega), hm (144 + 9 * s + 1) (by omega), show 144 + 9 * s + 1 = 145 + 9 * s by omega]
  refine ⟨vp_nI (by omega) (by decide), ?_⟩
  rintro x2 rfl
  refine ⟨vp_nI (by omega) (by decide), ?_⟩
  rintro x3 rfl
  generalize c (144 + 9 * s) = kd at k hk hg ht ⊢
  generalize c (145 + 9 * s) = t at k hg ht ⊢
  rw [N0, N3, N4]
  by_cases k0 : kd = 0
  · rw [if_pos k0] at k
    rw [if_pos (by rw [k0])]
    exact m_missedYears h0 (hg k0) k
  rw [if_neg k0] at k
  rw [if_neg (by rw [jI_eq (by omega) (by decide)]; exact k0)]
  by_cases k4 : kd = 4
  · rw [if_pos k4] at k
    rw [if_pos (by rw [k4])]
    refine m_isJoked h0 (fun hz => ?_) (fun hz τ hk' => ?_)
    · rw [if_pos (show (0 : Int32) = nI 0 from rfl)]
      unfold jkF at k
      rw [if_pos hz] at k
      exact k σ 1 h0.same
    · rw [if_neg (show ¬ (1 : Int32) = nI 0 by decide)]
      exact k τ 0 hk'
  rw [if_neg k4] at k
  rw [if_neg (by rw [jI_eq (by omega) (by decide)]; exact k4)]
  have ht' := ht (by omega)
  rw [bitn (by omega)]
  by_cases k3 : kd = 3
  · rw [if_pos k3] at k
    rw [if_pos (by rw [k3]), hm 7 (by decide), jI_xor]
    have hlt : c 7 ^^^ 2 ^ t < 2 ^ c 0 := Nat.xor_lt_two_pow ok.n7 (two_lt ht')
    refine k _ 0 ⟨Eo.si (by unfold SMv; omega), by rw [gi_si_a (by decide)], hm.put 7 _, ok.put (Or.inr (Or.inr ⟨rfl, hlt⟩)), ?_, h4, rfl, ?_, ?_, ?_⟩
    · rw [gi_si_a (by decide)]; exact h3
    · rw [gi_si_a (by decide)]; exact h6
    · rw [gi_si_a (by decide)]; exact h7
    · rw [gi_si_a (by decide)]; exact h8
  rw [if_neg k3] at k
  rw [if_neg (by rw [jI_eq (by omega) (by decide)]; exact k3)]
  by_cases k1 : kd = 1
  · rw [if_pos k1] at k
    rw [k1, if_pos rfl]
    unfold w_X12_canUnmake
    rw [hm 6 (by decide), hm 7 (by decide), jI_or, t_has (by omega)]
    unfold unmF at k
    unfold w_X12_does_88
    cases hb : (c 6 ||| c 7).testBit t
    · rw [hb, if_neg (by decide)] at k
      rw [if_pos (show bI false = 0 from rfl)]
      dsimp only
      rw [if_neg (show ¬ (1 : Int32) = 0 by decide), hm 6 (by decide), bit1 (by omega), jI_xor]
      have h6b : (c 6).testBit t = false := by
        rw [Nat.testBit_or, Bool.or_eq_false_iff] at hb
        exact hb.1
      rw [or_xor h6b]
      rintro _ rfl
      rw [if_pos (show nI 1 = 1 from rfl), gi_si_a (by decide), h7, N1, jI_add]
      have hlt : c 6 ||| 2 ^ t < 2 ^ c 0 := or_lt ok.n6 (two_lt ht')
      refine k _ 0 ⟨Eo.tr (S := SMv) (Eo.si (by unfold SMv; omega)) (Eo.si (by unfold SMv; omega)), by rw [gi_si_k (by decide), gi_si_a (by decide)], (hm.put 6 _).vv rfl, ok.put (Or.inr (Or.inl ⟨rfl, hlt⟩)), ?_, h4, rfl, ?_, gi_si_s, ?_⟩
      · rw [gi_si_k (by decide), gi_si_a (by decide)]; exact h3
      · rw [gi_si_k (by decide), gi_si_a (by decide)]; exact h6
      · rw [gi_si_k (by decide), gi_si_a (by decide)]; exact h8
    · rw [hb, if_pos rfl] at k
      rw [if_neg (show ¬ bI true = 0 by decide)]
      dsimp only
      rw [if_pos (show (0 : Int32) = 0 from rfl)]
      exact k σ 1 h0.same
  · rw [if_neg k1] at k
    rw [if_neg (by rw [jI_eq (by omega) (by decide)]; exact k1), hm 6 (by decide), t_has (by omega)]
    unfold remF at k
    unfold w_X12_does_88
    cases hb : (c 6).testBit t
    · rw [hb, if_neg (by decide)] at k
      rw [if_pos (show bI false = 0 from rfl)]
      exact k σ 1 h0.same
    · rw [hb, if_pos rfl] at k
      rw [if_neg (show ¬ bI true = 0 by decide), hm 6 (by decide), bit1 (by omega), jI_xor, sd_xor hb]
      rintro _ rfl
      rw [N1, if_neg (by rw [jI_eq (by omega) (by decide)]; exact k1), gi_si_a (by decide), h7, N0, jI_add, Nat.add_zero]
      have hlt : sd (c 6) (2 ^ t) < 2 ^ c 0 := sub_lt sub_sd ok.n6
      refine k _ 0 ⟨Eo.tr (S := SMv) (Eo.si (by unfold SMv; omega)) (Eo.si (by unfold SMv; omega)), by rw [gi_si_k (by decide), gi_si_a (by decide)], (hm.put 6 _).vv rfl, ok.put (Or.inr (Or.inl ⟨rfl, hlt⟩)), ?_, h4, rfl, ?_, gi_si_s, ?_⟩
      · rw [gi_si_k (by decide), gi_si_a (by decide)]; exact h3
      · rw [gi_si_k (by decide), gi_si_a (by decide)]; exact h6
      · rw [gi_si_k (by decide), gi_si_a (by decide)]; exact h8
