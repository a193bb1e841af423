/-! ===== promises 43, 44: again; class and model ===== -/
def isMn (c : Nat → Nat) (raw X b : Nat) : Prop := (b = 0 ∧ ∀ M, ¬ MkN c raw (card X) M X) ∨ ∃ M, b = M + 1 ∧ MkN c raw (card X) M X ∧ ∀ M', MkN c raw (card X) M' X → M ≤ M'
def lastM (c : Nat → Nat) (raw X m M : Nat) : Prop := X.testBit (c (20 + m)) = true ∧ ∃ M0, MkN c raw (card (sd X (2 ^ c (20 + m)))) M0 (sd X (2 ^ c (20 + m))) ∧ M = M0 ||| 2 ^ m ∧ sub (c (36 + m)) (sd X (2 ^ c (20 + m)) ||| raw)
theorem lastM_iff {c : Nat → Nat} {raw X M : Nat} (hX : X < 4096) (h0 : X ≠ 0) : MkN c raw (card X) M X ↔ ∃ m, m < c 1 ∧ lastM c raw X m M := by
  have hp := card_pos hX h0
  obtain ⟨q, hq⟩ : ∃ q, card X = q + 1 := ⟨card X - 1, by omega⟩
  rw [hq]
  constructor
  · rintro ⟨m, M0, h1, h2, h3, h4, h5⟩
    have := card_sd hX h2
    refine ⟨m, h1, h2, M0, ?_, h4, h5⟩
    rw [show card (sd X (2 ^ c (20 + m))) = q by omega]
    exact h3
  · rintro ⟨m, h1, h2, M0, h3, h4, h5⟩
    have := card_sd hX h2
    rw [show card (sd X (2 ^ c (20 + m))) = q by omega] at h3
    exact ⟨m, M0, h1, h2, h3, h4, h5⟩
theorem jI_sdOr {a b d : Nat} : nI a &&& ~~~(nI b ||| nI d) = nI (sd a (b ||| d)) := by rw [jI_or, jI_andn]
theorem and_two {x p : Nat} : x &&& 2 ^ p = 0 ↔ x.testBit p = false := by
  rw [Nat.and_comm]
  exact two_and
theorem c_leastMakingAll {σ : Sto} {c : Nat → Nat} {P : Int32 → Sto → Prop} {N : Nat} (h : KW N σ c) (ok : OK c) {X raw : Nat} (hX : X < 2 ^ c 0) (h0 : X ≠ 0) (hraw : raw < 4096)
    (ht : ∀ p, X.testBit p = true → ∃ b, gi σ 87 (sd X (2 ^ p)) = oI b ∧ b ≤ 65536 ∧ isMn c raw (sd X (2 ^ p)) b) (k : ∀ b, b ≤ 65536 → isMn c raw X b → P (oI b) σ) : w_X5_leastMakingAll (nI X) (nI raw) σ P := by
  have := ok.n0
  have := ok.n1
  have hp16 := pw16 ok
  have hX12 := p12 hX ok.n0
  unfold w_X5_leastMakingAll
  refine Lp_for (c 1) (fun j q => (∃ b, q.1 = oI b ∧ b ≤ 65536 ∧ ((b = 0 ∧ ∀ m, m < j → ∀ M, ¬ lastM c raw X m M) ∨ ∃ M m0, b = M + 1 ∧ m0 < j ∧ lastM c raw X m0 M ∧ ∀ m, m < j → ∀ M', lastM c raw X m M' → M ≤ M')) ∧ q.2.1 = nI j ∧ q.2.2 = σ) ⟨⟨0, rfl, by decide, Or.inl ⟨rfl, fun m hm => absurd hm (Nat.not_lt_zero _)⟩⟩, rfl, rfl⟩ ?_ ?_
  · rintro j hj K ⟨x3, x4, τ⟩ ⟨⟨b, r3, hb, hin⟩, r4, e⟩ hK
    dsimp only at r3 r4 e hK ⊢
    subst r3 r4 e
    have hn : ¬ c 1 ≤ j := by omega
    have hpj := ok.made j hj
    have hpl := ok.parts j hj
    have hp12 := p12 hpl ok.n0
    have skip : (∀ M, ¬ lastM c raw X j M) → K (oI b, nI (j + 1), τ) := fun hno => hK _ ⟨⟨b, rfl, hb, by
      rcases hin with ⟨i1, i2⟩ | ⟨M, m0, i1, i2, i3, i4⟩
      · refine Or.inl ⟨i1, fun m hm => ?_⟩
        by_cases hmj : m = j
        · rw [hmj]; exact hno
        · exact i2 m (by omega)
      · refine Or.inr ⟨M, m0, i1, by omega, i3, fun m hm M' hM' => ?_⟩
        by_cases hmj : m = j
        · rw [hmj] at hM'; exact absurd hM' (hno M')
        · exact i4 m (by omega) M' hM'⟩, rfl, rfl⟩
    unfold w_X5_leastMakingAll_5
    refine ⟨h.p93.1, ?_⟩
    rw [show gi τ (gr τ 93 5) 9 = nI (c 1) from h.p93.2.1 1 (by decide), if_neg (by rw [jI_le (by omega) (by omega)]; exact hn), tn_nI (by omega), h.p93.2.2.2.1 j hj, h.p93.2.2.2.2.1 j hj, bit1 (by omega)]
    refine ⟨vp_nI (by omega) (by decide), ?_⟩
    rintro x5 rfl
    rw [jI_andn, jI_and]
    rintro x6 rfl
    have hsd := sd_12' (b := 2 ^ c (20 + j)) hX12
    have ha := and_12 (b := 2 ^ c (20 + j)) hX12
    rw [N0, N1, jI_add]
    cases hbit : X.testBit (c (20 + j))
    · rw [if_pos (by rw [and_two.mpr hbit])]
      rintro x rfl
      exact skip (fun M q => by rw [q.1] at hbit; cases hbit)
    · rw [if_neg (by rw [jI_eq (by omega) (by decide), and_two, hbit]; decide), tn_nI (by omega)]
      refine ⟨vp_nI hsd (by decide), ?_⟩
      obtain ⟨b0, t1, t2, t3⟩ := ht _ hbit
      rw [t1]
      rcases t3 with ⟨z1, z2⟩ | ⟨M0, z1, z2, z3⟩
      · rw [z1, if_pos (show oI 0 = -nI 1 from rfl)]
        rintro x rfl
        exact skip (fun M ⟨_, M0, q, _⟩ => z2 M0 q)
      · subst z1
        rw [show oI (M0 + 1) = nI M0 from rfl, if_neg (show ¬ nI M0 = -nI 1 from jI_none (by omega))]
        have hs2 := sd_12' (b := sd X (2 ^ c (20 + j)) ||| raw) hp12
        have hM0 := z2.lt
        rw [jI_sdOr, ← N1, bit1 (by omega), jI_or]
        by_cases hd : sd (c (36 + j)) (sd X (2 ^ c (20 + j)) ||| raw) = 0
        · rw [if_pos (by rw [hd])]
          have hv : M0 ||| 2 ^ j < 2 ^ c 1 := or_lt hM0 (two_lt hj)
          have hnew := z2.new
          have hlast : lastM c raw X j (M0 ||| 2 ^ j) := ⟨hbit, M0, z2, rfl, sd_zero.mp hd⟩
          have hleast : ∀ M', lastM c raw X j M' → M0 ||| 2 ^ j ≤ M' := fun M' ⟨_, M1, q1, q2, _⟩ => by
            rw [q2]
            have := q1.lt
            exact or_le (by omega) (by omega) (by omega) hnew q1.new (z3 M1 q1)
          rintro x7 rfl
          rcases hin with ⟨i1, i2⟩ | ⟨M, m0, i1, i2, i3, i4⟩
          · rw [i1, if_pos (show oI 0 = -1 from rfl)]
            rintro x rfl
            refine hK _ ⟨⟨(M0 ||| 2 ^ j) + 1, rfl, by omega, Or.inr ⟨_, j, rfl, by omega, hlast, fun m hm M' hM' => ?_⟩⟩, rfl, rfl⟩
            by_cases hmj : m = j
            · rw [hmj] at hM'; exact hleast M' hM'
            · exact absurd hM' (i2 m (by omega) M')
          · rw [i1, show oI (M + 1) = nI M from rfl, if_neg (jI_none (by omega))]
            rintro x rfl
            rintro y rfl
            rw [jI_min (by omega) (by omega)]
            by_cases hl : M0 ||| 2 ^ j < M
            · have e1 : Nat.min (M0 ||| 2 ^ j) M = M0 ||| 2 ^ j := by show min _ _ = _; omega
              rw [e1]
              refine hK _ ⟨⟨(M0 ||| 2 ^ j) + 1, rfl, by omega, Or.inr ⟨_, j, rfl, by omega, hlast, fun m hm M' hM' => ?_⟩⟩, rfl, rfl⟩
              by_cases hmj : m = j
              · rw [hmj] at hM'; exact hleast M' hM'
              · have := i4 m (by omega) M' hM'
                omega
            · have e1 : Nat.min (M0 ||| 2 ^ j) M = M := by show min _ _ = _; omega
              rw [e1]
              refine hK _ ⟨⟨M + 1, rfl, by omega, Or.inr ⟨M, m0, rfl, by omega, i3, fun m hm M' hM' => ?_⟩⟩, rfl, rfl⟩
              by_cases hmj : m = j
              · rw [hmj] at hM'
                have := hleast M' hM'
                omega
              · exact i4 m (by omega) M' hM'
        · rw [if_neg (by rw [jI_eq (by omega) (by decide)]; exact hd)]
          rintro x rfl
          exact skip (fun M q => by
            obtain ⟨-, -, -, -, q5⟩ := q
            exact hd (sd_zero.mpr q5))
  · rintro K ⟨x3, x4, τ⟩ ⟨⟨b, r3, hb, hin⟩, r4, e⟩
    dsimp only at r3 r4 e ⊢
    subst r3 r4 e
    unfold w_X5_leastMakingAll_5
    refine ⟨h.p93.1, ?_⟩
    rw [show gi τ (gr τ 93 5) 9 = nI (c 1) from h.p93.2.1 1 (by decide), if_pos (by rw [jI_le (by omega) (by omega)]; exact Nat.le_refl _)]
    refine k b hb ?_
    rcases hin with ⟨i1, i2⟩ | ⟨M, m0, i1, i2, i3, i4⟩
    · refine Or.inl ⟨i1, fun M hM => ?_⟩
      obtain ⟨m, hm, hl⟩ := (lastM_iff hX12 h0).mp hM
      exact i2 m hm M hl
    · refine Or.inr ⟨M, i1, (lastM_iff hX12 h0).mpr ⟨m0, i2, i3⟩, fun M' hM' => ?_⟩
      obtain ⟨m, hm, hl⟩ := (lastM_iff hX12 h0).mp hM'
      exact i4 m hm M' hl
theorem c_leastMaking {σ : Sto} {c : Nat → Nat} {P : Int32 → Sto → Prop} {N : Nat} (h : KW N σ c) (ok : OK c) (hN : N ≤ 2000) {t : Nat} (ht : t < c 0) (k : ∀ τ, Eo SQ σ τ → KW N τ c → P (oI (againF c t)) τ) : w_X5_leastMaking (nI t) σ P := by
  have := ok.n0
  have := ok.n1
  have hp16 := pw16 ok
  unfold w_X5_leastMaking
  refine t_atPresent h.kb.1 ok hN (fun υ e1 h1 => ?_)
  have hw1 := h.e89 e1 h1
  have e1' : Eo SQ σ υ := e1.mo (fun _ _ => S89q)
  have hmd : gi υ 88 2 = nI (madeF c) := h1.2.2.1
  rw [hmd, jI_31 (by omega), jI_and]
  simp only [N0, N1, jI_bit0 (show t < 32 by omega)]
  have hk1 := k υ e1' hw1
  cases hnow : (nowF c).testBit t
  · rw [aga_none ok hnow] at hk1
    rw [if_pos rfl]
    exact hk1
  rw [if_neg (by decide)]
  cases hmade : (madeF c).testBit t
  · rw [aga_raw hnow hmade] at hk1
    rw [if_pos rfl]
    exact hk1
  rw [if_neg (by decide)]
  generalize hf : nowF c &&& madeF c = f
  have hfl : f < 2 ^ c 0 := by rw [← hf]; exact sub_lt and_sub (upF_lt ok)
  have hf12 := p12 hfl ok.n0
  have hft : f.testBit t = true := by rw [← hf, Nat.testBit_and, hnow, hmade]; rfl
  have hcf := card_le (a := f)
  have hp : 2 ^ card f ≤ 4096 := by
    have : (4096 : Nat) = 2 ^ 12 := by decide
    rw [this]; exact Nat.pow_le_pow_right (by decide) hcf
  have hpp := Nat.two_pow_pos (card f)
  rintro x3 rfl
  rw [t_bitCount12 hf12]
  have hb1 : ∀ x, (nI 1 : Int32) <<< (nI x &&& 31) = (1 : Int32) <<< (nI x &&& 31) := fun _ => rfl
  rw [hb1, bit1 (by omega)]
  rintro x4 rfl
  have hrk : rkF f f 12 + 1 = 2 ^ card f := rk_low 12 (fun _ _ => rfl)
  -- table: what is behind set e
  refine Lp_for (2 ^ card f - 1) (fun m q => ∃ e, q.2.2.1 = nI e ∧ sub e f ∧ rkF f e 12 = m ∧ q.2.2.2.1 = nI (m + 1) ∧ Eo SQ σ q.2.2.2.2 ∧ KW N q.2.2.2.2 c ∧ (∀ X, sub X f → X ≤ e → ∃ b, gi q.2.2.2.2 87 X = oI b ∧ b ≤ 65536 ∧ isMn c (baseF c (c 6)) X b) ∧
    ((q.1 = -1 ∧ q.2.1 = nI 13 ∧ ∀ X, sub X f → X ≤ e → X.testBit t = true → ∀ M, ¬ MkN c (baseF c (c 6)) (card X) M X) ∨ ∃ M Y, q.1 = nI M ∧ q.2.1 = nI (card Y) ∧ sub Y f ∧ Y.testBit t = true ∧ MkN c (baseF c (c 6)) (card Y) M Y ∧ ∀ X, sub X f → X ≤ e → X.testBit t = true → ∀ M', MkN c (baseF c (c 6)) (card X) M' X → card Y < card X ∨ (card Y = card X ∧ M ≤ M'))) ⟨0, rfl, (fun k hk => by rw [Nat.zero_testBit] at hk; cases hk), rk_zero 12 (fun i _ => Nat.zero_testBit i), rfl, e1'.tr (Eo.si (SXq (Or.inl rfl))), hw1.ex (Eo.si (Or.inl rfl)), ?_, Or.inl ⟨rfl, rfl, fun X hX hX0 hXt => ?_⟩⟩ ?_ ?_
  · intro X hX hX0
    have : X = 0 := by omega
    subst this
    refine ⟨1, by dsimp only; rw [gi_si_s]; rfl, by decide, Or.inr ⟨0, rfl, ?_, fun _ _ => Nat.zero_le _⟩⟩
    rw [card_0]
    exact ⟨rfl, rfl⟩
  · have : X = 0 := by omega
    rw [this, Nat.zero_testBit] at hXt
    cases hXt
  · rintro m hm K ⟨x5, x6, x7, x8, τ⟩ ⟨e, r7, hsub, hrke, r8, e2, hw2, htab, hans⟩ hK
    dsimp only at r7 r8 e2 hw2 htab hans hK ⊢
    subst r7 r8
    have hef : e ≠ f := fun q => by rw [q] at hrke; omega
    have hgt := nx_gt hsub hf12 hef
    have hnsub := nx_sub hsub hf12
    have hrk2 := rk_next hsub hf12 hef
    have hnle := sub_le hnsub
    have hnlt := sub_lt hnsub hfl
    unfold w_X5_leastMaking_72
    rw [if_neg (by rw [jI_le (by omega) (by omega)]; omega)]
    unfold w_X5_nextWithin
    have hmd2 : gi τ 88 2 = nI (madeF c) := hw2.kb.1.2.2.1
    rw [jI_nx]
    dsimp only
    rw [hmd2, jI_andn, raw_base]
    have hbase : baseF c (c 6) < 4096 := sd_12' (sd_12' (p12 all_lt ok.n0))
    refine c_leastMakingAll hw2 ok hnlt (by omega) hbase (fun p hp => htab _ (sub_sd.tr hnsub) ?_) (fun b hb hmn => ?_)
    · have h1 := sd_two_lt hp
      refine Classical.byContradiction (fun q => ?_)
      have := nx_next hsub hf12 hef (s := sd (nxN f e) (2 ^ p)) (sub_sd.tr hnsub) (by omega)
      omega
    · refine ⟨vp_nI (by omega) (by decide), ?_⟩
      rw [tn_nI (by omega), t_bitCount12 (by omega), gi_si_s, jI_31 (by omega)]
      have e3 : Eo SX τ (si τ 87 (nxN f e) (oI b)) := Eo.si (Or.inl rfl)
      have hw3 := hw2.ex e3
      have e4 : Eo SQ σ (si τ 87 (nxN f e) (oI b)) := e2.tr (e3.mo (fun _ _ => SXq))
      have hcn := card_le (a := nxN f e)
      have split1 : ∀ X, sub X f → X ≤ nxN f e → X = nxN f e ∨ X ≤ e := fun X hX hl => by
        by_cases hq : X = nxN f e
        · exact Or.inl hq
        · refine Or.inr (Classical.byContradiction (fun q => ?_))
          have := nx_next hsub hf12 hef hX (by omega)
          omega
      have tab2 : ∀ X, sub X f → X ≤ nxN f e → ∃ b', gi (si τ 87 (nxN f e) (oI b)) 87 X = oI b' ∧ b' ≤ 65536 ∧ isMn c (baseF c (c 6)) X b' := fun X hX hl => by
        rcases split1 X hX hl with q | q
        · subst q; exact ⟨b, gi_si_s, hb, hmn⟩
        · rw [gi_si_k (by omega)]; exact htab X hX q
      rw [show (-1 : Int32) = -nI 1 from rfl]
      simp only [N0, N1, jI_add, jI_bit0 (show t < 32 by omega)]
      have stay : (∀ M, (nxN f e).testBit t = true → MkN c (baseF c (c 6)) (card (nxN f e)) M (nxN f e) → ∃ M0 Y, x5 = nI M0 ∧ x6 = nI (card Y) ∧ sub Y f ∧ Y.testBit t = true ∧ MkN c (baseF c (c 6)) (card Y) M0 Y ∧ (∀ X, sub X f → X ≤ e → X.testBit t = true → ∀ M', MkN c (baseF c (c 6)) (card X) M' X → card Y < card X ∨ (card Y = card X ∧ M0 ≤ M')) ∧ (card Y < card (nxN f e) ∨ (card Y = card (nxN f e) ∧ M0 ≤ M))) → K (x5, x6, nI (nxN f e), nI (m + 1 + 1), si τ 87 (nxN f e) (oI b)) := fun hs => hK _ ⟨nxN f e, rfl, hnsub, by rw [hrk2, hrke], rfl, e4, hw3, tab2, by
        dsimp only
        rcases hans with ⟨a1, a2, a3⟩ | ⟨M, Y, a1, a2, a3, a4, a5, a6⟩
        · by_cases hex : ∃ M, (nxN f e).testBit t = true ∧ MkN c (baseF c (c 6)) (card (nxN f e)) M (nxN f e)
          · obtain ⟨M, g1, g2⟩ := hex
            obtain ⟨M0, Y, q1, -⟩ := hs M g1 g2
            rw [q1] at a1
            have hM0 : M0 < 2147483648 ∨ ¬ M0 < 2147483648 := Classical.em _
            exact Or.inl ⟨by rw [q1]; exact a1, a2, fun X hX hl hXt M' hM' => by
              rcases split1 X hX hl with q | q
              · obtain ⟨M1, Y1, w1, w2, w3, w4, w5, w6, w7⟩ := hs M g1 g2
                have := MkN.card _ _ _ w5
                have hc1 := card_le (a := Y1)
                rw [a2] at w2
                have := (jI_eq (a := 13) (b := card Y1) (by decide) (by omega)).mp w2
                omega
              · exact a3 X hX q hXt M' hM'⟩
          · refine Or.inl ⟨a1, a2, fun X hX hl hXt M' hM' => ?_⟩
            rcases split1 X hX hl with q | q
            · subst q; exact hex ⟨M', hXt, hM'⟩
            · exact a3 X hX q hXt M' hM'
        · refine Or.inr ⟨M, Y, a1, a2, a3, a4, a5, fun X hX hl hXt M' hM' => ?_⟩
          rcases split1 X hX hl with q | q
          · subst q
            obtain ⟨M0, Y0, q1, q2, q3, q4, q5, q6, q7⟩ := hs M' hXt hM'
            have hY := card_le (a := Y)
            have hY0 := card_le (a := Y0)
            have hM1 := a5.lt
            have hM2 := q5.lt
            rw [a1] at q1
            rw [a2] at q2
            have z1 := (jI_eq (by omega) (by omega)).mp q1
            have z2 := (jI_eq (by omega) (by omega)).mp q2
            omega
          · exact a6 X hX q hXt M' hM'⟩
      have take : ∀ M, b = M + 1 → (nxN f e).testBit t = true → (∀ X, sub X f → X ≤ e → X.testBit t = true → ∀ M', MkN c (baseF c (c 6)) (card X) M' X → card (nxN f e) < card X ∨ (card (nxN f e) = card X ∧ M ≤ M')) → w_X5_leastMaking_164 K (nI t) (nI (nowF c)) (nI f) (nI (2 ^ card f)) (nI (nxN f e)) (nI (m + 1)) (nI (card (nxN f e))) (si τ 87 (nxN f e) (oI b)) P := fun M hbM hbt hall => by
        unfold w_X5_leastMaking_164
        rw [tn_nI (by omega), gi_si_s, hbM, N1, jI_add]
        refine ⟨vp_nI (by omega) (by decide), ?_⟩
        rintro x rfl
        rintro y rfl
        have hMk : MkN c (baseF c (c 6)) (card (nxN f e)) M (nxN f e) ∧ ∀ M', MkN c (baseF c (c 6)) (card (nxN f e)) M' (nxN f e) → M ≤ M' := by
          rcases hmn with ⟨z, -⟩ | ⟨M1, z1, z2, z3⟩
          · omega
          · have : M1 = M := by omega
            rw [← this]
            exact ⟨z2, z3⟩
        rw [hbM] at e4 hw3 tab2
        refine hK _ ⟨nxN f e, rfl, hnsub, by rw [hrk2, hrke], rfl, e4, hw3, tab2, Or.inr ⟨M, nxN f e, rfl, rfl, hnsub, hbt, hMk.1, fun X hX hl hXt M' hM' => ?_⟩⟩
        rcases split1 X hX hl with q | q
        · subst q
          exact Or.inr ⟨rfl, hMk.2 M' hM'⟩
        · exact hall X hX q hXt M' hM'
      rcases hmn with ⟨z1, z2⟩ | ⟨M, z1, z2, z3⟩
      · rw [if_pos (show oI b = -nI 1 by rw [z1]; rfl)]
        rintro x rfl
        exact stay (fun M _ hM => absurd hM (z2 M))
      · have hMlt := z2.lt
        have hob : oI b = nI M := by rw [z1]; rfl
        rw [if_neg (show ¬ oI b = -nI 1 by rw [hob]; exact jI_none (by omega))]
        cases hbt : (nxN f e).testBit t
        · rw [if_pos rfl]
          rintro x rfl
          exact stay (fun M' q _ => by rw [hbt] at q; cases q)
        · rw [if_neg (by decide)]
          rcases hans with ⟨a1, a2, a3⟩ | ⟨M0, Y, a1, a2, a3, a4, a5, a6⟩
          · rw [a2, if_pos (by rw [jI_lt (by omega) (by decide)]; omega)]
            exact take M z1 hbt (fun X hX hl hXt M' hM' => absurd hM' (a3 X hX hl hXt M'))
          · have hY := card_le (a := Y)
            have hM0 := a5.lt
            rw [a2]
            by_cases hl1 : card (nxN f e) < card Y
            · rw [if_pos ((jI_lt (by omega) (by omega)).mpr hl1)]
              exact take M z1 hbt (fun X hX hl hXt M' hM' => by have := a6 X hX hl hXt M' hM'; omega)
            · rw [if_neg (fun q => hl1 ((jI_lt (by omega) (by omega)).mp q))]
              by_cases hl2 : card (nxN f e) = card Y
              · rw [if_pos (by rw [hl2]), a1, hob]
                by_cases hl3 : M0 ≤ M
                · rw [if_pos ((jI_le (by omega) (by omega)).mpr hl3)]
                  rintro x rfl
                  rw [← hl2, ← a1, hl2, ← a2]
                  rw [← hob]
                  exact stay (fun M' _ hM' => ⟨M0, Y, a1, a2, a3, a4, a5, a6, Or.inr ⟨hl2.symm, by have := z3 M' hM'; omega⟩⟩)
                · rw [if_neg (fun q => hl3 ((jI_le (by omega) (by omega)).mp q)), ← hob]
                  exact take M z1 hbt (fun X hX hl hXt M' hM' => by have := a6 X hX hl hXt M' hM'; omega)
              · rw [if_neg (by rw [jI_eq (by omega) (by omega)]; exact hl2)]
                rintro x rfl
                rw [← a2]
                exact stay (fun M' _ hM' => ⟨M0, Y, a1, a2, a3, a4, a5, a6, Or.inl (by omega)⟩)
  · rintro K ⟨x5, x6, x7, x8, τ⟩ ⟨e, r7, hsub, hrke, r8, e2, hw2, htab, hans⟩
    dsimp only at r7 r8 e2 hw2 htab hans ⊢
    subst r7 r8
    unfold w_X5_leastMaking_72
    rw [if_pos (by rw [jI_le (by omega) (by omega)]; omega)]
    have hall : ∀ X, sub X f → X ≤ e := fun X hX => Classical.byContradiction (fun q => by
      have hef : e ≠ f := fun z => by have := sub_le hX; omega
      have h1 := rk_next hsub hf12 hef
      have h2 := rk_lt (f := f) (e := nxN f e)
      omega)
    have hk2 := k τ e2 hw2
    rcases hans with ⟨a1, a2, a3⟩ | ⟨M, Y, a1, a2, a3, a4, a5, a6⟩
    · obtain ⟨k0, M', h1, h2, h3⟩ := MkN.full (c := c) (g := c 6) (M := ALL) 13
      have h2' : MkN c (baseF c (c 6)) k0 M' (sd (nowF c) (baseF c (c 6))) := h2
      have hin : sub (sd (nowF c) (baseF c (c 6))) f := fun q hq => by
        rw [sd_bit, Bool.and_eq_true] at hq
        have b2 := st_made (g := c 6) (mk := ALL) q hq.1
        rw [Nat.testBit_or, Bool.or_eq_true] at b2
        rw [← hf, Nat.testBit_and, hq.1]
        rcases b2 with y | y
        · rw [y] at hq; simp at hq
        · rw [y]; rfl
      have htX : (sd (nowF c) (baseF c (c 6))).testBit t = true := by
        rw [sd_bit, hnow]
        cases hb : (baseF c (c 6)).testBit t with
        | false => rfl
        | true => rw [base_made hb] at hmade; cases hmade
      have hkk := MkN.card _ _ _ h2' (sd_12' (p12 (upF_lt ok) ok.n0))
      rw [← hkk] at h2'
      exact absurd h2' (a3 _ hin (hall _ hin) htX M')
    · rw [← hf] at a3
      have := aga_of ok hmade a3 a4 a5 (fun M' X' hX' hXt hM' => by
        rw [hf] at hX'
        exact a6 X' hX' (hall X' hX') hXt M' hM')
      rw [this] at hk2
      rw [a1]
      exact hk2
