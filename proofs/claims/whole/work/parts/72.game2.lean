/-! ===== promises 41, 42: game, first move; both sides ===== -/
theorem in14 {y : Int32} : (¬ y < 1 ∧ y ≤ 4) ↔ ∃ n, 1 ≤ n ∧ n ≤ 4 ∧ y = nI n := by
  have h1 : (1 : Int32).toInt = 1 := by decide
  have h4 : (4 : Int32).toInt = 4 := by decide
  constructor
  · rintro ⟨a, b⟩
    rw [Int32.lt_iff_toInt_lt, h1] at a
    rw [Int32.le_iff_toInt_le, h4] at b
    refine ⟨y.toInt.toNat, by omega, by omega, ?_⟩
    apply Int32.toInt_inj.mp
    rw [jI_toInt (by omega)]
    omega
  · rintro ⟨n, a, b, rfl⟩
    rw [Int32.lt_iff_toInt_lt, Int32.le_iff_toInt_le, h1, h4, jI_toInt (by omega)]
    omega
theorem in14L {y : Int32} : ((1 : Int64) ≤ y.toInt64 ∧ y.toInt64 ≤ 4) ↔ (¬ y < 1 ∧ y ≤ 4) := by
  have h1 : (1 : Int32).toInt = 1 := by decide
  have h4 : (4 : Int32).toInt = 4 := by decide
  have h1' : (1 : Int64).toInt = 1 := by decide
  have h4' : (4 : Int64).toInt = 4 := by decide
  rw [Int64.le_iff_toInt_le, Int64.le_iff_toInt_le, i64_int, h1', h4', Int32.lt_iff_toInt_lt, Int32.le_iff_toInt_le, h1, h4]
  omega
/-- a game's arguments: a set of works, turns -/
def gamB (c : Nat → Nat) (x y : Int32) (A : Nat → Nat → Int32 × Int32) : Int32 × Int32 := if ¬ x < 0 ∧ x < nI (2 ^ c 2) then (if ¬ y < 1 ∧ y ≤ 4 then A (tn x) (tn y) else (-1, 5)) else (-1, 5)
theorem pw6 {c : Nat → Nat} (ok : OK c) : 2 ^ c 2 ≤ 64 := by
  have : (64 : Nat) = 2 ^ 6 := by decide
  rw [this]; exact Nat.pow_le_pow_right (by decide) ok.n2
theorem gamB_pos {c : Nat → Nat} (ok : OK c) {w n : Nat} {A : Nat → Nat → Int32 × Int32} (hw : w < 2 ^ c 2) (h1 : 1 ≤ n) (h4 : n ≤ 4) : gamB c (nI w) (nI n) A = A w n := by
  have := pw6 ok
  unfold gamB
  rw [ifD_pos hw (by omega), if_pos (in14.mpr ⟨n, h1, h4, rfl⟩), tn_nI (by omega), tn_nI (by omega)]
theorem gamB_x {c : Nat → Nat} (ok : OK c) {x y : Int32} {A : Nat → Nat → Int32 × Int32} (hx : ¬ inD x (2 ^ c 2)) : gamB c x y A = (-1, 5) := by
  have := pw6 ok
  exact ifD_neg hx (by omega)
theorem gamB_y {c : Nat → Nat} {x y : Int32} {A : Nat → Nat → Int32 × Int32} (hy : ¬ (¬ y < 1 ∧ y ≤ 4)) : gamB c x y A = (-1, 5) := by
  unfold gamB
  by_cases hx : ¬ x < 0 ∧ x < nI (2 ^ c 2)
  · rw [if_pos hx, if_neg hy]
  · rw [if_neg hx]
def gameA (c : Nat → Nat) (x y : Int32) : Int32 × Int32 := gamB c x y (fun w n => (zI (plF c w n (c 6) true), 0))
def firstMoveA (c : Nat → Nat) (x y : Int32) : Int32 × Int32 := gamB c x y (fun w n => orA (fmF c w (n - 1) (c 6) true))
theorem c_noGame {σ : Sto} {c : Nat → Nat} {P : Int32 → Sto → Prop} {N : Nat} (h : KW N σ c) (ok : OK c) {x y : Int32} (k1 : (∀ A, gamB c x y A = (-1, 5)) → P 1 σ) (k0 : ∀ w n, w < 2 ^ c 2 → 1 ≤ n → n ≤ 4 → x = nI w → y = nI n → P 0 σ) : w_X11_noGame x y σ P := by
  have := pw6 ok
  have := ok.n2
  have hx := inD_iff (x := x) (N := 2 ^ c 2) (by omega)
  unfold w_X11_noGame
  rw [show gi σ (gr σ 1 11) 10 = nI (c 2) from h.f (k := 2) (by decide), bit1 (by omega)]
  by_cases h1 : x < 0
  · rw [if_pos h1]; exact k1 (fun A => gamB_x ok (fun q => (hx.mp q).1 h1))
  rw [if_neg h1]
  refine ⟨h.1, ?_⟩
  by_cases h2 : nI (2 ^ c 2) ≤ x
  · rw [if_pos h2]
    refine k1 (fun A => gamB_x ok (fun q => ?_))
    have h3 := (hx.mp q).2
    rw [Int32.le_iff_toInt_le] at h2
    rw [Int32.lt_iff_toInt_lt] at h3
    omega
  rw [if_neg h2]
  have h2' : x < nI (2 ^ c 2) := by
    rw [Int32.le_iff_toInt_le] at h2
    rw [Int32.lt_iff_toInt_lt]
    omega
  obtain ⟨w, hw, rfl⟩ := hx.mpr ⟨h1, h2'⟩
  by_cases h3 : y < 1
  · rw [if_pos h3]; exact k1 (fun A => gamB_y (fun q => q.1 h3))
  rw [if_neg h3]
  by_cases h4 : y ≤ 4
  · rw [if_pos h4]
    obtain ⟨n, a, b, rfl⟩ := in14.mp ⟨h3, h4⟩
    exact k0 w n hw a b rfl rfl
  · rw [if_neg h4]; exact k1 (fun A => gamB_y (fun q => h4 q.2))
theorem c_startGame {σ : Sto} {c : Nat → Nat} {P : Sto → Prop} {N : Nat} (h : KW N σ c) {works T : Nat} (k : ∀ τ, Eo SQ σ τ → KW N τ c → MemG τ c works T → gi τ 93 6 = nI works → P τ) : w_X5_startGame (nI works) σ P := by
  have e0 : Eo SX σ (si σ 93 6 (nI works)) := Eo.si (by unfold SX; omega)
  unfold w_X5_startGame
  refine t_fill a87 (by decide) (fun τ e hz => ?_)
  have e1 : Eo SX σ τ := e0.tr (e.mo (fun a k (q : a = 87) => by unfold SX; omega))
  refine k τ (e1.mo (fun _ _ => SXq)) (h.ex e1) (fun g hg => Or.inl (hz g hg)) ?_
  rw [e.1 93 6 (show ¬ (93 : Nat) = 87 by decide)]
  exact gi_si_s
theorem c_game {σ : Sto} {c : Nat → Nat} {P : Int32 → Sto → Prop} {N : Nat} (h : KW N σ c) (ok : OK c) (hN : N ≤ 2000) {x y : Int32} (k : ∀ τ, Eo SQ σ τ → KW N τ c → gi τ 1 15 = (gameA c x y).2 → P (gameA c x y).1 τ) : w_X11_game x y σ P := by
  unfold gameA at k
  unfold w_X11_game
  refine c_noGame h ok (fun e => ?_) (fun w n hw h1 h4 hx hy => ?_)
  · rw [e] at k
    rw [if_neg (by decide)]
    exact k _ stq h.st gi_si_s
  · subst hx hy
    rw [gamB_pos ok hw h1 h4] at k
    rw [if_pos rfl]
    unfold w_X5_worthOfGame
    refine c_startGame h (T := n) (fun τ e1 hw1 hm hmi => ⟨hw1.p93.1, ?_⟩)
    rw [show gi τ (gr τ 93 5) 14 = nI (c 6) from hw1.p93.2.1 6 (by decide)]
    have hp := c_play ok hN (works := w) (T := n) h4 16 (c 6) 0 τ (fun r s => w_X11_fine r s (fun r s => P r s)) ok.n6 (by omega) (by omega) (by omega) hw1 hm hmi (fun υ e2 hw2 _ => by
      exact k _ ((e1.tr (e2.mo (fun _ _ => SPLq))).tr stq) hw2.st gi_si_s)
    exact hp
theorem c_firstMove {σ : Sto} {c : Nat → Nat} {P : Int32 → Sto → Prop} {N : Nat} (h : KW N σ c) (ok : OK c) (hN : N ≤ 2000) {x y : Int32} (k : ∀ τ, Eo SQ σ τ → KW N τ c → gi τ 1 15 = (firstMoveA c x y).2 → P (firstMoveA c x y).1 τ) : w_X11_firstMove x y σ P := by
  have := ok.n0
  unfold firstMoveA at k
  unfold w_X11_firstMove
  refine c_noGame h ok (fun e => ?_) (fun w n hw h1 h4 hx hy => ?_)
  · rw [e] at k
    rw [if_neg (by decide)]
    exact k _ stq h.st gi_si_s
  · subst hx hy
    rw [gamB_pos ok hw h1 h4] at k
    rw [if_pos rfl]
    unfold w_X5_bestOpening
    refine c_startGame h (T := n) (fun τ e1 hw1 hm hmi => ?_)
    refine t_openNow hw1.kb ok hN (fun υ e2 h2 => ?_)
    have hw2 : KW N υ c := hw1.mk e2 h2
    have hm2 : MemG υ c w n := fun g' hg' => by rw [e2.1 87 g' (by unfold S89; decide)]; exact hm g' hg'
    have hmi2 : gi υ 93 6 = nI w := by rw [e2.1 93 6 (by unfold S89; decide)]; exact hmi
    have e3 : Eo SQ σ υ := e1.tr (e2.mo (fun _ _ => S89q))
    have hv : ∀ t, -12 ≤ plF c w (n - 1) (c 6 ||| 2 ^ t) false ∧ plF c w (n - 1) (c 6 ||| 2 ^ t) false ≤ 12 := fun t => plF_le ok _ _ _
    have hfm : fmF c w (n - 1) (c 6) true = (foldN (tpS true (opF c (c 6)) (fun t => plF c w (n - 1) (c 6 ||| 2 ^ t) false)) (0, 0) (c 0)).1 := rfl
    rw [hfm] at k
    have hop : openF c = opF c (c 6) := rfl
    rw [hop]
    refine Lp_for (c 0) (fun j q => q.1 = oI (foldN (tpS true (opF c (c 6)) (fun t => plF c w (n - 1) (c 6 ||| 2 ^ t) false)) (0, 0) j).1 ∧ q.2.1 = zI (foldN (plS true (opF c (c 6)) (fun t => plF c w (n - 1) (c 6 ||| 2 ^ t) false)) (seF true) j) ∧ q.2.2.1 = nI j ∧ Eo SQ σ q.2.2.2 ∧ KW N q.2.2.2 c ∧ MemG q.2.2.2 c w n ∧ gi q.2.2.2 93 6 = nI w) ⟨rfl, zI_m99, rfl, e3, hw2, hm2, hmi2⟩ ?_ ?_
    · rintro j hj K ⟨x4, x5, x6, φ⟩ ⟨r4, r5, r6, e4, hw3, hm3, hmi3⟩ hK
      dsimp only at r4 r5 r6 e4 hw3 hm3 hmi3 hK ⊢
      subst r4 r5 r6
      have hnj : ¬ c 0 ≤ j := by omega
      have hst1 : foldN (tpS true (opF c (c 6)) (fun t => plF c w (n - 1) (c 6 ||| 2 ^ t) false)) (0, 0) (j + 1) = tpS true (opF c (c 6)) (fun t => plF c w (n - 1) (c 6 ||| 2 ^ t) false) (foldN (tpS true (opF c (c 6)) (fun t => plF c w (n - 1) (c 6 ||| 2 ^ t) false)) (0, 0) j) j := rfl
      have hst2 : foldN (plS true (opF c (c 6)) (fun t => plF c w (n - 1) (c 6 ||| 2 ^ t) false)) (seF true) (j + 1) = plS true (opF c (c 6)) (fun t => plF c w (n - 1) (c 6 ||| 2 ^ t) false) (foldN (plS true (opF c (c 6)) (fun t => plF c w (n - 1) (c 6 ||| 2 ^ t) false)) (seF true) j) j := rfl
      rw [hst1, hst2] at hK
      have htp := tp_fold (f := true) (op := opF c (c 6)) hv j
      generalize foldN (tpS true (opF c (c 6)) (fun t => plF c w (n - 1) (c 6 ||| 2 ^ t) false)) (0, 0) j = p at hK htp ⊢
      generalize foldN (plS true (opF c (c 6)) (fun t => plF c w (n - 1) (c 6 ||| 2 ^ t) false)) (seF true) j = q at hK htp ⊢
      have hse : seF true = -99 := rfl
      unfold w_X5_bestOpening_23
      refine ⟨hw3.p93.1, ?_⟩
      rw [show gi φ (gr φ 93 5) 8 = nI (c 0) from hw3.p93.2.1 0 (by decide), if_neg (by rw [jI_le (by omega) (by omega)]; exact hnj), show gi φ (gr φ 93 5) 14 = nI (c 6) from hw3.p93.2.1 6 (by decide), bit1 (by omega), jI_31 (by omega), N1, N0, jI_or, jI_add]
      simp only [jI_bit0 (show j < 32 by omega)]
      unfold plS tpS at hK
      cases hb : (opF c (c 6)).testBit j <;> simp only [hb, Bool.false_eq_true, Bool.true_eq_false, false_and, true_and, ↓reduceIte] at hK ⊢
      · rintro x rfl
        exact hK _ ⟨rfl, rfl, rfl, e4, hw3, hm3, hmi3⟩
      · have hup : (upF c (c 6)).testBit j = true := by
          unfold opF at hb
          rw [sd_bit, Bool.and_eq_true] at hb
          exact hb.1
        have hcg := card_or (by omega : j < 12) (up_not hup)
        have hvj := hv j
        rw [jI_sub (by omega)]
        have hp := c_play ok hN (works := w) (T := n) h4 16 (c 6 ||| 2 ^ j) 1 φ (fun r_11 σ_10 => (if r_11 ≤ zI q then ∀ x6_13 : Int32, x6_13 = nI (j + 1) → K (oI p.1, zI q, x6_13, σ_10) else ∀ x6_15 : Int32, x6_15 = nI (j + 1) → K (nI j, r_11, x6_15, σ_10))) (or_lt ok.n6 (two_lt hj)) hcg (by omega) (by omega) hw3 hm3 hmi3 (fun ψ e5 hw4 hm4 => by
          have e6 : Eo SQ σ ψ := e4.tr (e5.mo (fun _ _ => SPLq))
          have hmi4 : gi ψ 93 6 = nI w := by rw [e5.1 93 6 (by unfold SPL; decide)]; exact hmi3
          have hv1 : ev 1 = false := rfl
          rw [hv1]
          by_cases hl : q < plF c w (n - 1) (c 6 ||| 2 ^ j) false
          · rw [if_neg (by rw [zI_le (by omega) (by omega) (by omega) (by omega)]; omega)]
            rw [if_pos hl, if_pos (by
              rcases htp with ⟨a, b, d, -⟩ | ⟨a, b, d, -⟩
              · exact Or.inl a
              · exact Or.inr (by rw [d]; exact hl))] at hK
            rintro x rfl
            exact hK _ ⟨rfl, rfl, rfl, e6, hw4, hm4, hmi4⟩
          · rw [if_pos (by rw [zI_le (by omega) (by omega) (by omega) (by omega)]; omega)]
            rw [if_neg hl, if_neg (by
              rcases htp with ⟨a, b, d, -⟩ | ⟨a, b, d, -⟩
              · rw [d] at hl; omega
              · rw [d]; exact fun z => z.elim a hl)] at hK
            rintro x rfl
            exact hK _ ⟨rfl, rfl, rfl, e6, hw4, hm4, hmi4⟩)
        exact hp
    · rintro K ⟨x4, x5, x6, φ⟩ ⟨r4, r5, r6, e4, hw3, hm3, hmi3⟩
      dsimp only at r4 r5 r6 e4 hw3 hm3 hmi3 ⊢
      subst r4 r5 r6
      have htp := tp_fold (f := true) (op := opF c (c 6)) hv (c 0)
      unfold w_X5_bestOpening_23
      refine ⟨hw3.p93.1, ?_⟩
      rw [show gi φ (gr φ 93 5) 8 = nI (c 0) from hw3.p93.2.1 0 (by decide), if_pos (by rw [jI_le (by omega) (by omega)]; exact Nat.le_refl _)]
      refine t_fineOrNone (by omega) ?_
      exact k _ (e4.tr stq) hw3.st gi_si_s
/-! == the model == -/
theorem m_plays {c : Nat → Nat} (ok : OK c) {works : Nat} : ∀ (n k g : Nat) (f b : Bool) (σ : Sto) (P : Int32 → Sto → Prop), k < n → k ≤ 4 → g < 2 ^ c 0 → MR σ c → P (zI (plF c works k g f)) (if b = true ∧ k ≠ 0 then si σ 101 33 (oI (fmF c works (k - 1) g f)) else σ) → w_X12_plays n (nI works) (nI g) (nI k) (bI f) (bI b) σ P
  | 0, _, _, _, _, _, _, h, _, _, _, _ => absurd h (Nat.not_lt_zero _)
  | n + 1, k, g, f, b, σ, P, hk, hk4, hg, hm, hP => by
    have := ok.n0
    show w_X12_plays_e (w_X12_plays n) (nI works) (nI g) (nI k) (bI f) (bI b) σ P
    unfold w_X12_plays_e
    refine t_standing hm ok ?_
    have hd := doneF_12 ok (up := upF c g)
    rw [N0]
    cases k with
    | zero =>
      rw [if_pos rfl]
      rw [if_neg (fun q => q.2 rfl)] at hP
      refine t_doneBy hm ok ?_
      rw [jI_and, jI_andn]
      refine t_sizeOf12 (and_12 hd) (t_sizeOf12 (sd_12' hd) ?_)
      rw [zI_sub (Nat.le_trans card_le (by decide)) (Nat.le_trans card_le (by decide))]
      exact hP
    | succ r =>
      rw [if_neg (by rw [jI_eq (by omega) (by decide)]; omega)]
      rw [Nat.add_sub_cancel] at hP
      have hv : ∀ t, -12 ≤ plF c works r (g ||| 2 ^ t) (!f) ∧ plF c works r (g ||| 2 ^ t) (!f) ≤ 12 := fun t => plF_le ok _ _ _
      have hfm : fmF c works r g f = (foldN (tpS f (opF c g) (fun t => plF c works r (g ||| 2 ^ t) (!f))) (0, 0) (c 0)).1 := rfl
      have et : nI (r + 1) - nI 1 = nI r := by rw [jI_sub (by omega)]; rfl
      refine Lp_det (c 0) (fun j => (zI (foldN (tpS f (opF c g) (fun t => plF c works r (g ||| 2 ^ t) (!f))) (0, 0) j).2, oI (foldN (tpS f (opF c g) (fun t => plF c works r (g ||| 2 ^ t) (!f))) (0, 0) j).1, nI j, σ)) (by show (nI 0, (-1 : Int32), nI 0, σ) = (zI 0, oI 0, nI 0, σ); rw [← zI_0]; rfl) (fun j hj K hK => ?_) (fun K => ?_)
      · have hnj : ¬ c 0 ≤ j := by omega
        have htp := tp_fold (f := f) (op := opF c g) hv j
        have hst : foldN (tpS f (opF c g) (fun t => plF c works r (g ||| 2 ^ t) (!f))) (0, 0) (j + 1) = tpS f (opF c g) (fun t => plF c works r (g ||| 2 ^ t) (!f)) (foldN (tpS f (opF c g) (fun t => plF c works r (g ||| 2 ^ t) (!f))) (0, 0) j) j := rfl
        rw [hst] at hK
        have hp1 : (foldN (tpS f (opF c g) (fun t => plF c works r (g ||| 2 ^ t) (!f))) (0, 0) j).1 ≤ 12 ∧ -12 ≤ (foldN (tpS f (opF c g) (fun t => plF c works r (g ||| 2 ^ t) (!f))) (0, 0) j).2 ∧ (foldN (tpS f (opF c g) (fun t => plF c works r (g ||| 2 ^ t) (!f))) (0, 0) j).2 ≤ 12 := by
          rcases htp with ⟨a, b, -⟩ | ⟨a, b, d, e, q⟩ <;> omega
        generalize foldN (tpS f (opF c g) (fun t => plF c works r (g ||| 2 ^ t) (!f))) (0, 0) j = p at hK hp1 ⊢
        dsimp only
        unfold w_X12_plays_46
        rw [hm 0 (by decide), if_neg (by rw [jI_le (by omega) (by omega)]; exact hnj), hm 7 (by decide), jI_andn, show sd (upF c g) (c 7) = opF c g from rfl, t_has (by omega), bit1 (by omega), jI_or, N1, jI_add, et]
        unfold tpS at hK
        cases hb : (opF c g).testBit j <;> simp only [hb, Bool.false_eq_true, false_and, true_and, ↓reduceIte] at hK
        · rw [if_pos (show bI false = 0 from rfl)]
          rintro x rfl
          exact hK
        · rw [if_neg (show ¬ bI true = 0 by decide)]
          have hg2 : g ||| 2 ^ j < 2 ^ c 0 := or_lt hg (two_lt hj)
          have hvj := hv j
          have go : w_X12_plays_101 (w_X12_plays n) K (nI works) (nI g) (nI (r + 1)) (bI f) (bI b) (nI (upF c g)) (zI p.2) (oI p.1) (nI j) (bI (!f)) (nI r) (nI (g ||| 2 ^ j)) (nI works) σ P := by
            unfold w_X12_plays_101
            refine m_plays ok n r (g ||| 2 ^ j) (!f) false σ _ (by omega) (by omega) hg2 hm ?_
            have hz : ∀ (s t : Sto), (if false = true ∧ r ≠ 0 then s else t) = t := fun s t => if_neg (fun q => by cases q.1)
            rw [hz, N1, jI_add]
            by_cases hp0 : p.1 = 0
            · rw [if_pos (Or.inl hp0)] at hK
              rw [if_pos ((oI_neg (by omega)).mpr hp0)]
              rintro x rfl
              exact hK
            · rw [if_neg (show ¬ oI p.1 < 0 from fun q => hp0 ((oI_neg (by omega)).mp q))]
              simp only [hp0, false_or] at hK
              cases f
              · rw [if_pos (show bI false = 0 from rfl)]
                simp only [Bool.false_eq_true, ↓reduceIte] at hK
                by_cases hl : plF c works r (g ||| 2 ^ j) (!false) < p.2
                · rw [if_pos hl] at hK
                  rw [if_pos ((zI_lt (by omega) (by omega) (by omega) (by omega)).mpr hl)]
                  rintro x rfl
                  exact hK
                · rw [if_neg hl] at hK
                  rw [if_neg (fun q => hl ((zI_lt (by omega) (by omega) (by omega) (by omega)).mp q))]
                  rintro x rfl
                  exact hK
              · rw [if_neg (show ¬ bI true = 0 by decide)]
                simp only [↓reduceIte] at hK
                by_cases hl : p.2 < plF c works r (g ||| 2 ^ j) (!true)
                · rw [if_pos hl] at hK
                  rw [if_pos ((zI_lt (by omega) (by omega) (by omega) (by omega)).mpr hl)]
                  rintro x rfl
                  exact hK
                · rw [if_neg hl] at hK
                  rw [if_neg (fun q => hl ((zI_lt (by omega) (by omega) (by omega) (by omega)).mp q))]
                  rintro x rfl
                  exact hK
          cases f
          · rw [if_pos (show bI false = 0 from rfl)]
            exact go
          · rw [if_neg (show ¬ bI true = 0 by decide)]
            exact go
      · have htp := tp_fold (f := f) (op := opF c g) hv (c 0)
        rw [hfm] at hP
        have hpl : opF c g ≠ 0 → plF c works (r + 1) g f = foldN (plS f (opF c g) (fun t => plF c works r (g ||| 2 ^ t) (!f))) (seF f) (c 0) := fun h => if_neg h
        generalize hgen : foldN (tpS f (opF c g) (fun t => plF c works r (g ||| 2 ^ t) (!f))) (0, 0) (c 0) = p at htp hP ⊢
        dsimp only
        unfold w_X12_plays_46
        rw [hm 0 (by decide), if_pos (by rw [jI_le (by omega) (by omega)]; exact Nat.le_refl _)]
        have fin : ∀ τ, MR τ c → P (zI (plF c works (r + 1) g f)) τ → w_X12_plays_162 (w_X12_plays n) (nI works) (nI g) (nI (r + 1)) (bI f) (zI p.2) (oI p.1) τ P := fun τ hmt hPt => by
          unfold w_X12_plays_162
          rcases htp with ⟨a, b', d, e⟩ | ⟨a, b', d, e, q⟩
          · have hop : opF c g = 0 := Classical.byContradiction (fun q => by
              obtain ⟨t, ht⟩ := bit_of q
              rw [e t (bit_n (opF_lt ok) ht)] at ht
              cases ht)
            rw [if_neg (show ¬ 0 ≤ oI p.1 from fun q => (oI_ge (by omega)).mp q a), N1, et]
            have hpass := plF_pass (works := works) hop r (!f)
            rw [plF_pass hop] at hPt
            rw [← hpass] at hPt
            have go : w_X12_plays_183 (w_X12_plays n) (bI (!f)) (nI r) (nI g) (nI works) τ P := by
              unfold w_X12_plays_183
              refine m_plays ok n r g (!f) false τ _ (by omega) (by omega) hg hmt ?_
              have hz : ∀ (s t : Sto), (if false = true ∧ r ≠ 0 then s else t) = t := fun s t => if_neg (fun q => by cases q.1)
              rw [hz]
              exact hPt
            cases f
            · rw [if_pos (show bI false = 0 from rfl)]
              exact go
            · rw [if_neg (show ¬ bI true = 0 by decide)]
              exact go
          · have hop : opF c g ≠ 0 := fun hz => a (by
              have hall : ∀ m, (foldN (tpS f (opF c g) (fun t => plF c works r (g ||| 2 ^ t) (!f))) (0, 0) m).1 = 0 := fun m => foldN_inv (f := tpS f (opF c g) (fun t => plF c works r (g ||| 2 ^ t) (!f))) (a := (0, 0)) (fun _ (p : Nat × Int) => p.1 = 0) rfl (fun t p hp => by
                unfold tpS
                rw [hz, if_neg (fun q => by rw [Nat.zero_testBit] at q; cases q.1)]
                exact hp) m
              rw [← hgen]
              exact hall (c 0))
            rw [if_pos ((oI_ge (by omega)).mpr a), d, ← hpl hop]
            exact hPt
        cases b
        · rw [if_pos (show bI false = 0 from rfl)]
          have hz : ∀ (s t : Sto), (if false = true ∧ r + 1 ≠ 0 then s else t) = t := fun s t => if_neg (fun q => by cases q.1)
          rw [hz] at hP
          exact fin σ hm hP
        · rw [if_neg (show ¬ bI true = 0 by decide)]
          have hz : ∀ (s t : Sto), (if true = true ∧ r + 1 ≠ 0 then s else t) = s := fun s t => if_pos ⟨rfl, by omega⟩
          rw [hz] at hP
          exact fin _ (hm.sm (Eo.si (by unfold SM; omega))) hP
