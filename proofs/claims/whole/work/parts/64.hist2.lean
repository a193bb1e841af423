/-! ===== promises 48, 49: orders of history; the model pushes ===== -/
def gW (n : Nat) (e : Nat → Nat) (r j i t : Nat) : Nat := if r.testBit t = true ∧ sd (e t) (sd r (2 ^ t)) = 0 ∧ (sd r (2 ^ t) < j ∨ (sd r (2 ^ t) = j ∧ t < i)) then WN n e (sd r (2 ^ t)) else 0
def sumG (g : Nat → Nat) (n : Nat) : Nat := foldN (fun a t => a + g t) 0 n
def PW (n : Nat) (e : Nat → Nat) (r j i : Nat) : Nat := if r = 0 then 1 else sumG (gW n e r j i) n
theorem sumG_congr {f g : Nat → Nat} (n : Nat) (h : ∀ t, t < n → f t = g t) : sumG f n = sumG g n := foldN_congr n (fun t ht a => by rw [h t ht])
theorem sumG_add {f g : Nat → Nat} {t0 d : Nat} (h0 : g t0 = f t0 + d) (h : ∀ t, t ≠ t0 → g t = f t) : ∀ n, t0 < n → sumG g n = sumG f n + d
  | 0, q => absurd q (Nat.not_lt_zero _)
  | n + 1, q => by
    show sumG g n + g n = sumG f n + f n + d
    by_cases hn : t0 = n
    · subst hn
      rw [h0, sumG_congr (f := g) (g := f) t0 (fun t ht => h t (by omega))]
      omega
    · rw [sumG_add h0 h n (by omega), h n (fun e => hn e.symm)]
      omega
theorem PW_start {n : Nat} {e : Nat → Nat} {r : Nat} : PW n e r 0 0 = if r = 0 then 1 else 0 := by
  unfold PW
  by_cases h : r = 0
  · rw [if_pos h, if_pos h]
  · rw [if_neg h, if_neg h]
    have : ∀ m, sumG (gW n e r 0 0) m = 0 := fun m => foldN_inv (f := fun a t => a + gW n e r 0 0 t) (a := 0) (fun _ a => a = 0) rfl (fun t a ha => by
      unfold gW
      rw [if_neg (fun q => by have := q.2.2; omega), ha]) m
    exact this n
theorem PW_next {n : Nat} {e : Nat → Nat} {r j : Nat} : PW n e r j n = PW n e r (j + 1) 0 := by
  unfold PW
  congr 1
  refine sumG_congr n (fun t ht => ?_)
  unfold gW
  have : (r.testBit t = true ∧ sd (e t) (sd r (2 ^ t)) = 0 ∧ (sd r (2 ^ t) < j ∨ (sd r (2 ^ t) = j ∧ t < n))) ↔ (r.testBit t = true ∧ sd (e t) (sd r (2 ^ t)) = 0 ∧ (sd r (2 ^ t) < j + 1 ∨ (sd r (2 ^ t) = j + 1 ∧ t < 0))) := by
    constructor
    · rintro ⟨a, b, d⟩; exact ⟨a, b, by omega⟩
    · rintro ⟨a, b, d⟩; exact ⟨a, b, by omega⟩
  simp only [this]
theorem PW_full {n : Nat} {e : Nat → Nat} {r j i : Nat} (hr : r < 4096) (hj : r ≤ j) : PW n e r j i = WN n e r := by
  rw [WN_eq hr]
  unfold PW
  by_cases h : r = 0
  · rw [if_pos h, if_pos h]
  · rw [if_neg h, if_neg h]
    unfold sumG
    refine foldN_congr n (fun t ht a => ?_)
    unfold gW wS
    by_cases hb : r.testBit t = true
    · have := sd_two_lt hb
      by_cases hd : sd (e t) (sd r (2 ^ t)) = 0
      · rw [if_pos ⟨hb, hd, Or.inl (by omega)⟩, if_pos ⟨hb, hd⟩]
      · rw [if_neg (fun q => hd q.2.1), if_neg (fun q => hd q.2)]
        rfl
    · rw [if_neg (fun q => hb q.1), if_neg (fun q => hb q.1)]
      rfl
theorem sd_or_two {j i : Nat} (h : j.testBit i = false) : sd (j ||| 2 ^ i) (2 ^ i) = j := by
  apply Nat.eq_of_testBit_eq
  intro m
  rw [sd_bit, Nat.testBit_or, two_bit]
  by_cases hm : i = m
  · subst hm; simp [h]
  · simp [hm]
theorem or_sd_two {r i : Nat} (h : r.testBit i = true) : sd r (2 ^ i) ||| 2 ^ i = r := by
  apply Nat.eq_of_testBit_eq
  intro m
  rw [Nat.testBit_or, sd_bit, two_bit]
  by_cases hm : i = m
  · subst hm; simp [h]
  · simp [hm]
theorem PW_same {n : Nat} {e : Nat → Nat} {r j i : Nat} (h : ¬ (r = j ||| 2 ^ i ∧ j.testBit i = false ∧ sd (e i) j = 0)) : PW n e r j (i + 1) = PW n e r j i := by
  unfold PW
  congr 1
  refine sumG_congr n (fun t ht => ?_)
  unfold gW
  by_cases hti : t = i
  · subst hti
    have : ¬ (r.testBit t = true ∧ sd (e t) (sd r (2 ^ t)) = 0 ∧ sd r (2 ^ t) = j) := fun q => h ⟨by rw [← q.2.2, or_sd_two q.1], by rw [← q.2.2, sd_bit, two_bit]; simp, by rw [← q.2.2]; exact q.2.1⟩
    have : (r.testBit t = true ∧ sd (e t) (sd r (2 ^ t)) = 0 ∧ (sd r (2 ^ t) < j ∨ (sd r (2 ^ t) = j ∧ t < t + 1))) ↔ (r.testBit t = true ∧ sd (e t) (sd r (2 ^ t)) = 0 ∧ (sd r (2 ^ t) < j ∨ (sd r (2 ^ t) = j ∧ t < t))) := by
      constructor
      · rintro ⟨a, b, d⟩
        refine ⟨a, b, ?_⟩
        rcases d with d | d
        · exact Or.inl d
        · exact absurd ⟨a, b, d.1⟩ this
      · rintro ⟨a, b, d⟩; exact ⟨a, b, by omega⟩
    simp only [this]
  · have : (sd r (2 ^ t) < j ∨ (sd r (2 ^ t) = j ∧ t < i + 1)) ↔ (sd r (2 ^ t) < j ∨ (sd r (2 ^ t) = j ∧ t < i)) := by
      constructor <;> intro d <;> omega
    simp only [this]
theorem PW_push {n : Nat} {e : Nat → Nat} {j i : Nat} (hi : i < n) (hb : j.testBit i = false) (hd : sd (e i) j = 0) : PW n e (j ||| 2 ^ i) j (i + 1) = PW n e (j ||| 2 ^ i) j i + WN n e j := by
  have hbit : (j ||| 2 ^ i).testBit i = true := by rw [Nat.testBit_or, two_bit]; simp
  have h0 : j ||| 2 ^ i ≠ 0 := fun q => by rw [q, Nat.zero_testBit] at hbit; cases hbit
  unfold PW
  rw [if_neg h0, if_neg h0]
  refine sumG_add (t0 := i) ?_ (fun t ht => ?_) n hi
  · unfold gW
    rw [sd_or_two hb, if_pos ⟨hbit, hd, Or.inr ⟨rfl, by omega⟩⟩, if_neg (fun q => by have := q.2.2; omega)]
    omega
  · unfold gW
    have : (sd (j ||| 2 ^ i) (2 ^ t) < j ∨ (sd (j ||| 2 ^ i) (2 ^ t) = j ∧ t < i + 1)) ↔ (sd (j ||| 2 ^ i) (2 ^ t) < j ∨ (sd (j ||| 2 ^ i) (2 ^ t) = j ∧ t < i)) := by
      constructor <;> intro d <;> omega
    simp only [this]
def S116 (a _ : Nat) : Prop := a = 116
theorem S116m {a k : Nat} (h : S116 a k) : SM a k := by unfold S116 at h; unfold SM; omega
theorem m_counts {σ : Sto} {P : Int64 → Sto → Prop} {n : Nat} {e : Nat → Nat} (hn : n ≤ 12) (h0 : gi σ 106 0 = nI n) (he : ∀ t, t < n → gi σ 106 (130 + t) = nI (e t) ∧ e t < 4096) (k : ∀ τ, Eo S116 σ τ → P (lI (WN n e (allF n))) τ) : w_X12_countsHistories σ P := by
  have hp : 2 ^ n ≤ 4096 := by
    have : (4096 : Nat) = 2 ^ 12 := by decide
    rw [this]; exact Nat.pow_le_pow_right (by decide) hn
  have hp1 := Nat.two_pow_pos n
  unfold w_X12_countsHistories w_X12_allThings
  rw [h0, bit1 (by omega), N1, jI_allF]
  have hall : 2 ^ n - 1 < 4096 := by omega
  refine Lp_for (2 ^ n) (fun j q => q.1 = nI j ∧ Eo S116 σ q.2 ∧ ∀ r, r < j → gl q.2 116 r = lI (PW n e r 0 0)) ⟨rfl, Eo.rf, fun r hr => absurd hr (Nat.not_lt_zero _)⟩ ?_ ?_
  · rintro j hj K ⟨x2, τ⟩ ⟨r2, e1, hg⟩ hK
    dsimp only at r2 e1 hg hK ⊢
    subst r2
    unfold w_X12_countsHistories_7
    rw [if_neg (by rw [jI_lt (by omega) (by omega)]; omega), N0]
    have fin : ∀ v, v = lI (PW n e j 0 0) → K (nI (j + 1), sl τ 116 j v) := fun v hv => hK _ ⟨rfl, e1.tr (Eo.sl rfl), fun r hr => by
      dsimp only
      by_cases hrj : r = j
      · subst hrj; rw [gl_sl_s, hv]
      · rw [gl_sl_k hrj]; exact hg r (by omega)⟩
    rw [PW_start] at fin
    by_cases hj0 : j = 0
    · rw [if_pos (by rw [hj0])]
      refine ⟨vp_nI (by omega) (by decide), ?_⟩
      rw [tn_nI (by omega), N1, jI_add]
      rintro x rfl
      exact fin _ (by rw [if_pos hj0]; rfl)
    · rw [if_neg (by rw [jI_eq (by omega) (by decide)]; exact hj0)]
      refine ⟨vp_nI (by omega) (by decide), ?_⟩
      rw [tn_nI (by omega), N1, jI_add]
      rintro x rfl
      exact fin _ (by rw [if_neg hj0]; rfl)
  · rintro K ⟨x2, τ⟩ ⟨r2, e1, hg⟩
    dsimp only at r2 e1 hg ⊢
    subst r2
    unfold w_X12_countsHistories_7
    rw [if_pos (by rw [jI_lt (by omega) (by omega)]; omega)]
    refine Lp_for (2 ^ n - 1) (fun j q => q.1 = nI j ∧ Eo S116 σ q.2 ∧ ∀ r, r < 2 ^ n → gl q.2 116 r = lI (PW n e r j 0)) ⟨rfl, e1, hg⟩ ?_ ?_
    · rintro j hj K2 ⟨x2, υ⟩ ⟨r2, e2, hg2⟩ hK2
      dsimp only at r2 e2 hg2 hK2 ⊢
      subst r2
      unfold w_X12_countsHistories_35
      rw [if_neg (by rw [jI_le (by omega) (by omega)]; omega)]
      refine Lp_for n (fun i q => q.1 = nI i ∧ Eo S116 σ q.2 ∧ ∀ r, r < 2 ^ n → gl q.2 116 r = lI (PW n e r j i)) ⟨rfl, e2, hg2⟩ ?_ ?_
      · rintro i hi K3 ⟨x3, φ⟩ ⟨r3, e3, hg3⟩ hK3
        dsimp only at r3 e3 hg3 hK3 ⊢
        subst r3
        have f106 : ∀ x, gi φ 106 x = gi σ 106 x := fun x => e3.1 106 x (by unfold S116; decide)
        unfold w_X12_countsHistories_42
        rw [f106, h0, if_neg (by rw [jI_le (by omega) (by omega)]; omega), t_has (by omega), N1, jI_add]
        have same : ¬ (j.testBit i = false ∧ sd (e i) j = 0) → K3 (nI (i + 1), φ) := fun hno => hK3 _ ⟨rfl, e3, fun r hr => by
          dsimp only
          rw [PW_same (fun q => hno q.2)]
          exact hg3 r hr⟩
        cases hb : j.testBit i
        · rw [if_pos (show bI false = 0 from rfl)]
          have hei := (he i hi).2
          have hsd := sd_12' (b := j) hei
          rw [N130, jI_add, tn_nI (by omega), f106, (he i hi).1, jI_andn, N0]
          refine ⟨vp_nI (by omega) (by decide), ?_⟩
          by_cases hd : sd (e i) j = 0
          · rw [if_pos (by rw [hd])]
            have hor : j ||| 2 ^ i < 2 ^ n := or_lt (by omega) (two_lt hi)
            rw [← N1, bit1 (by omega), jI_or, tn_nI (by omega), tn_nI (by omega), hg3 _ hor, hg3 j (by omega), PW_full (by omega) (Nat.le_refl j), lI_add, ← PW_push hi hb hd]
            refine ⟨vp_nI (by omega) (by decide), vp_nI (by omega) (by decide), ?_⟩
            rintro x rfl
            refine hK3 _ ⟨rfl, e3.tr (Eo.sl rfl), fun r hr => ?_⟩
            dsimp only
            by_cases hre : r = j ||| 2 ^ i
            · subst hre; exact gl_sl_s
            · rw [gl_sl_k hre, PW_same (fun q => hre q.1)]; exact hg3 r hr
          · rw [if_neg (by rw [jI_eq (by omega) (by decide)]; exact hd)]
            rintro x rfl
            exact same (fun q => hd q.2)
        · rw [if_neg (show ¬ bI true = 0 by decide)]
          rintro x rfl
          exact same (fun q => by rw [hb] at q; cases q.1)
      · rintro K3 ⟨x3, φ⟩ ⟨r3, e3, hg3⟩
        dsimp only at r3 e3 hg3 ⊢
        subst r3
        have f106 : ∀ x, gi φ 106 x = gi σ 106 x := fun x => e3.1 106 x (by unfold S116; decide)
        unfold w_X12_countsHistories_42
        rw [f106, h0, if_pos (by rw [jI_le (by omega) (by omega)]; exact Nat.le_refl _), N1, jI_add]
        rintro x rfl
        exact hK2 _ ⟨rfl, e3, fun r hr => by dsimp only; rw [← PW_next]; exact hg3 r hr⟩
    · rintro K2 ⟨x2, υ⟩ ⟨r2, e2, hg2⟩
      dsimp only at r2 e2 hg2 ⊢
      subst r2
      unfold w_X12_countsHistories_35
      rw [if_pos (by rw [jI_le (by omega) (by omega)]; exact Nat.le_refl _)]
      refine ⟨vp_nI hall (by decide), ?_⟩
      rw [tn_nI (by omega), hg2 _ (by omega), PW_full hall (Nat.le_refl _)]
      exact k υ e2
theorem m_hist {σ : Sto} {c : Nat → Nat} {P : Int64 → Sto → Prop} (h : MR σ c) (ok : OK c) (k : ∀ τ, Eo S116 σ τ → P (lI (histF c)) τ) : w_X12_countsHistories σ P := by
  have := ok.n0
  exact m_counts ok.n0 (h 0 (by decide)) (e := fun t => c (130 + t)) (fun t ht => ⟨h _ (by omega), p12 (ok.ahead t ht) ok.n0⟩) k
def historiesA (c : Nat → Nat) : Int64 × Int32 := (lI (histF c), 0)
theorem c_histories {σ : Sto} {c : Nat → Nat} {P : Int64 → Sto → Prop} {N : Nat} (h : KW N σ c) (ok : OK c) (k : ∀ τ, Eo SQ σ τ → KW N τ c → gi τ 1 15 = (historiesA c).2 → P (historiesA c).1 τ) : w_X11_histories σ P := by
  unfold w_X11_histories
  refine c_orders h ok (fun τ e hw => ?_)
  show P (nI (histF c)).toInt64 (si τ 1 15 0)
  rw [lI_nI (histF_lt ok)]
  exact k _ ((e.mo (fun _ _ => SXq)).tr stq) hw.st gi_si_s
theorem m_histories {σ : Sto} {c : Nat → Nat} {P : Int64 → Sto → Prop} (h : MR σ c) (ok : OK c) (k : ∀ τ, Eo SM σ τ → gi τ 101 0 = (historiesA c).2 → P (historiesA c).1 τ) : w_X12_histories σ P := by
  have hs : MR (si (si σ 101 1 0) 101 0 0) c := h.sm sm10
  unfold w_X12_histories
  refine m_hist hs ok (fun τ e => ?_)
  exact k τ (sm10.tr (e.mo (fun _ _ => S116m))) (by rw [e.1 101 0 (by unfold S116; decide)]; exact gi_si_s)
def firS (c : Nat → Nat) (s t : Nat) : Nat := if c (130 + t) = 0 then s ||| 2 ^ t else s
def firstsA (c : Nat → Nat) : Int32 × Int32 := (if histF c = 0 then nI 0 else nI (foldN (firS c) 0 (c 0)), 0)
theorem c_firsts {σ : Sto} {c : Nat → Nat} {P : Int32 → Sto → Prop} {N : Nat} (h : KW N σ c) (ok : OK c) (k : ∀ τ, Eo SQ σ τ → KW N τ c → gi τ 1 15 = (firstsA c).2 → P (firstsA c).1 τ) : w_X11_firsts σ P := by
  have := ok.n0
  unfold w_X11_firsts w_X4_openings
  refine c_orders h ok (fun τ e hw => ?_)
  have hlt := histF_lt ok
  have k' : P (firstsA c).1 (si τ 1 15 0) := k _ ((e.mo (fun _ _ => SXq)).tr stq) hw.st gi_si_s
  unfold firstsA at k'
  rw [N0]
  by_cases h0 : histF c = 0
  · rw [if_pos h0] at k'
    rw [if_pos (by rw [h0])]
    exact k'
  · rw [if_neg h0] at k'
    rw [if_neg (by rw [jI_eq (by omega) (by decide)]; exact h0)]
    refine Lp_det (c 0) (fun j => (nI (foldN (firS c) 0 j), nI j, τ)) rfl (fun j hj K hK => ?_) (fun K => ?_)
    · have hn : ¬ c 0 ≤ j := by omega
      have hb : gi τ (gr τ 95 3 + 7) j = nI (c (130 + j)) := hw.p95.2.2.2.2.2.2.2 j hj
      have hl := p12 (ok.ahead j hj) ok.n0
      replace hK : K (nI (firS c (foldN (firS c) 0 j) j), nI (j + 1), τ) := hK
      generalize foldN (firS c) 0 j = a at hK ⊢
      dsimp only
      unfold w_X4_openings_13
      refine ⟨hw.p95.1, ?_⟩
      rw [show gi τ (gr τ 95 3) 8 = nI (c 0) from hw.p95.2.1 0 (by decide), if_neg (by rw [jI_le (by omega) (by omega)]; exact hn), tn_nI (by omega), hb, bit1 (by omega), N0, N1, jI_add, jI_or, jI_or, Nat.or_zero]
      refine ⟨vp_nI (by omega) (by decide), ?_⟩
      unfold firS at hK
      by_cases hz : c (130 + j) = 0
      · rw [if_pos hz] at hK
        rw [if_pos (by rw [hz])]
        rintro x rfl
        rintro y rfl
        exact hK
      · rw [if_neg hz] at hK
        rw [if_neg (by rw [jI_eq (by omega) (by decide)]; exact hz)]
        rintro x rfl
        rintro y rfl
        exact hK
    · dsimp only
      unfold w_X4_openings_13
      refine ⟨hw.p95.1, ?_⟩
      rw [show gi τ (gr τ 95 3) 8 = nI (c 0) from hw.p95.2.1 0 (by decide), if_pos (by rw [jI_le (by omega) (by omega)]; exact Nat.le_refl _)]
      exact k'
theorem m_firsts {σ : Sto} {c : Nat → Nat} {P : Int32 → Sto → Prop} (h : MR σ c) (ok : OK c) (k : ∀ τ, Eo SM σ τ → gi τ 101 0 = (firstsA c).2 → P (firstsA c).1 τ) : w_X12_firsts σ P := by
  have := ok.n0
  have hs : MR (si (si σ 101 1 0) 101 0 0) c := h.sm sm10
  unfold w_X12_firsts
  refine m_hist hs ok (fun τ e => ?_)
  have hs2 : MR τ c := hs.sm (e.mo (fun _ _ => S116m))
  have hlt := histF_lt ok
  have k' : P (firstsA c).1 τ := k τ (sm10.tr (e.mo (fun _ _ => S116m))) (by rw [e.1 101 0 (by unfold S116; decide)]; exact gi_si_s)
  unfold firstsA at k'
  by_cases h0 : histF c = 0
  · rw [if_pos h0] at k'
    rw [if_pos (lg_eq.mpr (by rw [h0]; rfl))]
    exact k'
  · rw [if_neg h0] at k'
    rw [if_neg (show ¬ lg_cmp (lI (histF c)) 0 = 0 from fun q => h0 ((lI_eq (b := 0) (by omega) (by decide)).mp (lg_eq.mp q)))]
    refine Lp_det (c 0) (fun j => (nI (foldN (firS c) 0 j), nI j, τ)) rfl (fun j hj K hK => ?_) (fun K => ?_)
    · have hn : ¬ c 0 ≤ j := by omega
      have hl := p12 (ok.ahead j hj) ok.n0
      replace hK : K (nI (firS c (foldN (firS c) 0 j) j), nI (j + 1), τ) := hK
      generalize foldN (firS c) 0 j = a at hK ⊢
      dsimp only
      unfold w_X12_firsts_25
      rw [hs2 0 (by decide), if_neg (by rw [jI_le (by omega) (by omega)]; exact hn), N130, jI_add, tn_nI (by omega), hs2 _ (by omega), bit1 (by omega), N0, N1, jI_add, jI_or, jI_or, Nat.or_zero]
      refine ⟨vp_nI (by omega) (by decide), ?_⟩
      unfold firS at hK
      by_cases hz : c (130 + j) = 0
      · rw [if_pos hz] at hK
        rw [if_pos (by rw [hz])]
        rintro x rfl
        rintro y rfl
        exact hK
      · rw [if_neg hz] at hK
        rw [if_neg (by rw [jI_eq (by omega) (by decide)]; exact hz)]
        rintro x rfl
        rintro y rfl
        exact hK
    · dsimp only
      unfold w_X12_firsts_25
      rw [hs2 0 (by decide), if_pos (by rw [jI_le (by omega) (by omega)]; exact Nat.le_refl _)]
      exact k'
