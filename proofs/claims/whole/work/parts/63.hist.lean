/-! ===== promises 48, 49: orders of history ===== -/
def lI (n : Nat) : Int64 := Int64.ofNat n
theorem lI_toBV (a : Nat) : (lI a).toBitVec = BitVec.ofNat 64 a := rfl
theorem lI_add {a b : Nat} : lI a + lI b = lI (a + b) := by
  apply Int64.toBitVec_inj.mp
  rw [Int64.toBitVec_add, lI_toBV, lI_toBV, lI_toBV, BitVec.ofNat_add]
theorem lI_mul {a b : Nat} : lI a * lI b = lI (a * b) := by
  apply Int64.toBitVec_inj.mp
  rw [Int64.toBitVec_mul, lI_toBV, lI_toBV, lI_toBV, BitVec.ofNat_mul]
theorem lI_sub {a b : Nat} (h : b ≤ a) : lI a - lI b = lI (a - b) := by
  have e : lI a = lI (a - b) + lI b := by rw [lI_add, Nat.sub_add_cancel h]
  rw [e]
  apply Int64.toBitVec_inj.mp
  rw [Int64.toBitVec_sub, Int64.toBitVec_add, BitVec.add_sub_cancel]
theorem lI_toInt {a : Nat} (h : a < 9223372036854775808) : (lI a).toInt = a := by
  show (Int64.ofNat a).toInt = a
  rw [Int64.toInt_ofNat_of_lt h]
theorem lI_nI {a : Nat} (h : a < 2147483648) : (nI a).toInt64 = lI a := by
  apply Int64.toInt_inj.mp
  rw [i64_int, jI_toInt h, lI_toInt (by omega)]
theorem lI_eq {a b : Nat} (ha : a < 9223372036854775808) (hb : b < 9223372036854775808) : lI a = lI b ↔ a = b := by
  rw [← Int64.toInt_inj, lI_toInt ha, lI_toInt hb]; omega
theorem L0 : (0 : Int64) = lI 0 := rfl
theorem L1 : (1 : Int64) = lI 1 := rfl
/-! == the number of orders == -/
def wS (e rec : Nat → Nat) (s a t : Nat) : Nat := if s.testBit t = true ∧ sd (e t) (sd s (2 ^ t)) = 0 then a + rec (sd s (2 ^ t)) else a
def wF (n : Nat) (e : Nat → Nat) : Nat → Nat → Nat
  | 0, s => if s = 0 then 1 else 0
  | k + 1, s => if s = 0 then 1 else foldN (wS e (wF n e k) s) 0 n
theorem sd_two_lt {s t : Nat} (h : s.testBit t = true) : sd s (2 ^ t) < s := by
  have h1 := sub_le (sub_sd (a := s) (b := 2 ^ t))
  have h2 := sd_ne (sub_two h) (Nat.ne_of_gt (Nat.two_pow_pos t))
  omega
theorem sd_two_card {s t : Nat} (hs : s < 4096) (h : s.testBit t = true) : card (sd s (2 ^ t)) < card s := card_lt sub_sd hs (sd_ne (sub_two h) (Nat.ne_of_gt (Nat.two_pow_pos t)))
theorem wF_st {n : Nat} {e : Nat → Nat} : ∀ k s, s < 4096 → card s ≤ k → wF n e (k + 1) s = wF n e k s
  | 0, s, hs, hk => by
    rw [card_zero hs hk]
    rfl
  | k + 1, s, hs, hk => by
    show (if s = 0 then 1 else foldN (wS e (wF n e (k + 1)) s) 0 n) = (if s = 0 then 1 else foldN (wS e (wF n e k) s) 0 n)
    by_cases h0 : s = 0
    · rw [if_pos h0, if_pos h0]
    · rw [if_neg h0, if_neg h0]
      refine foldN_congr n (fun t _ a => ?_)
      unfold wS
      by_cases hc : s.testBit t = true ∧ sd (e t) (sd s (2 ^ t)) = 0
      · have := sd_two_card hs hc.1
        rw [if_pos hc, if_pos hc, wF_st k _ (sd_12' hs) (by omega)]
      · rw [if_neg hc, if_neg hc]
def WN (n : Nat) (e : Nat → Nat) (s : Nat) : Nat := wF n e 12 s
theorem WN_eq {n : Nat} {e : Nat → Nat} {s : Nat} (hs : s < 4096) : WN n e s = if s = 0 then 1 else foldN (wS e (WN n e) s) 0 n := by
  unfold WN
  rw [← wF_st 12 s hs card_le]
  rfl
def fct : Nat → Nat
  | 0 => 1
  | n + 1 => (n + 1) * fct n
theorem fct_pos : ∀ n, 1 ≤ fct n
  | 0 => Nat.le_refl _
  | n + 1 => Nat.mul_pos (Nat.succ_pos n) (fct_pos n)
theorem fct_mono : ∀ {a b}, a ≤ b → fct a ≤ fct b := fun {a b} h => by
  induction h with
  | refl => exact Nat.le_refl _
  | step _ ih => exact Nat.le_trans ih (Nat.le_mul_of_pos_left _ (Nat.succ_pos _))
def cardN (n s : Nat) : Nat := foldN (fun m k => m + (s.testBit k).toNat) 0 n
theorem cardN_le {s : Nat} : ∀ n, n ≤ 12 → cardN n s ≤ card s := fun n hn => by
  have key : ∀ d, cardN n s ≤ cardN (n + d) s := fun d => by
    induction d with
    | zero => exact Nat.le_refl _
    | succ d ih => exact Nat.le_trans ih (Nat.le_add_right _ _)
  have := key (12 - n)
  rw [show n + (12 - n) = 12 by omega] at this
  exact this
theorem WN_le {n : Nat} {e : Nat → Nat} (hn : n ≤ 12) : ∀ m s, card s ≤ m → s < 4096 → WN n e s ≤ fct (card s)
  | 0, s, hm, hs => by
    rw [WN_eq hs, if_pos (card_zero hs hm)]
    exact fct_pos _
  | m + 1, s, hm, hs => by
    rw [WN_eq hs]
    by_cases h0 : s = 0
    · rw [if_pos h0]; exact fct_pos _
    rw [if_neg h0]
    have hp := card_pos hs h0
    have key : ∀ j, foldN (wS e (WN n e) s) 0 j ≤ cardN j s * fct (card s - 1) := fun j => by
      induction j with
      | zero => exact Nat.zero_le _
      | succ j ih =>
        show (if s.testBit j = true ∧ sd (e j) (sd s (2 ^ j)) = 0 then foldN (wS e (WN n e) s) 0 j + WN n e (sd s (2 ^ j)) else foldN (wS e (WN n e) s) 0 j) ≤ (cardN j s + (s.testBit j).toNat) * fct (card s - 1)
        rw [Nat.add_mul]
        by_cases hc : s.testBit j = true ∧ sd (e j) (sd s (2 ^ j)) = 0
        · have h1 := sd_two_card hs hc.1
          have h2 := WN_le (e := e) hn m (sd s (2 ^ j)) (by omega) (sd_12' hs)
          have h3 := fct_mono (show card (sd s (2 ^ j)) ≤ card s - 1 by omega)
          rw [if_pos hc, hc.1, Bool.toNat_true, Nat.one_mul]
          omega
        · rw [if_neg hc]
          exact Nat.le_trans ih (Nat.le_add_right _ _)
    have h4 := key n
    have h5 := cardN_le (s := s) n hn
    obtain ⟨q, hq⟩ : ∃ q, card s = q + 1 := ⟨card s - 1, by omega⟩
    rw [hq] at h4 h5 ⊢
    exact Nat.le_trans h4 (Nat.mul_le_mul_right _ h5)
theorem WN_lt {n : Nat} {e : Nat → Nat} (hn : n ≤ 12) {s : Nat} (hs : s < 4096) : WN n e s < 2147483648 := by
  have h1 := WN_le (e := e) hn 12 s card_le hs
  have h2 := fct_mono (card_le (a := s))
  have h3 : fct 12 = 479001600 := by decide
  omega
/-! == the class: it pulls == -/
theorem c_ordersWith {σ : Sto} {c : Nat → Nat} {P : Int32 → Sto → Prop} {N : Nat} (h : KW N σ c) (ok : OK c) {x1 x2 : Int32} {e : Nat → Nat} (he : ∀ t, t < c 0 → e t < 4096) (h1 : ∀ t, t < c 0 → nI t = x2 → nI (c (130 + t)) ||| (1 <<< (x1 &&& 31)) = nI (e t)) (h2 : ∀ t, t < c 0 → nI t ≠ x2 → e t = c (130 + t))
    (k : ∀ τ, Eo SX σ τ → KW N τ c → P (nI (WN (c 0) e (allF (c 0)))) τ) : w_X4_ordersWith x1 x2 σ P := by
  have := ok.n0
  have hp := pw12 ok
  have hp1 := Nat.two_pow_pos (c 0)
  unfold w_X4_ordersWith
  refine ⟨h.p95.1, ?_⟩
  rw [show gi σ (gr σ 95 3) 8 = nI (c 0) from h.p95.2.1 0 (by decide), bit1 (by omega)]
  rintro x3 rfl
  refine Lp_for (2 ^ c 0 - 1) (fun j q => q.1 = nI (j + 1) ∧ Eo SX σ q.2 ∧ ∀ r, r ≤ j → gi q.2 87 r = nI (WN (c 0) e r)) ⟨rfl, Eo.si (Or.inl rfl), fun r hr => ?_⟩ ?_ ?_
  · have : r = 0 := by omega
    subst this
    dsimp only
    rw [gi_si_s, WN_eq (by decide)]
    rfl
  · rintro j hj K ⟨x4, τ⟩ ⟨r4, e1, hr⟩ hK
    dsimp only at r4 e1 hr hK ⊢
    subst r4
    have hs : j + 1 < 4096 := by omega
    have heq := WN_eq (n := c 0) (e := e) hs
    rw [if_neg (by omega)] at heq
    unfold w_X4_ordersWith_20
    rw [if_neg (by rw [jI_le (by omega) (by omega)]; omega)]
    refine Lp_det (c 0) (fun i => (nI (foldN (wS e (WN (c 0) e) (j + 1)) 0 i), nI i, τ)) rfl (fun i hi K2 hK2 => ?_) (fun K2 => ?_)
    · have hn : ¬ c 0 ≤ i := by omega
      have hw := h.ex e1
      have hb : gi τ (gr τ 95 3 + 7) i = nI (c (130 + i)) := hw.p95.2.2.2.2.2.2.2 i hi
      have hei := he i hi
      replace hK2 : K2 (nI (wS e (WN (c 0) e) (j + 1) (foldN (wS e (WN (c 0) e) (j + 1)) 0 i) i), nI (i + 1), τ) := hK2
      generalize foldN (wS e (WN (c 0) e) (j + 1)) 0 i = a at hK2 ⊢
      have hsd := sd_12' (b := 2 ^ i) hs
      have hse := sd_12' (b := sd (j + 1) (2 ^ i)) hei
      have go : ∀ z, nI (c (130 + i)) ||| z = nI (e i) → w_X4_ordersWith_78 K K2 x1 x2 (nI (2 ^ c 0)) (nI (j + 1)) (nI a) (nI i) (nI (sd (j + 1) (2 ^ i))) z (nI (c (130 + i))) τ P := fun z hz => by
        unfold w_X4_ordersWith_78
        rintro x8 rfl
        rw [hz]
        unfold wS at hK2
        simp (disch := omega) only [jI_andn, tn_nI, N0, N1, jI_add]
        by_cases hbi : (j + 1).testBit i = true
        · have hlt := sd_two_lt hbi
          rw [if_neg (by rw [jI_eq (by omega) (by omega)]; omega)]
          by_cases hd : sd (e i) (sd (j + 1) (2 ^ i)) = 0
          · rw [if_pos ⟨hbi, hd⟩] at hK2
            rw [if_pos (by rw [hd])]
            refine ⟨vp_nI hsd (by decide), ?_⟩
            rw [hr _ (by omega), jI_add]
            rintro x rfl
            rintro y rfl
            exact hK2
          · rw [if_neg (fun q => hd q.2)] at hK2
            rw [if_neg (by rw [jI_eq (by omega) (by decide)]; exact hd)]
            rintro x rfl
            exact hK2
        · rw [if_neg (fun q => hbi q.1)] at hK2
          have hse2 : sd (j + 1) (2 ^ i) = j + 1 := by
            apply Nat.eq_of_testBit_eq
            intro m
            rw [sd_bit, two_bit]
            by_cases hm : i = m
            · rw [← hm]
              cases hq : (j + 1).testBit i
              · rfl
              · exact absurd hq hbi
            · simp [hm]
          rw [if_pos (by rw [hse2])]
          rintro x rfl
          exact hK2
      dsimp only
      unfold w_X4_ordersWith_32
      refine ⟨hw.p95.1, ?_⟩
      rw [show gi τ (gr τ 95 3) 8 = nI (c 0) from hw.p95.2.1 0 (by decide), if_neg (by rw [jI_le (by omega) (by omega)]; exact hn), bit1 (by omega), jI_andn, tn_nI (by omega), hb]
      rintro x7 rfl
      refine ⟨vp_nI (by omega) (by decide), ?_⟩
      by_cases hx : nI i = x2
      · rw [if_pos hx]
        exact go _ (h1 i hi hx)
      · rw [if_neg hx]
        refine go 0 ?_
        rw [N0, jI_or, Nat.or_zero, h2 i hi hx]
    · have hw := h.ex e1
      dsimp only
      unfold w_X4_ordersWith_32
      refine ⟨hw.p95.1, ?_⟩
      rw [show gi τ (gr τ 95 3) 8 = nI (c 0) from hw.p95.2.1 0 (by decide), if_pos (by rw [jI_le (by omega) (by omega)]; exact Nat.le_refl _)]
      refine ⟨vp_nI hs (by decide), ?_⟩
      rw [tn_nI (by omega), ← heq, N1, jI_add]
      rintro x rfl
      refine hK _ ⟨rfl, e1.tr (Eo.si (Or.inl rfl)), fun r hrj => ?_⟩
      dsimp only
      by_cases hre : r = j + 1
      · subst hre; exact gi_si_s
      · rw [gi_si_k hre]; exact hr r (by omega)
  · rintro K ⟨x4, τ⟩ ⟨r4, e1, hr⟩
    dsimp only at r4 e1 hr ⊢
    subst r4
    unfold w_X4_ordersWith_20
    rw [if_pos (by rw [jI_le (by omega) (by omega)]; omega), N1, jI_sub (by omega)]
    refine ⟨vp_nI (by omega) (by decide), ?_⟩
    rw [tn_nI (by omega), hr _ (Nat.le_refl _)]
    exact k τ e1 (h.ex e1)
def histF (c : Nat → Nat) : Nat := WN (c 0) (fun t => c (130 + t)) (allF (c 0))
theorem histF_lt {c : Nat → Nat} (ok : OK c) : histF c < 2147483648 := WN_lt ok.n0 (by
  have := pw12 ok
  have := Nat.two_pow_pos (c 0)
  show 2 ^ c 0 - 1 < 4096
  omega)
theorem c_orders {σ : Sto} {c : Nat → Nat} {P : Int32 → Sto → Prop} {N : Nat} (h : KW N σ c) (ok : OK c) (k : ∀ τ, Eo SX σ τ → KW N τ c → P (nI (histF c)) τ) : w_X4_orders σ P := by
  have := ok.n0
  unfold w_X4_orders
  exact c_ordersWith h ok (e := fun t => c (130 + t)) (fun t ht => p12 (ok.ahead t ht) ok.n0) (fun t ht q => absurd q (jI_none (by omega))) (fun t ht _ => rfl) k
