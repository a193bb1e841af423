/-! ===== promise 47: sure; class and model ===== -/
theorem felN_bit {c : Nat → Nat} {set x t : Nat} : ∀ n, (felN c set x n).testBit t = (decide (t < n) && set.testBit t && (fallF c t).testBit x)
  | 0 => by
    show (0 : Nat).testBit t = _
    simp
  | n + 1 => by
    rw [felN_s]
    have ih := felN_bit (c := c) (set := set) (x := x) (t := t) n
    by_cases htn : n = t
    · subst htn
      have i0 : (felN c set x n).testBit n = false := by rw [ih]; simp
      by_cases hc : set.testBit n = true ∧ (fallF c n).testBit x = true
      · rw [if_pos hc, Nat.testBit_or, two_bit, hc.1, hc.2]
        simp
      · rw [if_neg hc, i0]
        cases h1 : set.testBit n <;> cases h2 : (fallF c n).testBit x <;> simp_all
    · have e1 : (if set.testBit n = true ∧ (fallF c n).testBit x = true then felN c set x n ||| 2 ^ n else felN c set x n).testBit t = (felN c set x n).testBit t := by
        split
        · rw [Nat.testBit_or, two_bit]; simp [htn]
        · rfl
      rw [e1, ih]
      have : decide (t < n + 1) = decide (t < n) := by
        by_cases h : t < n
        · simp [h]; omega
        · have : ¬ t < n + 1 := by omega
          simp [h, this]
      rw [this]
theorem caus_bit {c : Nat → Nat} {fell t : Nat} : ∀ n, (foldN (causS c fell) 0 n).testBit t = (decide (t < n) && (nowF c).testBit t && decide (fallF c t = fell))
  | 0 => by
    show (0 : Nat).testBit t = _
    simp
  | n + 1 => by
    have ih := caus_bit (c := c) (fell := fell) (t := t) n
    show (if (nowF c).testBit n = true ∧ fallF c n = fell then foldN (causS c fell) 0 n ||| 2 ^ n else foldN (causS c fell) 0 n).testBit t = _
    by_cases htn : n = t
    · subst htn
      have i0 : (foldN (causS c fell) 0 n).testBit n = false := by rw [ih]; simp
      by_cases hc : (nowF c).testBit n = true ∧ fallF c n = fell
      · rw [if_pos hc, Nat.testBit_or, two_bit, hc.1]
        simp [hc.2]
      · rw [if_neg hc, i0]
        cases h1 : (nowF c).testBit n <;> by_cases h2 : fallF c n = fell <;> simp_all
    · have e1 : (if (nowF c).testBit n = true ∧ fallF c n = fell then foldN (causS c fell) 0 n ||| 2 ^ n else foldN (causS c fell) 0 n).testBit t = (foldN (causS c fell) 0 n).testBit t := by
        split
        · rw [Nat.testBit_or, two_bit]; simp [htn]
        · rfl
      rw [e1, ih]
      have : decide (t < n + 1) = decide (t < n) := by
        by_cases h : t < n
        · simp [h]; omega
        · have : ¬ t < n + 1 := by omega
          simp [h, this]
      rw [this]
theorem bit_n {s n k : Nat} (h : s < 2 ^ n) (hk : s.testBit k = true) : k < n := Classical.byContradiction (fun q => by
  have : s.testBit k = false := lt_two.mp h k (by omega)
  rw [this] at hk; cases hk)
/-- of those that fall alike in a set, at most one -/
def one (c : Nat → Nat) (set t : Nat) : Prop := card (causF c (fallF c t) &&& set) ≤ 1
theorem one_dst {c : Nat → Nat} (ok : OK c) {set : Nat} (hset : set < 2 ^ c 0) (hnow : sub set (nowF c)) (h : ∀ t, set.testBit t = true → one c set t) : dst (c 0) (felF c set) set := by
  have h12 := p12 hset ok.n0
  intro a b ha hb hab
  have hne : fallF c a ≠ fallF c b := fun e => by
    have h1 := h a ha
    unfold one at h1
    have i1 : (causF c (fallF c a) &&& set).testBit a = true := by
      unfold causF
      rw [Nat.testBit_and, caus_bit, ha, hnow a ha, decide_eq_true (bit_n hset ha)]
      simp
    have i2 : (causF c (fallF c a) &&& set).testBit b = true := by
      unfold causF
      rw [Nat.testBit_and, caus_bit, hb, hnow b hb, decide_eq_true (bit_n hset hb), e]
      simp
    have := card_ge2 (p12 (sub_lt and_sub (causF_lt (c := c) (fell := fallF c a))) ok.n0) i1 i2 hab
    omega
  refine Classical.byContradiction (fun hc => hne (Nat.eq_of_testBit_eq (fun x => ?_)))
  by_cases hx : x < c 0
  · have h3 : (felF c set x).testBit a = (felF c set x).testBit b := Classical.byContradiction (fun q => hc ⟨x, hx, q⟩)
    unfold felF at h3
    rw [felN_bit, felN_bit, ha, hb, decide_eq_true (bit_n hset ha), decide_eq_true (bit_n hset hb)] at h3
    simpa using h3
  · have f1 : ∀ t, (fallF c t).testBit x = false := fun t => lt_two.mp (sub_lt sub_sd (upF_lt ok)) x (by omega)
    rw [f1, f1]
theorem one_alike {c : Nat → Nat} (ok : OK c) {set t : Nat} (hset : set < 2 ^ c 0) (h : ¬ one c set t) : LK (c 0) (felF c set) set = 0 := by
  have h12 := p12 hset ok.n0
  unfold one at h
  obtain ⟨a, b, ha, hb, hab⟩ := card_bits (p12 (sub_lt and_sub (causF_lt (c := c) (fell := fallF c t))) ok.n0) (by omega : 2 ≤ card (causF c (fallF c t) &&& set))
  have sa : ∀ a, (causF c (fallF c t) &&& set).testBit a = true → set.testBit a = true ∧ fallF c a = fallF c t := fun a ha => by
    unfold causF at ha
    rw [Nat.testBit_and, caus_bit] at ha
    simp only [Bool.and_eq_true, decide_eq_true_eq] at ha
    exact ⟨ha.2, ha.1.2⟩
  refine lk_alike hab (fun x hx => ?_) 12 set h12 (sa a ha).1 (sa b hb).1
  unfold felF
  rw [felN_bit, felN_bit, (sa a ha).1, (sa b hb).1, (sa a ha).2, (sa b hb).2, decide_eq_true (bit_n hset (sa a ha).1), decide_eq_true (bit_n hset (sa b hb).1)]
def S87 (a _ : Nat) : Prop := a = 87
theorem S87x {a k : Nat} (h : S87 a k) : SX a k := Or.inl h
def Mem (σ : Sto) (n : Nat) (fb : Nat → Nat) : Prop := (∀ x, x < n → gi σ 96 x = nI (fb x)) ∧ ∀ s, s < 4096 → gi σ 87 s = -1 ∨ gi σ 87 s = nI (CL n fb s)
theorem Mem.put {σ : Sto} {n : Nat} {fb : Nat → Nat} (h : Mem σ n fb) {s : Nat} (hs : s < 4096) : Mem (si σ 87 s (nI (CL n fb s))) n fb :=
  ⟨fun x hx => by rw [gi_si_a (by decide)]; exact h.1 x hx, fun r hr => by
    by_cases hrs : r = s
    · subst hrs; exact Or.inr gi_si_s
    · rw [gi_si_k hrs]; exact h.2 r hr⟩
theorem c_looksFor {c : Nat → Nat} (ok : OK c) {N : Nat} {fb : Nat → Nat} : ∀ (n s d : Nat) (σ : Sto) (P : Int32 → Sto → Prop), s < 4096 → card s + d ≤ 12 → card s < n → KW N σ c → Mem σ (c 0) fb → (∀ τ, Eo S87 σ τ → Mem τ (c 0) fb → P (nI (CL (c 0) fb s)) τ) → w_X4_looksFor n (nI s) (nI d) σ P
  | 0, _, _, _, _, _, _, h, _, _, _ => absurd h (Nat.not_lt_zero _)
  | n + 1, s, d, σ, P, hs, hd, hn, hw, hm, k => by
    have := ok.n0
    show w_X4_looksFor_e (w_X4_looksFor n) (nI s) (nI d) σ P
    unfold w_X4_looksFor_e
    rw [t_bitCount12 hs]
    have hcs := card_le (a := s)
    have heq := CL_eq (n := c 0) (fb := fb) hs
    have hle := CL_le (n := c 0) (fb := fb) hs
    rw [N1, N12, N0]
    by_cases h1 : card s ≤ 1
    · rw [if_pos h1] at heq
      rw [heq] at k
      rw [if_pos (by rw [jI_le (by omega) (by omega)]; exact h1)]
      exact k σ Eo.rf hm
    rw [if_neg h1] at heq
    rw [if_neg (by rw [jI_le (by omega) (by omega)]; exact h1), if_pos (by rw [jI_lt (by omega) (by omega)]; omega), tn_nI (by omega)]
    refine ⟨vp_nI hs (by decide), ?_⟩
    rcases hm.2 s hs with hv | hv
    · rw [if_pos (show gi σ 87 s = -nI 1 from hv)]
      refine Lp_for (c 0) (fun j q => q.1 = nI (foldN (clS fb (CL (c 0) fb) s) 12 j) ∧ q.2.1 = nI j ∧ Eo S87 σ q.2.2 ∧ Mem q.2.2 (c 0) fb) ⟨rfl, rfl, Eo.rf, hm⟩ ?_ ?_
      · rintro j hj K ⟨x3, x4, υ⟩ ⟨r3, r4, e, hm2⟩ hK
        dsimp only at r3 r4 e hm2 hK ⊢
        subst r3 r4
        have hst : foldN (clS fb (CL (c 0) fb) s) 12 (j + 1) = clS fb (CL (c 0) fb) s (foldN (clS fb (CL (c 0) fb) s) 12 j) j := rfl
        rw [hst] at hK
        have hb := clS_le (fb := fb) (rec := CL (c 0) fb) (s := s) (n := j)
        generalize foldN (clS fb (CL (c 0) fb) s) 12 j = b at hK hb ⊢
        have hw2 := hw.ex (e.mo (fun _ _ => S87x))
        have hnj : ¬ c 0 ≤ j := by omega
        unfold w_X4_looksFor_39
        refine ⟨hw2.p95.1, ?_⟩
        rw [show gi υ (gr υ 95 3) 8 = nI (c 0) from hw2.p95.2.1 0 (by decide), if_neg (by rw [jI_le (by omega) (by omega)]; exact hnj)]
        refine ⟨vp_nI (by omega) (by decide), ?_⟩
        rw [tn_nI (by omega), hm2.1 j hj, jI_and]
        rintro x5 rfl
        have hf := and_12 (b := fb j) hs
        unfold clS at hK
        rw [N0]
        by_cases hf0 : s &&& fb j = 0
        · rw [if_pos (Or.inl hf0)] at hK
          rw [if_pos (by rw [hf0])]
          rintro x rfl
          rw [N1, jI_add]
          exact hK _ ⟨rfl, rfl, e, hm2⟩
        rw [if_neg (by rw [jI_eq (by omega) (by omega)]; exact hf0)]
        by_cases hfs : s &&& fb j = s
        · rw [if_pos (Or.inr hfs)] at hK
          rw [if_pos (by rw [hfs])]
          rintro x rfl
          rw [N1, jI_add]
          exact hK _ ⟨rfl, rfl, e, hm2⟩
        rw [if_neg (fun q => q.elim hf0 hfs)] at hK
        rw [if_neg (by rw [jI_eq (by omega) (by omega)]; exact hfs)]
        have c1 := card_lt (and_sub (a := s) (b := fb j)) hs hfs
        have c2 := card_lt (sub_sd (a := s) (b := s &&& fb j)) hs (sd_ne and_sub hf0)
        have l1 := CL_le (n := c 0) (fb := fb) hf
        have l2 := CL_le (n := c 0) (fb := fb) (sd_12' (b := s &&& fb j) hs)
        rw [N1, jI_add]
        refine c_looksFor ok n (s &&& fb j) (d + 1) υ _ hf (by omega) (by omega) hw2 hm2 (fun φ e3 hm3 => ?_)
        have hw3 := hw2.ex (e3.mo (fun _ _ => S87x))
        rw [jI_andn]
        refine c_looksFor ok n (sd s (s &&& fb j)) (d + 1) φ _ (sd_12' hs) (by omega) (by omega) hw3 hm3 (fun ψ e4 hm4 => ?_)
        rintro x rfl
        rintro y rfl
        rw [jI_max (by omega) (by omega)]
        have hmx : Nat.max (CL (c 0) fb (s &&& fb j)) (CL (c 0) fb (sd s (s &&& fb j))) ≤ 12 := by show max _ _ ≤ 12; omega
        rw [jI_add, jI_min (by omega) (by omega), jI_add]
        exact hK _ ⟨rfl, rfl, (e.tr e3).tr e4, hm4⟩
      · rintro K ⟨x3, x4, υ⟩ ⟨r3, r4, e, hm2⟩
        dsimp only at r3 r4 e hm2 ⊢
        subst r3 r4
        have hw2 := hw.ex (e.mo (fun _ _ => S87x))
        unfold w_X4_looksFor_39
        refine ⟨hw2.p95.1, ?_⟩
        rw [show gi υ (gr υ 95 3) 8 = nI (c 0) from hw2.p95.2.1 0 (by decide), if_pos (by rw [jI_le (by omega) (by omega)]; exact Nat.le_refl _)]
        refine ⟨vp_nI hs (by decide), ?_⟩
        rw [tn_nI (by omega), ← heq]
        exact k _ (e.tr (Eo.si rfl)) (hm2.put hs)
    · rw [hv, if_neg (show ¬ nI (CL (c 0) fb s) = -nI 1 from jI_none (by omega))]
      exact k σ Eo.rf hm
def sureF (c : Nat → Nat) (set : Nat) : Nat := LK (c 0) (felF c set) set
theorem c_fewestLooks {σ : Sto} {c : Nat → Nat} {P : Int32 → Sto → Prop} {N : Nat} (h : KW N σ c) (ok : OK c) (hN : N ≤ 2000) {set : Nat} (hset : set < 2 ^ c 0) (hsu : susp c 1 set) (k : ∀ τ, Eo SQ σ τ → KW N τ c → P (oI (sureF c set)) τ) : w_X4_fewestLooks (nI set) σ P := by
  have := ok.n0
  have := pw12 ok
  have h0 : set ≠ 0 := fun e => by have := hsu.1; rw [e, card_0] at this; omega
  unfold w_X4_fewestLooks
  refine Lp_for (c 0) (fun j q => q.1 = nI j ∧ Eo SQ σ q.2 ∧ KW N q.2 c ∧ ∀ t, t < j → set.testBit t = true → one c set t) ⟨rfl, Eo.rf, h, fun t ht => absurd ht (Nat.not_lt_zero _)⟩ ?_ ?_
  · rintro j hj K ⟨x2, υ⟩ ⟨r2, e, hw, ho⟩ hK
    dsimp only at r2 e hw ho hK ⊢
    subst r2
    have hn : ¬ c 0 ≤ j := by omega
    unfold w_X4_fewestLooks_2
    refine ⟨hw.p95.1, ?_⟩
    rw [show gi υ (gr υ 95 3) 8 = nI (c 0) from hw.p95.2.1 0 (by decide), if_neg (by rw [jI_le (by omega) (by omega)]; exact hn), N1, jI_31 (by omega), N0]
    simp only [jI_bit0 (show j < 32 by omega)]
    cases hb : set.testBit j <;> simp only [Bool.false_eq_true, Bool.true_eq_false, ↓reduceIte]
    · rintro x rfl
      rw [jI_add]
      refine hK _ ⟨rfl, e, hw, fun t ht hbt => ?_⟩
      by_cases htj : t = j
      · rw [htj, hb] at hbt; cases hbt
      · exact ho t (by omega) hbt
    · refine t_fallingWith hw.kb.1 ok hN hj (fun φ e3 h3 => ?_)
      have hw3 := hw.e89 e3 h3
      refine c_causesOf hw3 ok hN (fallF_12 ok) (fun ψ e4 hw4 => ?_)
      have hc12 : causF c (fallF c j) < 4096 := p12 causF_lt ok.n0
      have hcl := card_le (a := causF c (fallF c j) &&& set)
      rw [jI_and, t_bitCount12 (and_12 hc12)]
      have e5 : Eo SQ σ ψ := (e.tr (e3.mo (fun _ _ => S89q))).tr (e4.mo (fun _ _ => S89q))
      by_cases h1 : one c set j
      · rw [if_pos (by rw [jI_le (by omega) (by omega)]; exact h1)]
        rintro x rfl
        rw [jI_add]
        refine hK _ ⟨rfl, e5, hw4, fun t ht hbt => ?_⟩
        by_cases htj : t = j
        · rw [htj]; exact h1
        · exact ho t (by omega) hbt
      · rw [if_neg (by rw [jI_le (by omega) (by omega)]; exact h1)]
        have e0 : sureF c set = 0 := one_alike ok hset h1
        rw [e0] at k
        exact k ψ e5 hw4
  · rintro K ⟨x2, υ⟩ ⟨r2, e, hw, ho⟩
    dsimp only at r2 e hw ho ⊢
    subst r2
    have hd := one_dst ok hset (sd_zero.mp hsu.2) (fun t ht => ho t (bit_n hset ht) ht)
    have hLC := LK_CL 12 set card_le (by omega) h0 hd
    unfold w_X4_fewestLooks_2
    refine ⟨hw.p95.1, ?_⟩
    rw [show gi υ (gr υ 95 3) 8 = nI (c 0) from hw.p95.2.1 0 (by decide), if_pos (by rw [jI_le (by omega) (by omega)]; exact Nat.le_refl _)]
    refine c_findFelling hw ok hN (fun φ e3 hw3 hg => ?_)
    refine t_fill a87 (by decide) (fun ψ e4 hz => ?_)
    have hw4 := hw3.ex (e4.mo (fun _ _ => S87x))
    refine c_looksFor ok 16 set 0 ψ _ (by omega) (by have := card_le (a := set); omega) (by have := card_le (a := set); omega) hw4 ⟨fun x hx => by rw [e4.1 96 x (show ¬ (96 : Nat) = 87 by decide)]; exact hg x hx, fun s hs => Or.inl (hz s hs)⟩ (fun χ e5 hm => ?_)
    have hs1 : sureF c set = CL (c 0) (felF c set) set + 1 := hLC.1
    rw [hs1] at k
    exact k χ (((e.tr (e3.mo (fun a k q => by unfold S896 at q; unfold SQ; omega))).tr (e4.mo (fun _ _ q => SXq (S87x q)))).tr (e5.mo (fun _ _ q => SXq (S87x q)))) (hw4.ex (e5.mo (fun _ _ => S87x)))
def sureA (c : Nat → Nat) (x : Int32) : Int32 × Int32 := suspA c 1 x (fun t => orA (sureF c t))
theorem LK_le {n : Nat} {fb : Nat → Nat} {s : Nat} (hs : s < 4096) : LK n fb s < 1000 := by
  have key : ∀ k s, s < 4096 → lkF n fb k s ≤ k + 1 := by
    intro k
    induction k with
    | zero => intro s _; exact Nat.zero_le _
    | succ k ih =>
      intro s hs
      show (if card s = 1 then 1 else foldN (lkS fb (lkF n fb k) s) 0 n) ≤ k + 1 + 1
      split
      · omega
      · refine foldN_inv (f := lkS fb (lkF n fb k) s) (a := 0) (fun _ b => b ≤ k + 1 + 1) (Nat.zero_le _) (fun x b hb => ?_) n
        unfold lkS
        have i1 := ih (s &&& fb x) (and_12 hs)
        have i2 := ih (sd s (s &&& fb x)) (sd_12' hs)
        have hm : Nat.max (lkF n fb k (s &&& fb x)) (lkF n fb k (sd s (s &&& fb x))) ≤ k + 1 := by show max _ _ ≤ _; omega
        split
        · exact hb
        · split
          · omega
          · exact Nat.le_trans (Nat.min_le_right _ _) hb
  have := key 12 s hs
  unfold LK
  omega
theorem c_sure {σ : Sto} {c : Nat → Nat} {P : Int32 → Sto → Prop} {N : Nat} (h : KW N σ c) (ok : OK c) (hN : N ≤ 2000) {x : Int32} (k : ∀ τ, Eo SQ σ τ → KW N τ c → gi τ 1 15 = (sureA c x).2 → P (sureA c x).1 τ) : w_X11_sure x σ P := by
  have := pw12 ok
  have := ok.n0
  unfold sureA at k
  unfold w_X11_sure
  rw [N1]
  refine c_noSuspects h ok hN (by decide) (fun τ e hw hn => ?_) (fun t τ ht hxt hsu e hw => ?_)
  · rw [suspA_neg ok hn] at k
    rw [if_neg (by decide)]
    exact k _ (e.tr stq) hw.st gi_si_s
  · subst hxt
    rw [suspA_pos ok ht hsu] at k
    rw [if_pos rfl]
    refine c_fewestLooks hw ok hN ht hsu (fun υ e2 hw2 => ?_)
    have hle := LK_le (n := c 0) (fb := felF c t) (s := t) (by omega)
    refine t_fineOrNone (m := sureF c t) (by unfold sureF; omega) ?_
    exact k _ ((e.tr e2).tr stq) hw2.st gi_si_s
