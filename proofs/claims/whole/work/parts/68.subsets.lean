/-! ===== all sets out of a set, one behind another; the least of the smallest ===== -/
theorem lt_tb {a b i : Nat} (ha : a.testBit i = false) (hb : b.testBit i = true) (h : ∀ j, i < j → a.testBit j = b.testBit j) : a < b := by
  have e1 : a / 2 ^ (i + 1) = b / 2 ^ (i + 1) := Nat.eq_of_testBit_eq (fun k => by
    rw [Nat.testBit_div_two_pow, Nat.testBit_div_two_pow]
    exact h _ (by omega))
  have h1 : a % 2 ^ (i + 1) < 2 ^ i := lt_two.mpr (fun k hk => by
    rw [Nat.testBit_mod_two_pow]
    by_cases hki : k < i + 1
    · have : k = i := by omega
      rw [this, ha]
      simp
    · simp [hki])
  have h2 : b % 2 ^ (i + 1) ≥ 2 ^ i := Nat.ge_two_pow_of_testBit (by
    rw [Nat.testBit_mod_two_pow, hb]
    simp)
  have h3 := Nat.div_add_mod a (2 ^ (i + 1))
  have h4 := Nat.div_add_mod b (2 ^ (i + 1))
  rw [e1] at h3
  omega
theorem hi_diff {a b : Nat} : ∀ n, (∀ j, n ≤ j → a.testBit j = b.testBit j) → a ≠ b → ∃ j, a.testBit j ≠ b.testBit j ∧ ∀ i, j < i → a.testBit i = b.testBit i
  | 0, h, hne => absurd (Nat.eq_of_testBit_eq (fun k => h k (Nat.zero_le _))) hne
  | n + 1, h, hne => by
    by_cases hn : a.testBit n = b.testBit n
    · exact hi_diff n (fun j hj => by
        by_cases hjn : j = n
        · rw [hjn]; exact hn
        · exact h j (by omega)) hne
    · exact ⟨n, hn, fun i hi => h i (by omega)⟩
theorem lt_top {a b : Nat} (ha : a < 4096) (hb : b < 4096) (h : a < b) : ∃ j, a.testBit j = false ∧ b.testBit j = true ∧ ∀ i, j < i → a.testBit i = b.testBit i := by
  obtain ⟨j, h1, h2⟩ := hi_diff (a := a) (b := b) 12 (fun j hj => by
    rw [lt_two.mp (show a < 2 ^ 12 from ha) j hj, lt_two.mp (show b < 2 ^ 12 from hb) j hj]) (by omega)
  cases ea : a.testBit j with
  | false =>
    refine ⟨j, ea, ?_, h2⟩
    cases eb : b.testBit j with
    | true => rfl
    | false => rw [ea, eb] at h1; exact absurd rfl h1
  | true =>
    have eb : b.testBit j = false := by
      cases eb : b.testBit j with
      | false => rfl
      | true => rw [ea, eb] at h1; exact absurd rfl h1
    have := lt_tb eb ea (fun i hi => (h2 i hi).symm)
    omega
def nxN (f e : Nat) : Nat := ((BitVec.ofNat 32 e - BitVec.ofNat 32 f) &&& BitVec.ofNat 32 f).toNat
theorem jI_nx {f e : Nat} : (nI e - nI f) &&& nI f = nI (nxN f e) := by
  apply Int32.toBitVec_inj.mp
  rw [Int32.toBitVec_and, Int32.toBitVec_sub, jI_toBV, jI_toBV, jI_toBV]
  unfold nxN
  rw [BitVec.ofNat_toNat, BitVec.setWidth_eq]
theorem nx_bit {f e i : Nat} (he : sub e f) (hf : f < 4096) : (nxN f e).testBit i = (f.testBit i && ((sd f e).testBit i ^^ decide (∃ j, j < i ∧ (sd f e).testBit j = true))) := by
  have hle := sub_le he
  have hd : sd f e < 4096 := sd_12' hf
  have e1 : BitVec.ofNat 32 e - BitVec.ofNat 32 f = -(BitVec.ofNat 32 (sd f e)) := by
    have h2 : BitVec.ofNat 32 e &&& BitVec.ofNat 32 (sd f e) = 0#32 := by
      apply BitVec.eq_of_getLsbD_eq
      intro k hk
      rw [BitVec.getLsbD_and, BitVec.getLsbD_ofNat, BitVec.getLsbD_ofNat, sd_bit]
      cases e.testBit k <;> simp
    have h3 : BitVec.ofNat 32 f = BitVec.ofNat 32 e + BitVec.ofNat 32 (sd f e) := by
      rw [BitVec.add_eq_or_of_and_eq_zero _ _ h2]
      apply BitVec.eq_of_getLsbD_eq
      intro k hk
      rw [BitVec.getLsbD_or, BitVec.getLsbD_ofNat, BitVec.getLsbD_ofNat, BitVec.getLsbD_ofNat, sd_bit]
      have := he k
      cases h1 : e.testBit k <;> cases h2 : f.testBit k <;> simp_all
    rw [BitVec.sub_eq_iff_eq_add, h3]
    generalize BitVec.ofNat 32 e = u
    generalize BitVec.ofNat 32 (sd f e) = v
    rw [BitVec.add_comm u v, ← BitVec.add_assoc, BitVec.add_comm (-v) v, BitVec.add_right_neg, BitVec.zero_add]
  unfold nxN
  rw [e1, BitVec.testBit_toNat, BitVec.getLsbD_and, BitVec.getLsbD_neg]
  by_cases hi : i < 32
  · have e2 : ∀ x, x < 4096 → ∀ j, j < 32 → (BitVec.ofNat 32 x).getLsbD j = x.testBit j := fun x hx j hj => by rw [BitVec.getLsbD_ofNat, decide_eq_true hj, Bool.true_and]
    rw [e2 _ hd i hi, e2 _ hf i hi, decide_eq_true hi, Bool.true_and, Bool.and_comm]
    congr 2
    rw [decide_eq_decide]
    constructor
    · rintro ⟨j, h1, h2⟩; exact ⟨j, h1, by rw [← e2 _ hd j (by omega)]; exact h2⟩
    · rintro ⟨j, h1, h2⟩; exact ⟨j, h1, by rw [e2 _ hd j (by omega)]; exact h2⟩
  · have : f.testBit i = false := lt_two.mp (show f < 2 ^ 12 from hf) i (by omega)
    rw [BitVec.getLsbD_ofNat (x := f), this]
    simp
theorem nx_sub {f e : Nat} (he : sub e f) (hf : f < 4096) : sub (nxN f e) f := fun k hk => by
  rw [nx_bit he hf, Bool.and_eq_true] at hk
  exact hk.1
theorem low_bit {d : Nat} (h : d ≠ 0) : ∃ p, d.testBit p = true ∧ ∀ j, j < p → d.testBit j = false := by
  obtain ⟨k, hk⟩ := bit_of h
  have : ∀ n, (∃ k, k < n ∧ d.testBit k = true) → ∃ p, d.testBit p = true ∧ ∀ j, j < p → d.testBit j = false := fun n => by
    induction n with
    | zero => rintro ⟨k, h1, -⟩; omega
    | succ n ih =>
      rintro ⟨k, h1, h2⟩
      by_cases hq : ∃ k, k < n ∧ d.testBit k = true
      · exact ih hq
      · refine ⟨k, h2, fun j hj => ?_⟩
        cases hd : d.testBit j with
        | false => rfl
        | true => exact absurd ⟨j, by omega, hd⟩ hq
  exact this (k + 1) ⟨k, by omega, hk⟩
/-- what stands at the place that is lowest of those free: the bits of the next set -/
theorem nx_pic {f e : Nat} (he : sub e f) (hf : f < 4096) (hne : e ≠ f) : ∃ p, f.testBit p = true ∧ e.testBit p = false ∧ (nxN f e).testBit p = true ∧ (∀ j, j < p → e.testBit j = f.testBit j ∧ (nxN f e).testBit j = false) ∧ ∀ j, p < j → (nxN f e).testBit j = e.testBit j := by
  have hd : sd f e ≠ 0 := fun q => hne (sub.asym he (sd_zero.mp q))
  obtain ⟨p, h1, h2⟩ := low_bit hd
  have h1' := h1
  rw [sd_bit, Bool.and_eq_true] at h1'
  have hno : decide (∃ j, j < p ∧ (sd f e).testBit j = true) = false := decide_eq_false (fun ⟨j, a, b⟩ => by rw [h2 j a] at b; cases b)
  refine ⟨p, h1'.1, by simpa using h1'.2, ?_, fun j hj => ?_, fun j hj => ?_⟩
  · rw [nx_bit he hf, h1'.1, h1, hno]; rfl
  · have h3 := h2 j hj
    have hno' : decide (∃ i, i < j ∧ (sd f e).testBit i = true) = false := decide_eq_false (fun ⟨i, a, b⟩ => by rw [h2 i (by omega)] at b; cases b)
    rw [nx_bit he hf, h3, hno']
    rw [sd_bit] at h3
    have := he j
    cases ef : f.testBit j <;> cases ee : e.testBit j <;> simp_all
  · have hyes : decide (∃ i, i < j ∧ (sd f e).testBit i = true) = true := decide_eq_true ⟨p, hj, h1⟩
    rw [nx_bit he hf, hyes, sd_bit]
    have := he j
    cases ef : f.testBit j <;> cases ee : e.testBit j <;> simp_all
theorem nx_gt {f e : Nat} (he : sub e f) (hf : f < 4096) (hne : e ≠ f) : e < nxN f e := by
  obtain ⟨p, -, h2, h3, -, h5⟩ := nx_pic he hf hne
  exact lt_tb h2 h3 (fun j hj => (h5 j hj).symm)
theorem nx_next {f e s : Nat} (he : sub e f) (hf : f < 4096) (hne : e ≠ f) (hs : sub s f) (h : e < s) : nxN f e ≤ s := by
  obtain ⟨p, h1, h2, h3, h4, h5⟩ := nx_pic he hf hne
  have hs12 : s < 4096 := Nat.lt_of_le_of_lt (sub_le hs) hf
  have he12 : e < 4096 := Nat.lt_of_le_of_lt (sub_le he) hf
  obtain ⟨j, g1, g2, g3⟩ := lt_top he12 hs12 h
  by_cases hjp : p < j
  · refine Nat.le_of_lt (lt_tb (i := j) (by rw [h5 j hjp]; exact g1) g2 (fun i hi => by rw [h5 i (by omega)]; exact g3 i hi))
  · by_cases hj : j = p
    · subst hj
      refine sub_le (fun i hi => ?_)
      by_cases hij : i = j
      · rw [hij]; exact g2
      · by_cases hlt : i < j
        · rw [(h4 i hlt).2] at hi; cases hi
        · rw [h5 i (by omega)] at hi
          rw [← g3 i (by omega)]; exact hi
    · have h6 := (h4 j (by omega)).1
      have h7 := hs j g2
      rw [← h6, g1] at h7
      cases h7
/-! == the number of a set among those out of a set == -/
def rkF (f e : Nat) (n : Nat) : Nat := foldN (fun a i => if f.testBit i = true ∧ e.testBit i = true then a + 2 ^ cardN i f else a) 0 n
theorem rkF_s {f e n : Nat} : rkF f e (n + 1) = if f.testBit n = true ∧ e.testBit n = true then rkF f e n + 2 ^ cardN n f else rkF f e n := rfl
theorem cardN_s {f n : Nat} : cardN (n + 1) f = cardN n f + (f.testBit n).toNat := rfl
theorem rk_low {f e : Nat} : ∀ n, (∀ j, j < n → e.testBit j = f.testBit j) → rkF f e n + 1 = 2 ^ cardN n f
  | 0, _ => rfl
  | n + 1, h => by
    have ih := rk_low n (fun j hj => h j (by omega))
    rw [rkF_s, cardN_s, h n (by omega)]
    cases hf : f.testBit n
    · simp only [Bool.false_eq_true, and_self, ↓reduceIte, Bool.toNat_false, Nat.add_zero]
      exact ih
    · simp only [and_self, ↓reduceIte, Bool.toNat_true]
      rw [Nat.pow_succ]
      omega
theorem rk_zero {f e : Nat} : ∀ n, (∀ j, j < n → e.testBit j = false) → rkF f e n = 0
  | 0, _ => rfl
  | n + 1, h => by
    rw [rkF_s, h n (by omega), rk_zero n (fun j hj => h j (by omega))]
    simp
theorem rk_next {f e : Nat} (he : sub e f) (hf : f < 4096) (hne : e ≠ f) : rkF f (nxN f e) 12 = rkF f e 12 + 1 := by
  obtain ⟨p, h1, h2, h3, h4, h5⟩ := nx_pic he hf hne
  have hp := bit_12 hf h1
  have key : ∀ d, p + 1 + d ≤ 12 → rkF f (nxN f e) (p + 1 + d) = rkF f e (p + 1 + d) + 1 := fun d => by
    induction d with
    | zero =>
      intro _
      rw [Nat.add_zero, rkF_s, rkF_s, h1, h2, h3, rk_zero p (fun j hj => (h4 j hj).2)]
      have := rk_low (f := f) (e := e) p (fun j hj => (h4 j hj).1)
      simp only [and_self, ↓reduceIte, Bool.false_eq_true, and_false]
      omega
    | succ d ih =>
      intro hd
      have ih := ih (by omega)
      rw [← Nat.add_assoc, rkF_s, rkF_s, h5 _ (by omega), ih]
      split <;> omega
  have := key (11 - p) (by omega)
  rw [show p + 1 + (11 - p) = 12 by omega] at this
  exact this
theorem rk_le {f e : Nat} : ∀ n, rkF f e n + 1 ≤ 2 ^ cardN n f
  | 0 => Nat.le_refl _
  | n + 1 => by
    have ih := rk_le (f := f) (e := e) n
    rw [rkF_s, cardN_s]
    cases hf : f.testBit n
    · simp only [Bool.false_eq_true, false_and, ↓reduceIte, Bool.toNat_false, Nat.add_zero]
      exact ih
    · rw [Bool.toNat_true, Nat.pow_succ]
      split <;> omega
theorem rk_lt {f e : Nat} : rkF f e 12 < 2 ^ card f := rk_le (f := f) (e := e) 12
/-! == the least of the smallest: 0 none, else one more == -/
def isLst (free : Nat) (T : Nat → Bool) (r : Nat) : Prop := (r = 0 ∧ ∀ s, sub s free → T s = false) ∨ ∃ s, r = s + 1 ∧ sub s free ∧ T s = true ∧ ∀ s', sub s' free → T s' = true → card s < card s' ∨ (card s = card s' ∧ s ≤ s')
theorem isLst.uniq {free : Nat} {T : Nat → Bool} {r q : Nat} (h : isLst free T r) (g : isLst free T q) : r = q := by
  rcases h with ⟨h1, h2⟩ | ⟨s, h1, h2, h3, h4⟩
  · rcases g with ⟨g1, g2⟩ | ⟨t, g1, g2, g3, g4⟩
    · omega
    · rw [h2 t g2] at g3; cases g3
  · rcases g with ⟨g1, g2⟩ | ⟨t, g1, g2, g3, g4⟩
    · rw [g2 s h2] at h3; cases h3
    · have a := h4 t g2 g3
      have b := g4 s h2 h3
      omega
theorem isLst.wide {A B : Nat} {T : Nat → Bool} {r : Nat} (h : isLst A T r) (hB : B < 4096) (hAB : sub A B) (hT : ∀ s, sub s B → T s = true → T (s &&& A) = true) : isLst B T r := by
  rcases h with ⟨h1, h2⟩ | ⟨s, h1, h2, h3, h4⟩
  · refine Or.inl ⟨h1, fun s hs => ?_⟩
    cases hq : T s with
    | false => rfl
    | true =>
      have h3 := hT s hs hq
      rw [h2 _ (fun k hk => by rw [Nat.testBit_and, Bool.and_eq_true] at hk; exact hk.2)] at h3
      cases h3
  · refine Or.inr ⟨s, h1, h2.tr hAB, h3, fun s' hs' ht' => ?_⟩
    have h5 := h4 _ (fun k hk => by rw [Nat.testBit_and, Bool.and_eq_true] at hk; exact hk.2) (hT s' hs' ht')
    by_cases he : s' &&& A = s'
    · rw [he] at h5; exact h5
    · have h6 := card_lt (and_sub (a := s') (b := A)) (Nat.lt_of_le_of_lt (sub_le hs') hB) he
      omega
def lsS (free : Nat) (T : Nat → Bool) (b s : Nat) : Nat := if sd s free = 0 ∧ (b = 0 ∨ card s < card (b - 1)) ∧ T s = true then s + 1 else b
def lsF (free : Nat) (T : Nat → Bool) : Nat := foldN (lsS free T) 0 (free + 1)
theorem lsF_lst {free : Nat} {T : Nat → Bool} : isLst free T (lsF free T) := by
  have key : ∀ n, (foldN (lsS free T) 0 n = 0 ∧ ∀ s, s < n → sub s free → T s = false) ∨ ∃ s, foldN (lsS free T) 0 n = s + 1 ∧ s < n ∧ sub s free ∧ T s = true ∧ ∀ s', s' < n → sub s' free → T s' = true → card s < card s' ∨ (card s = card s' ∧ s ≤ s') := fun n => by
    induction n with
    | zero => exact Or.inl ⟨rfl, fun s hs => absurd hs (Nat.not_lt_zero _)⟩
    | succ n ih =>
      show (lsS free T (foldN (lsS free T) 0 n) n = 0 ∧ _) ∨ ∃ s, lsS free T (foldN (lsS free T) 0 n) n = s + 1 ∧ _
      generalize foldN (lsS free T) 0 n = b at ih ⊢
      by_cases hc : sd n free = 0 ∧ (b = 0 ∨ card n < card (b - 1)) ∧ T n = true
      · have e1 : lsS free T b n = n + 1 := by unfold lsS; rw [if_pos hc]
        rw [e1]
        refine Or.inr ⟨n, rfl, by omega, sd_zero.mp hc.1, hc.2.2, fun s' hs' hsub' ht' => ?_⟩
        by_cases hsn : s' = n
        · rw [hsn]; exact Or.inr ⟨rfl, Nat.le_refl _⟩
        · rcases ih with ⟨i1, i2⟩ | ⟨s, i1, i2, i3, i4, i5⟩
          · rw [i2 s' (by omega) hsub'] at ht'; cases ht'
          · have h6 := i5 s' (by omega) hsub' ht'
            rw [i1] at hc
            have h7 : card n < card s := by
              rcases hc.2.1 with q | q
              · cases q
              · exact q
            omega
      · have e1 : lsS free T b n = b := by unfold lsS; rw [if_neg hc]
        rw [e1]
        rcases ih with ⟨i1, i2⟩ | ⟨s, i1, i2, i3, i4, i5⟩
        · refine Or.inl ⟨i1, fun s hs hsub => ?_⟩
          by_cases hsn : s = n
          · cases ht : T s with
            | false => rfl
            | true => rw [hsn] at hsub ht; exact absurd ⟨sd_zero.mpr hsub, Or.inl i1, ht⟩ hc
          · exact i2 s (by omega) hsub
        · refine Or.inr ⟨s, i1, by omega, i3, i4, fun s' hs' hsub' ht' => ?_⟩
          by_cases hsn : s' = n
          · rw [hsn] at hsub' ht' ⊢
            have : ¬ card n < card s := fun q => hc ⟨sd_zero.mpr hsub', Or.inr (by rw [i1]; exact q), ht'⟩
            omega
          · exact i5 s' (by omega) hsub' ht'
  rcases key (free + 1) with ⟨h1, h2⟩ | ⟨s, h1, h2, h3, h4, h5⟩
  · exact Or.inl ⟨h1, fun s hs => h2 s (by have := sub_le hs; omega) hs⟩
  · exact Or.inr ⟨s, h1, h3, h4, fun s' hs' ht' => h5 s' (by have := sub_le hs'; omega) hs' ht'⟩
