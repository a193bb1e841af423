/-! ===== promise 47: sure; how many looks ===== -/
theorem sub_le {a b : Nat} (h : sub a b) : a ≤ b := by
  have : a &&& b = a := Nat.eq_of_testBit_eq (fun k => by
    rw [Nat.testBit_and]
    have := h k
    cases ha : a.testBit k <;> cases hb : b.testBit k <;> simp_all)
  rw [← this]
  exact Nat.and_le_right
theorem and_sub {a b : Nat} : sub (a &&& b) a := fun k h => by
  rw [Nat.testBit_and, Bool.and_eq_true] at h
  exact h.1
theorem card_two {a : Nat} (h : a < 12) : card (2 ^ a) = 1 := by
  revert a
  decide
theorem bit_of {s : Nat} (h : s ≠ 0) : ∃ k, s.testBit k = true := Classical.byContradiction (fun hc => h (Nat.eq_of_testBit_eq (fun k => by
  rw [Nat.zero_testBit]
  cases hk : s.testBit k with
  | false => rfl
  | true => exact absurd ⟨k, hk⟩ hc)))
theorem bit_12 {s k : Nat} (h : s < 4096) (hk : s.testBit k = true) : k < 12 := Classical.byContradiction (fun q => by
  have : s.testBit k = false := lt_two.mp (show s < 2 ^ 12 from h) k (by omega)
  rw [this] at hk; cases hk)
theorem sub_two {s a : Nat} (h : s.testBit a = true) : sub (2 ^ a) s := fun k hk => by
  rw [two_bit] at hk
  have : a = k := by simpa using hk
  rw [← this]; exact h
theorem card_ge2 {s a b : Nat} (hs : s < 4096) (ha : s.testBit a = true) (hb : s.testBit b = true) (hne : a ≠ b) : 2 ≤ card s := by
  have h1 := card_two (bit_12 hs ha)
  have h2 := card_lt (sub_two ha) hs (fun e => by
    rw [← e, two_bit] at hb
    exact hne (by simpa using hb))
  omega
theorem card_bits {s : Nat} (hs : s < 4096) (h : 2 ≤ card s) : ∃ a b, s.testBit a = true ∧ s.testBit b = true ∧ a ≠ b := by
  have h0 : s ≠ 0 := fun e => by rw [e, card_0] at h; omega
  obtain ⟨a, ha⟩ := bit_of h0
  have h1 : sd s (2 ^ a) ≠ 0 := fun e => by
    have h2 : s = 2 ^ a := sub.asym (sd_zero.mp e) (sub_two ha)
    have h3 := card_two (bit_12 hs ha)
    rw [← h2] at h3
    omega
  obtain ⟨b, hb⟩ := bit_of h1
  rw [sd_bit, two_bit, Bool.and_eq_true] at hb
  exact ⟨a, b, ha, hb.1, by simpa using hb.2⟩
theorem card_pos {s : Nat} (hs : s < 4096) (h : s ≠ 0) : 1 ≤ card s := by
  have := card_lt (a := 0) (b := s) (fun k hk => by simp at hk) hs (fun e => h e.symm)
  omega
theorem sd_ne {s f : Nat} (hf : sub f s) (h0 : f ≠ 0) : sd s f ≠ s := fun e => by
  obtain ⟨k, hk⟩ := bit_of h0
  have h1 := hf k hk
  rw [← e, sd_bit, hk] at h1
  simp at h1
theorem sd_ne0 {s f : Nat} (hf : sub f s) (h1 : f ≠ s) : sd s f ≠ 0 := fun e => h1 (sub.asym hf (sd_zero.mp e))
/-! == looks as numbers: 0 for none, else one more == -/
def lkS (fb rec : Nat → Nat) (s b x : Nat) : Nat := if s &&& fb x = 0 ∨ s &&& fb x = s ∨ rec (s &&& fb x) = 0 ∨ rec (sd s (s &&& fb x)) = 0 then b else if b = 0 then 1 + Nat.max (rec (s &&& fb x)) (rec (sd s (s &&& fb x))) else Nat.min (1 + Nat.max (rec (s &&& fb x)) (rec (sd s (s &&& fb x)))) b
def lkF (n : Nat) (fb : Nat → Nat) : Nat → Nat → Nat
  | 0, _ => 0
  | k + 1, s => if card s = 1 then 1 else foldN (lkS fb (lkF n fb k) s) 0 n
theorem lk_zero {n : Nat} {fb : Nat → Nat} : ∀ k, lkF n fb k 0 = 0
  | 0 => rfl
  | k + 1 => by
    show (if card 0 = 1 then 1 else foldN (lkS fb (lkF n fb k) 0) 0 n) = 0
    rw [if_neg (by decide)]
    exact foldN_inv (f := lkS fb (lkF n fb k) 0) (a := 0) (fun _ b => b = 0) rfl (fun x b hb => by
      unfold lkS
      rw [if_pos (Or.inl (Nat.zero_and _))]
      exact hb) n
theorem lk_st {n : Nat} {fb : Nat → Nat} : ∀ k s, s < 4096 → card s ≤ k → lkF n fb (k + 1) s = lkF n fb k s
  | 0, s, hs, hk => by
    rw [card_zero hs hk, lk_zero, lk_zero]
  | k + 1, s, hs, hk => by
    show (if card s = 1 then 1 else foldN (lkS fb (lkF n fb (k + 1)) s) 0 n) = (if card s = 1 then 1 else foldN (lkS fb (lkF n fb k) s) 0 n)
    by_cases h1 : card s = 1
    · rw [if_pos h1, if_pos h1]
    · rw [if_neg h1, if_neg h1]
      refine foldN_congr n (fun x _ b => ?_)
      unfold lkS
      by_cases hf0 : s &&& fb x = 0
      · rw [if_pos (Or.inl hf0), if_pos (Or.inl hf0)]
      by_cases hfs : s &&& fb x = s
      · rw [if_pos (Or.inr (Or.inl hfs)), if_pos (Or.inr (Or.inl hfs))]
      have c1 := card_lt (and_sub (a := s) (b := fb x)) hs hfs
      have c2 := card_lt (sub_sd (a := s) (b := s &&& fb x)) hs (sd_ne and_sub hf0)
      rw [lk_st k _ (and_12 hs) (by omega), lk_st k _ (sd_12' hs) (by omega)]
def LK (n : Nat) (fb : Nat → Nat) (s : Nat) : Nat := lkF n fb 12 s
theorem LK_eq {n : Nat} {fb : Nat → Nat} {s : Nat} (hs : s < 4096) : LK n fb s = if card s = 1 then 1 else foldN (lkS fb (LK n fb) s) 0 n := by
  unfold LK
  rw [← lk_st 12 s hs card_le]
  rfl
theorem lkS_one {fb rec : Nat → Nat} {s b x : Nat} (hs : s < 4096) (h1 : card s = 1) : lkS fb rec s b x = b := by
  unfold lkS
  by_cases hfs : s &&& fb x = s
  · rw [if_pos (Or.inr (Or.inl hfs))]
  · have c1 := card_lt (and_sub (a := s) (b := fb x)) hs hfs
    rw [if_pos (Or.inl (card_zero (and_12 hs) (by omega)))]
theorem LK_eq2 {n : Nat} {fb : Nat → Nat} {s : Nat} (hs : s < 4096) : LK n fb s = foldN (lkS fb (LK n fb) s) (if card s = 1 then 1 else 0) n := by
  rw [LK_eq hs]
  by_cases h1 : card s = 1
  · rw [if_pos h1, if_pos h1]
    exact (foldN_inv (f := lkS fb (LK n fb) s) (a := 1) (fun _ b => b = 1) rfl (fun x b hb => by rw [lkS_one hs h1]; exact hb) n).symm
  · rw [if_neg h1, if_neg h1]
def clS (fb rec : Nat → Nat) (s b x : Nat) : Nat := if s &&& fb x = 0 ∨ s &&& fb x = s then b else Nat.min (1 + Nat.max (rec (s &&& fb x)) (rec (sd s (s &&& fb x)))) b
def clF (n : Nat) (fb : Nat → Nat) : Nat → Nat → Nat
  | 0, _ => 0
  | k + 1, s => if card s ≤ 1 then 0 else foldN (clS fb (clF n fb k) s) 12 n
theorem cl_st {n : Nat} {fb : Nat → Nat} : ∀ k s, s < 4096 → card s ≤ k → clF n fb (k + 1) s = clF n fb k s
  | 0, s, hs, hk => by
    show (if card s ≤ 1 then 0 else foldN (clS fb (clF n fb 0) s) 12 n) = 0
    rw [if_pos (by omega)]
  | k + 1, s, hs, hk => by
    show (if card s ≤ 1 then 0 else foldN (clS fb (clF n fb (k + 1)) s) 12 n) = (if card s ≤ 1 then 0 else foldN (clS fb (clF n fb k) s) 12 n)
    by_cases h1 : card s ≤ 1
    · rw [if_pos h1, if_pos h1]
    · rw [if_neg h1, if_neg h1]
      refine foldN_congr n (fun x _ b => ?_)
      unfold clS
      by_cases hf0 : s &&& fb x = 0
      · rw [if_pos (Or.inl hf0), if_pos (Or.inl hf0)]
      by_cases hfs : s &&& fb x = s
      · rw [if_pos (Or.inr hfs), if_pos (Or.inr hfs)]
      have c1 := card_lt (and_sub (a := s) (b := fb x)) hs hfs
      have c2 := card_lt (sub_sd (a := s) (b := s &&& fb x)) hs (sd_ne and_sub hf0)
      rw [cl_st k _ (and_12 hs) (by omega), cl_st k _ (sd_12' hs) (by omega)]
def CL (n : Nat) (fb : Nat → Nat) (s : Nat) : Nat := clF n fb 12 s
theorem CL_eq {n : Nat} {fb : Nat → Nat} {s : Nat} (hs : s < 4096) : CL n fb s = if card s ≤ 1 then 0 else foldN (clS fb (CL n fb) s) 12 n := by
  unfold CL
  rw [← cl_st 12 s hs card_le]
  rfl
theorem clS_le {fb rec : Nat → Nat} {s n : Nat} : foldN (clS fb rec s) 12 n ≤ 12 :=
  foldN_inv (f := clS fb rec s) (a := 12) (fun _ b => b ≤ 12) (Nat.le_refl _) (fun x b hb => by
    unfold clS; split
    · exact hb
    · exact Nat.le_trans (Nat.min_le_right _ _) hb) n
theorem CL_le {n : Nat} {fb : Nat → Nat} {s : Nat} (hs : s < 4096) : CL n fb s ≤ 12 := by
  rw [CL_eq hs]
  split
  · omega
  · exact clS_le
def dst (n : Nat) (fb : Nat → Nat) (s : Nat) : Prop := ∀ a b, s.testBit a = true → s.testBit b = true → a ≠ b → ∃ x, x < n ∧ (fb x).testBit a ≠ (fb x).testBit b
theorem LK_CL {n : Nat} {fb : Nat → Nat} : ∀ m s, card s ≤ m → s < 4096 → s ≠ 0 → dst n fb s → LK n fb s = CL n fb s + 1 ∧ CL n fb s + 1 ≤ card s
  | 0, s, hm, hs, h0, _ => absurd (card_pos hs h0) (by omega)
  | m + 1, s, hm, hs, h0, hd => by
    have hcp := card_pos hs h0
    rw [LK_eq hs, CL_eq hs]
    by_cases h1 : card s = 1
    · rw [if_pos h1, if_pos (by omega)]
      omega
    rw [if_neg h1, if_neg (by omega)]
    have key : ∀ j, j ≤ n → (foldN (lkS fb (LK n fb) s) 0 j = 0 ∧ foldN (clS fb (CL n fb) s) 12 j = 12 ∧ ∀ x, x < j → (s &&& fb x = 0 ∨ s &&& fb x = s)) ∨ (foldN (lkS fb (LK n fb) s) 0 j = foldN (clS fb (CL n fb) s) 12 j + 1 ∧ foldN (clS fb (CL n fb) s) 12 j + 1 ≤ card s) := by
      intro j
      induction j with
      | zero => intro _; exact Or.inl ⟨rfl, rfl, fun x hx => absurd hx (Nat.not_lt_zero _)⟩
      | succ j ih =>
        intro hj
        have ih := ih (by omega)
        show (lkS fb (LK n fb) s (foldN (lkS fb (LK n fb) s) 0 j) j = 0 ∧ clS fb (CL n fb) s (foldN (clS fb (CL n fb) s) 12 j) j = 12 ∧ _) ∨ (lkS fb (LK n fb) s (foldN (lkS fb (LK n fb) s) 0 j) j = clS fb (CL n fb) s (foldN (clS fb (CL n fb) s) 12 j) j + 1 ∧ clS fb (CL n fb) s (foldN (clS fb (CL n fb) s) 12 j) j + 1 ≤ card s)
        generalize foldN (lkS fb (LK n fb) s) 0 j = L at ih ⊢
        generalize foldN (clS fb (CL n fb) s) 12 j = C at ih ⊢
        by_cases hp : s &&& fb j = 0 ∨ s &&& fb j = s
        · have e1 : lkS fb (LK n fb) s L j = L := by
            unfold lkS
            rw [if_pos (by rcases hp with h | h; exact Or.inl h; exact Or.inr (Or.inl h))]
          have e2 : clS fb (CL n fb) s C j = C := by
            unfold clS
            rw [if_pos hp]
          rw [e1, e2]
          rcases ih with ⟨i1, i2, i3⟩ | ih
          · refine Or.inl ⟨i1, i2, fun x hx => ?_⟩
            by_cases hxj : x = j
            · rw [hxj]; exact hp
            · exact i3 x (by omega)
          · exact Or.inr ih
        · have hp' : s &&& fb j ≠ 0 ∧ s &&& fb j ≠ s := ⟨fun q => hp (Or.inl q), fun q => hp (Or.inr q)⟩
          have c1 := card_lt (and_sub (a := s) (b := fb j)) hs hp'.2
          have c2 := card_lt (sub_sd (a := s) (b := s &&& fb j)) hs (sd_ne and_sub hp'.1)
          have l1 := LK_CL m (s &&& fb j) (by omega) (and_12 hs) hp'.1 (fun a b ha hb hab => hd a b (and_sub _ ha) (and_sub _ hb) hab)
          have l2 := LK_CL m (sd s (s &&& fb j)) (by omega) (sd_12' hs) (sd_ne0 and_sub hp'.2) (fun a b ha hb hab => hd a b (sub_sd _ ha) (sub_sd _ hb) hab)
          unfold lkS clS
          rw [if_neg hp, if_neg (by omega), l1.1, l2.1]
          generalize CL n fb (s &&& fb j) = u at l1 ⊢
          generalize CL n fb (sd s (s &&& fb j)) = v at l2 ⊢
          have m1 : Nat.max (u + 1) (v + 1) = Nat.max u v + 1 := by show max _ _ = max _ _ + 1; omega
          have m2 : Nat.max u v + 2 ≤ card s := by show max u v + 2 ≤ _; omega
          have hcs := card_le (a := s)
          rw [m1]
          generalize Nat.max u v = w at m2 ⊢
          refine Or.inr ?_
          rcases ih with ⟨i1, i2, -⟩ | ⟨i1, i2⟩
          · rw [i1, i2, if_pos rfl]
            show _ = min _ _ + 1 ∧ min _ _ + 1 ≤ _
            omega
          · rw [i1, if_neg (by omega)]
            show min _ _ = min _ _ + 1 ∧ min _ _ + 1 ≤ _
            omega
    rcases key n (Nat.le_refl _) with ⟨-, -, hno⟩ | hk
    · obtain ⟨a, b, ha, hb, hab⟩ := card_bits hs (by omega)
      obtain ⟨x, hx, hne⟩ := hd a b ha hb hab
      exfalso
      have hbit : ∀ k, s.testBit k = true → (s &&& fb x).testBit k = (fb x).testBit k := fun k hk => by rw [Nat.testBit_and, hk, Bool.true_and]
      rcases hno x hx with h | h
      · have e1 := hbit a ha
        have e2 := hbit b hb
        rw [h, Nat.zero_testBit] at e1 e2
        exact hne (e1.symm.trans e2)
      · have e1 := hbit a ha
        have e2 := hbit b hb
        rw [h, ha] at e1
        rw [h, hb] at e2
        exact hne (e1.symm.trans e2)
    · exact hk
theorem lk_alike {n : Nat} {fb : Nat → Nat} {a b : Nat} (hab : a ≠ b) (hx : ∀ x, x < n → (fb x).testBit a = (fb x).testBit b) : ∀ k s, s < 4096 → s.testBit a = true → s.testBit b = true → lkF n fb k s = 0
  | 0, _, _, _, _ => rfl
  | k + 1, s, hs, ha, hb => by
    have h2 := card_ge2 hs ha hb hab
    show (if card s = 1 then 1 else foldN (lkS fb (lkF n fb k) s) 0 n) = 0
    rw [if_neg (by omega)]
    refine foldN_inv2 (f := lkS fb (lkF n fb k) s) (a := 0) n (fun _ w => w = 0) rfl (fun x w hxn hw => ?_) n (Nat.le_refl _)
    unfold lkS
    have e := hx x hxn
    cases hfa : (fb x).testBit a with
    | true =>
      have i1 : (s &&& fb x).testBit a = true := by rw [Nat.testBit_and, ha, hfa]; rfl
      have i2 : (s &&& fb x).testBit b = true := by rw [Nat.testBit_and, hb, ← e, hfa]; rfl
      rw [if_pos (Or.inr (Or.inr (Or.inl (lk_alike hab hx k _ (and_12 hs) i1 i2))))]
      exact hw
    | false =>
      have i1 : (sd s (s &&& fb x)).testBit a = true := by rw [sd_bit, Nat.testBit_and, ha, hfa]; rfl
      have i2 : (sd s (s &&& fb x)).testBit b = true := by rw [sd_bit, Nat.testBit_and, hb, ← e, hfa]; rfl
      rw [if_pos (Or.inr (Or.inr (Or.inr (lk_alike hab hx k _ (sd_12' hs) i1 i2))))]
      exact hw
