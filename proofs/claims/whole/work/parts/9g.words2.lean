/-! ===== texts: which word of the model's ===== -/
/-- of a token -/
def tokW (t : TKn) : Prop := t.1 ≤ 4 ∧ (t.2.2.2.2 ≤ 8 → t.1 = 1 → t.2.2.2.1 < 2 ^ 40) ∧ (t.1 = 2 → t.2.2.2.1 < 10000) ∧ (t.1 = 3 → t.2.2.2.1 < 256) ∧ t.2.1 ≤ t.2.2.1
theorem dgF_lt {T : Nat → Nat} {a : Nat} : ∀ k, (∀ i, i < k → 48 ≤ T (a + i) ∧ T (a + i) ≤ 57) → dgF T a k < 10 ^ k
  | 0, _ => Nat.zero_lt_one
  | k + 1, h => by
    have h1 := dgF_lt k (fun i hi => h i (by omega))
    have h2 := h k (by omega)
    unfold dgF
    rw [Nat.pow_succ]
    omega
theorem diF_all {T : Nat → Nat} : ∀ d p i, p ≤ i → i < diF T d p → 48 ≤ T i ∧ T i ≤ 57
  | 0, p, i, h1, h2 => by
    unfold diF at h2; omega
  | d + 1, p, i, h1, h2 => by
    unfold diF at h2
    by_cases h : 48 ≤ T p ∧ T p ≤ 57
    · rw [if_pos h] at h2
      by_cases hi : i = p
      · rw [hi]; exact h
      · exact diF_all d (p + 1) i (by omega) h2
    · rw [if_neg h] at h2; omega
theorem tokA_W {T : Nat → Nat} {n a : Nat} (hT : ∀ k, k < n → T k < 256) : tokW (tokA T n a) := by
  have hl := leF_le (T := T) (n - a) a
  have hd := diF_le (T := T) (n - a) a
  unfold tokA
  split
  · exact ⟨Nat.zero_le 4, fun _ q => absurd (show (0 : Nat) = 1 from q) (by decide), fun q => absurd (show (0 : Nat) = 2 from q) (by decide), fun q => absurd (show (0 : Nat) = 3 from q) (by decide), Nat.le_refl _⟩
  · rename_i hn
    split
    · refine ⟨(show (1 : Nat) ≤ 4 by decide), fun h8 _ => ?_, fun q => absurd (show (1 : Nat) = 2 from q) (by decide), fun q => absurd (show (1 : Nat) = 3 from q) (by decide), hl.1⟩
      dsimp only at h8 ⊢
      have h1 := pkF_lt (T := T) (a := a) (leF T (n - a) a - a) (fun i hi => leF_all (n - a) a (a + i) (by omega) (by omega))
      have h2 : 32 ^ (leF T (n - a) a - a) ≤ 32 ^ 8 := Nat.pow_le_pow_right (by decide) h8
      have h3 : 32 ^ 8 = 2 ^ 40 := by decide
      omega
    · split
      · split
        · rename_i h4
          refine ⟨(show (2 : Nat) ≤ 4 by decide), fun _ q => absurd (show (2 : Nat) = 1 from q) (by decide), fun _ => ?_, fun q => absurd (show (2 : Nat) = 3 from q) (by decide), hd.1⟩
          dsimp only
          have h1 := dgF_lt (T := T) (a := a) (diF T (n - a) a - a) (fun i hi => diF_all (n - a) a (a + i) (by omega) (by omega))
          have h2 : 10 ^ (diF T (n - a) a - a) ≤ 10 ^ 4 := Nat.pow_le_pow_right (by decide) h4
          omega
        · exact ⟨Nat.le_refl 4, fun _ q => absurd (show (4 : Nat) = 1 from q) (by decide), fun q => absurd (show (4 : Nat) = 2 from q) (by decide), fun q => absurd (show (4 : Nat) = 3 from q) (by decide), hd.1⟩
      · split
        · exact ⟨(show (3 : Nat) ≤ 4 by decide), fun _ q => absurd (show (3 : Nat) = 1 from q) (by decide), fun q => absurd (show (3 : Nat) = 2 from q) (by decide), fun _ => hT a (by omega), Nat.le_succ a⟩
        · exact ⟨Nat.le_refl 4, fun _ q => absurd (show (4 : Nat) = 1 from q) (by decide), fun q => absurd (show (4 : Nat) = 2 from q) (by decide), fun q => absurd (show (4 : Nat) = 3 from q) (by decide), Nat.le_succ a⟩
theorem t_word {σ : Sto} {t : TKn} {p q r s t' u k : Nat} {P : Int32 → Sto → Prop} (h : TKM σ t) (hw : tokW t) (hk : k < 23) (e : splF p q r s t' u = kwN k) (hp : 97 ≤ p ∧ p ≤ 122) (hq : 97 ≤ q ∧ q ≤ 122) (hr : okL r) (hs : okL s) (ht : okL t') (hu : okL u) (k1 : isKw t k → P 1 σ) (k0 : ¬ isKw t k → P 0 σ) : w_X12_spelled (nI p) (nI q) (nI r) (nI s) (nI t') (nI u) σ (fun r σ1 => w_X12_isWord r σ1 P) := by
  refine t_spelled hp hq hr hs ht hu ?_
  rw [e]
  exact t_isWord h hw.2.1 hk hw.1 k1 k0
theorem t_isThing {σ : Sto} {t : TKn} {P : Int32 → Sto → Prop} (h : TKM σ t) (hw : tokW t) (k1 : isKw t 0 → P 1 σ) (k0 : ¬ isKw t 0 → P 0 σ) : w_X12_isThing σ P := by
  unfold w_X12_isThing
  exact t_word (p := 116) (q := 104) (r := 105) (s := 110) (t' := 103) (u := 0) (k := 0) h hw (by decide) (by decide) (by decide) (by decide) (by unfold okL; omega) (by unfold okL; omega) (by unfold okL; omega) (by unfold okL; omega) (fun q => ⟨Or.inr rfl, k1 q⟩) (fun q => ⟨Or.inl rfl, k0 q⟩)
theorem t_isWorth {σ : Sto} {t : TKn} {P : Int32 → Sto → Prop} (h : TKM σ t) (hw : tokW t) (k1 : isKw t 1 → P 1 σ) (k0 : ¬ isKw t 1 → P 0 σ) : w_X12_isWorth σ P := by
  unfold w_X12_isWorth
  exact t_word (p := 119) (q := 111) (r := 114) (s := 116) (t' := 104) (u := 0) (k := 1) h hw (by decide) (by decide) (by decide) (by decide) (by unfold okL; omega) (by unfold okL; omega) (by unfold okL; omega) (by unfold okL; omega) (fun q => ⟨Or.inr rfl, k1 q⟩) (fun q => ⟨Or.inl rfl, k0 q⟩)
theorem t_isExemptWord {σ : Sto} {t : TKn} {P : Int32 → Sto → Prop} (h : TKM σ t) (hw : tokW t) (k1 : isKw t 2 → P 1 σ) (k0 : ¬ isKw t 2 → P 0 σ) : w_X12_isExemptWord σ P := by
  unfold w_X12_isExemptWord
  exact t_word (p := 101) (q := 120) (r := 101) (s := 109) (t' := 112) (u := 116) (k := 2) h hw (by decide) (by decide) (by decide) (by decide) (by unfold okL; omega) (by unfold okL; omega) (by unfold okL; omega) (by unfold okL; omega) (fun q => ⟨Or.inr rfl, k1 q⟩) (fun q => ⟨Or.inl rfl, k0 q⟩)
theorem t_isMakes {σ : Sto} {t : TKn} {P : Int32 → Sto → Prop} (h : TKM σ t) (hw : tokW t) (k1 : isKw t 3 → P 1 σ) (k0 : ¬ isKw t 3 → P 0 σ) : w_X12_isMakes σ P := by
  unfold w_X12_isMakes
  exact t_word (p := 109) (q := 97) (r := 107) (s := 101) (t' := 115) (u := 0) (k := 3) h hw (by decide) (by decide) (by decide) (by decide) (by unfold okL; omega) (by unfold okL; omega) (by unfold okL; omega) (by unfold okL; omega) (fun q => ⟨Or.inr rfl, k1 q⟩) (fun q => ⟨Or.inl rfl, k0 q⟩)
theorem t_isFrom {σ : Sto} {t : TKn} {P : Int32 → Sto → Prop} (h : TKM σ t) (hw : tokW t) (k1 : isKw t 4 → P 1 σ) (k0 : ¬ isKw t 4 → P 0 σ) : w_X12_isFrom σ P := by
  unfold w_X12_isFrom
  exact t_word (p := 102) (q := 114) (r := 111) (s := 109) (t' := 0) (u := 0) (k := 4) h hw (by decide) (by decide) (by decide) (by decide) (by unfold okL; omega) (by unfold okL; omega) (by unfold okL; omega) (by unfold okL; omega) (fun q => ⟨Or.inr rfl, k1 q⟩) (fun q => ⟨Or.inl rfl, k0 q⟩)
theorem t_isWork {σ : Sto} {t : TKn} {P : Int32 → Sto → Prop} (h : TKM σ t) (hw : tokW t) (k1 : isKw t 5 → P 1 σ) (k0 : ¬ isKw t 5 → P 0 σ) : w_X12_isWork σ P := by
  unfold w_X12_isWork
  exact t_word (p := 119) (q := 111) (r := 114) (s := 107) (t' := 0) (u := 0) (k := 5) h hw (by decide) (by decide) (by decide) (by decide) (by unfold okL; omega) (by unfold okL; omega) (by unfold okL; omega) (by unfold okL; omega) (fun q => ⟨Or.inr rfl, k1 q⟩) (fun q => ⟨Or.inl rfl, k0 q⟩)
theorem t_isNeeds {σ : Sto} {t : TKn} {P : Int32 → Sto → Prop} (h : TKM σ t) (hw : tokW t) (k1 : isKw t 6 → P 1 σ) (k0 : ¬ isKw t 6 → P 0 σ) : w_X12_isNeeds σ P := by
  unfold w_X12_isNeeds
  exact t_word (p := 110) (q := 101) (r := 101) (s := 100) (t' := 115) (u := 0) (k := 6) h hw (by decide) (by decide) (by decide) (by decide) (by unfold okL; omega) (by unfold okL; omega) (by unfold okL; omega) (by unfold okL; omega) (fun q => ⟨Or.inr rfl, k1 q⟩) (fun q => ⟨Or.inl rfl, k0 q⟩)
theorem t_isVoter {σ : Sto} {t : TKn} {P : Int32 → Sto → Prop} (h : TKM σ t) (hw : tokW t) (k1 : isKw t 7 → P 1 σ) (k0 : ¬ isKw t 7 → P 0 σ) : w_X12_isVoter σ P := by
  unfold w_X12_isVoter
  exact t_word (p := 118) (q := 111) (r := 116) (s := 101) (t' := 114) (u := 0) (k := 7) h hw (by decide) (by decide) (by decide) (by decide) (by unfold okL; omega) (by unfold okL; omega) (by unfold okL; omega) (by unfold okL; omega) (fun q => ⟨Or.inr rfl, k1 q⟩) (fun q => ⟨Or.inl rfl, k0 q⟩)
theorem t_isHates {σ : Sto} {t : TKn} {P : Int32 → Sto → Prop} (h : TKM σ t) (hw : tokW t) (k1 : isKw t 8 → P 1 σ) (k0 : ¬ isKw t 8 → P 0 σ) : w_X12_isHates σ P := by
  unfold w_X12_isHates
  exact t_word (p := 104) (q := 97) (r := 116) (s := 101) (t' := 115) (u := 0) (k := 8) h hw (by decide) (by decide) (by decide) (by decide) (by unfold okL; omega) (by unfold okL; omega) (by unfold okL; omega) (by unfold okL; omega) (fun q => ⟨Or.inr rfl, k1 q⟩) (fun q => ⟨Or.inl rfl, k0 q⟩)
theorem t_isAhead {σ : Sto} {t : TKn} {P : Int32 → Sto → Prop} (h : TKM σ t) (hw : tokW t) (k1 : isKw t 9 → P 1 σ) (k0 : ¬ isKw t 9 → P 0 σ) : w_X12_isAhead σ P := by
  unfold w_X12_isAhead
  exact t_word (p := 97) (q := 104) (r := 101) (s := 97) (t' := 100) (u := 0) (k := 9) h hw (by decide) (by decide) (by decide) (by decide) (by unfold okL; omega) (by unfold okL; omega) (by unfold okL; omega) (by unfold okL; omega) (fun q => ⟨Or.inr rfl, k1 q⟩) (fun q => ⟨Or.inl rfl, k0 q⟩)
theorem t_isLaw {σ : Sto} {t : TKn} {P : Int32 → Sto → Prop} (h : TKM σ t) (hw : tokW t) (k1 : isKw t 10 → P 1 σ) (k0 : ¬ isKw t 10 → P 0 σ) : w_X12_isLaw σ P := by
  unfold w_X12_isLaw
  exact t_word (p := 108) (q := 97) (r := 119) (s := 0) (t' := 0) (u := 0) (k := 10) h hw (by decide) (by decide) (by decide) (by decide) (by unfold okL; omega) (by unfold okL; omega) (by unfold okL; omega) (by unfold okL; omega) (fun q => ⟨Or.inr rfl, k1 q⟩) (fun q => ⟨Or.inl rfl, k0 q⟩)
theorem t_isEnd {σ : Sto} {t : TKn} {P : Int32 → Sto → Prop} (h : TKM σ t) (hw : tokW t) (k1 : isKw t 21 → P 1 σ) (k0 : ¬ isKw t 21 → P 0 σ) : w_X12_isEnd σ P := by
  unfold w_X12_isEnd
  exact t_word (p := 101) (q := 110) (r := 100) (s := 0) (t' := 0) (u := 0) (k := 21) h hw (by decide) (by decide) (by decide) (by decide) (by unfold okL; omega) (by unfold okL; omega) (by unfold okL; omega) (by unfold okL; omega) (fun q => ⟨Or.inr rfl, k1 q⟩) (fun q => ⟨Or.inl rfl, k0 q⟩)
/-- which step a word begins, from 1; 0: none -/
def stpF (t : TKn) : Nat := if t.1 = 1 ∧ t.2.2.2.2 ≤ 8 ∧ kwF t.2.2.2.1 = 12 then 1 else if t.1 = 1 ∧ t.2.2.2.2 ≤ 8 ∧ kwF t.2.2.2.1 = 13 then 2 else if t.1 = 1 ∧ t.2.2.2.2 ≤ 8 ∧ kwF t.2.2.2.1 = 14 then 3 else if t.1 = 1 ∧ t.2.2.2.2 ≤ 8 ∧ kwF t.2.2.2.1 = 15 then 4 else if t.1 = 1 ∧ t.2.2.2.2 ≤ 8 ∧ kwF t.2.2.2.1 = 16 then 5 else if t.1 = 1 ∧ t.2.2.2.2 ≤ 8 ∧ kwF t.2.2.2.1 = 17 then 6 else if t.1 = 1 ∧ t.2.2.2.2 ≤ 8 ∧ kwF t.2.2.2.1 = 21 then 7 else if t.1 = 1 ∧ t.2.2.2.2 ≤ 8 ∧ kwF t.2.2.2.1 = 23 then 8 else 0
theorem t_stepWord {σ : Sto} {t : TKn} {P : Int32 → Sto → Prop} (h : TKM σ t) (hw : tokW t) (k1 : stpF t ≠ 0 → P (nI (stpF t - 1)) σ) (k0 : stpF t = 0 → P (-1) σ) : w_X12_stepWord σ P := by
  unfold w_X12_stepWord
  unfold stpF at k1 k0
  refine t_word (p := 121) (q := 101) (r := 97) (s := 114) (t' := 0) (u := 0) (k := 11) h hw (by decide) (by decide) (by decide) (by decide) (by unfold okL; omega) (by unfold okL; omega) (by unfold okL; omega) (by unfold okL; omega) (fun q => ?_) (fun q => ?_)
  · unfold isKw at q
    rw [if_pos q] at k1
    rw [if_neg (show ¬ (1 : Int32) = 0 by decide)]
    exact k1 (by decide)
  unfold isKw at q
  rw [if_neg q] at k1 k0
  rw [if_pos rfl]
  refine t_word (p := 117) (q := 110) (r := 109) (s := 97) (t' := 107) (u := 101) (k := 12) h hw (by decide) (by decide) (by decide) (by decide) (by unfold okL; omega) (by unfold okL; omega) (by unfold okL; omega) (by unfold okL; omega) (fun q => ?_) (fun q => ?_)
  · unfold isKw at q
    rw [if_pos q] at k1
    rw [if_neg (show ¬ (1 : Int32) = 0 by decide)]
    exact k1 (by decide)
  unfold isKw at q
  rw [if_neg q] at k1 k0
  rw [if_pos rfl]
  refine t_word (p := 114) (q := 101) (r := 109) (s := 97) (t' := 107) (u := 101) (k := 13) h hw (by decide) (by decide) (by decide) (by decide) (by unfold okL; omega) (by unfold okL; omega) (by unfold okL; omega) (by unfold okL; omega) (fun q => ?_) (fun q => ?_)
  · unfold isKw at q
    rw [if_pos q] at k1
    rw [if_neg (show ¬ (1 : Int32) = 0 by decide)]
    exact k1 (by decide)
  unfold isKw at q
  rw [if_neg q] at k1 k0
  rw [if_pos rfl]
  refine t_word (p := 115) (q := 112) (r := 97) (s := 114) (t' := 101) (u := 0) (k := 14) h hw (by decide) (by decide) (by decide) (by decide) (by unfold okL; omega) (by unfold okL; omega) (by unfold okL; omega) (by unfold okL; omega) (fun q => ?_) (fun q => ?_)
  · unfold isKw at q
    rw [if_pos q] at k1
    rw [if_neg (show ¬ (1 : Int32) = 0 by decide)]
    exact k1 (by decide)
  unfold isKw at q
  rw [if_neg q] at k1 k0
  rw [if_pos rfl]
  refine t_word (p := 106) (q := 111) (r := 107) (s := 101) (t' := 0) (u := 0) (k := 15) h hw (by decide) (by decide) (by decide) (by decide) (by unfold okL; omega) (by unfold okL; omega) (by unfold okL; omega) (by unfold okL; omega) (fun q => ?_) (fun q => ?_)
  · unfold isKw at q
    rw [if_pos q] at k1
    rw [if_neg (show ¬ (1 : Int32) = 0 by decide)]
    exact k1 (by decide)
  unfold isKw at q
  rw [if_neg q] at k1 k0
  rw [if_pos rfl]
  refine t_word (p := 119) (q := 104) (r := 101) (s := 110) (t' := 0) (u := 0) (k := 16) h hw (by decide) (by decide) (by decide) (by decide) (by unfold okL; omega) (by unfold okL; omega) (by unfold okL; omega) (by unfold okL; omega) (fun q => ?_) (fun q => ?_)
  · unfold isKw at q
    rw [if_pos q] at k1
    rw [if_neg (show ¬ (1 : Int32) = 0 by decide)]
    exact k1 (by decide)
  unfold isKw at q
  rw [if_neg q] at k1 k0
  rw [if_pos rfl]
  refine t_word (p := 108) (q := 111) (r := 111) (s := 112) (t' := 0) (u := 0) (k := 20) h hw (by decide) (by decide) (by decide) (by decide) (by unfold okL; omega) (by unfold okL; omega) (by unfold okL; omega) (by unfold okL; omega) (fun q => ?_) (fun q => ?_)
  · unfold isKw at q
    rw [if_pos q] at k1
    rw [if_neg (show ¬ (1 : Int32) = 0 by decide)]
    exact k1 (by decide)
  unfold isKw at q
  rw [if_neg q] at k1 k0
  rw [if_pos rfl]
  refine t_word (p := 115) (q := 116) (r := 111) (s := 112) (t' := 0) (u := 0) (k := 22) h hw (by decide) (by decide) (by decide) (by decide) (by unfold okL; omega) (by unfold okL; omega) (by unfold okL; omega) (by unfold okL; omega) (fun q => ?_) (fun q => ?_)
  · unfold isKw at q
    rw [if_pos q] at k1
    rw [if_neg (show ¬ (1 : Int32) = 0 by decide)]
    exact k1 (by decide)
  unfold isKw at q
  rw [if_neg q] at k1 k0
  rw [if_pos rfl]
  exact k0 rfl
def tstF (t : TKn) : Nat := if t.1 = 1 ∧ t.2.2.2.2 ≤ 8 ∧ kwF t.2.2.2.1 = 18 then 1 else if t.1 = 1 ∧ t.2.2.2.2 ≤ 8 ∧ kwF t.2.2.2.1 = 19 then 2 else if t.1 = 1 ∧ t.2.2.2.2 ≤ 8 ∧ kwF t.2.2.2.1 = 20 then 3 else 0
theorem t_testWord {σ : Sto} {t : TKn} {P : Int32 → Sto → Prop} (h : TKM σ t) (hw : tokW t) (k1 : tstF t ≠ 0 → P (nI (tstF t - 1)) σ) (k0 : tstF t = 0 → P (-1) σ) : w_X12_testWord σ P := by
  unfold w_X12_testWord
  unfold tstF at k1 k0
  refine t_word (p := 115) (q := 116) (r := 97) (s := 110) (t' := 100) (u := 115) (k := 17) h hw (by decide) (by decide) (by decide) (by decide) (by unfold okL; omega) (by unfold okL; omega) (by unfold okL; omega) (by unfold okL; omega) (fun q => ?_) (fun q => ?_)
  · unfold isKw at q
    rw [if_pos q] at k1
    rw [if_neg (show ¬ (1 : Int32) = 0 by decide)]
    exact k1 (by decide)
  unfold isKw at q
  rw [if_neg q] at k1 k0
  rw [if_pos rfl]
  refine t_word (p := 100) (q := 111) (r := 110) (s := 101) (t' := 0) (u := 0) (k := 18) h hw (by decide) (by decide) (by decide) (by decide) (by unfold okL; omega) (by unfold okL; omega) (by unfold okL; omega) (by unfold okL; omega) (fun q => ?_) (fun q => ?_)
  · unfold isKw at q
    rw [if_pos q] at k1
    rw [if_neg (show ¬ (1 : Int32) = 0 by decide)]
    exact k1 (by decide)
  unfold isKw at q
  rw [if_neg q] at k1 k0
  rw [if_pos rfl]
  refine t_word (p := 118) (q := 111) (r := 116) (s := 101) (t' := 115) (u := 0) (k := 19) h hw (by decide) (by decide) (by decide) (by decide) (by unfold okL; omega) (by unfold okL; omega) (by unfold okL; omega) (by unfold okL; omega) (fun q => ?_) (fun q => ?_)
  · unfold isKw at q
    rw [if_pos q] at k1
    rw [if_neg (show ¬ (1 : Int32) = 0 by decide)]
    exact k1 (by decide)
  unfold isKw at q
  rw [if_neg q] at k1 k0
  rw [if_pos rfl]
  exact k0 rfl
theorem stpF_0 {t : TKn} (h : stpF t = 0) {i : Nat} (hi : i = 12 ∨ i = 13 ∨ i = 14 ∨ i = 15 ∨ i = 16 ∨ i = 17 ∨ i = 21 ∨ i = 23) : ¬ (t.1 = 1 ∧ t.2.2.2.2 ≤ 8 ∧ kwF t.2.2.2.1 = i) := by
  unfold stpF at h
  intro q
  obtain ⟨q1, q2, q3⟩ := q
  rcases hi with hi | hi | hi | hi | hi | hi | hi | hi <;> (subst hi; simp [q1, q2, q3] at h)
theorem stpF_kw {t : TKn} (h : stpF t ≠ 0) : t.1 = 1 ∧ t.2.2.2.2 ≤ 8 ∧ kwF t.2.2.2.1 ≠ 0 := by
  unfold stpF at h
  repeat (split at h; · (rename_i q; exact ⟨q.1, q.2.1, by omega⟩))
  exact absurd rfl h
theorem tstF_0 {t : TKn} (h : tstF t = 0) {i : Nat} (hi : i = 18 ∨ i = 19 ∨ i = 20) : ¬ (t.1 = 1 ∧ t.2.2.2.2 ≤ 8 ∧ kwF t.2.2.2.1 = i) := by
  unfold tstF at h
  intro q
  obtain ⟨q1, q2, q3⟩ := q
  rcases hi with hi | hi | hi <;> (subst hi; simp [q1, q2, q3] at h)
theorem tstF_kw {t : TKn} (h : tstF t ≠ 0) : t.1 = 1 ∧ t.2.2.2.2 ≤ 8 ∧ kwF t.2.2.2.1 ≠ 0 := by
  unfold tstF at h
  repeat (split at h; · (rename_i q; exact ⟨q.1, q.2.1, by omega⟩))
  exact absurd rfl h
