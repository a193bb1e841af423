/-! ===== what is asked from outside: arguments, answers, STATUS ===== -/
def inD (x : Int32) (N : Nat) : Prop := ∃ n, n < N ∧ x = nI n
theorem inD_iff {x : Int32} {N : Nat} (hN : N < 2147483648) : inD x N ↔ ¬ x < 0 ∧ x < nI N := by
  constructor
  · rintro ⟨n, hn, rfl⟩
    exact ⟨jI_neg (by omega), (jI_lt (by omega) hN).mpr hn⟩
  · rintro ⟨h1, h2⟩
    have h3 : (0 : Int32).toInt = 0 := by decide
    rw [Int32.lt_iff_toInt_lt, h3] at h1
    rw [Int32.lt_iff_toInt_lt, jI_toInt hN] at h2
    refine ⟨x.toInt.toNat, by omega, ?_⟩
    apply Int32.toInt_inj.mp
    rw [jI_toInt (by omega)]
    omega
theorem lg_lt {x y : Int64} : lg_cmp x y < 0 ↔ x < y := lg_cmp_lt x y
theorem lg_gt {x y : Int64} : 0 < lg_cmp x y ↔ y < x := lg_cmp_gt x y
theorem lg_eq {x y : Int64} : lg_cmp x y = 0 ↔ x = y := by
  unfold lg_cmp
  simp only [gt_iff_lt, Int64.lt_iff_toInt_lt, ← Int64.toInt_inj]
  repeat' split
  all_goals (constructor <;> intro hh <;> first | omega | decide | exact absurd hh (by decide))
theorem t_isIn {σ : Sto} {P : Int32 → Sto → Prop} {x lo hi : Int64} : w_X12_isIn x lo hi σ P = P (bI (decide (lo ≤ x ∧ x ≤ hi))) σ := by
  unfold w_X12_isIn
  by_cases h1 : x < lo
  · have : ¬ lo ≤ x := by rw [Int64.lt_iff_toInt_lt] at h1; rw [Int64.le_iff_toInt_le]; omega
    rw [if_pos (lg_lt.mpr h1)]
    simp [this, bI]
  · have h1' : lo ≤ x := by rw [Int64.lt_iff_toInt_lt] at h1; rw [Int64.le_iff_toInt_le]; omega
    rw [if_neg (fun q => h1 (lg_lt.mp q))]
    by_cases h2 : hi < x
    · have : ¬ x ≤ hi := by rw [Int64.lt_iff_toInt_lt] at h2; rw [Int64.le_iff_toInt_le]; omega
      rw [if_pos (lg_gt.mpr h2)]
      simp [this, bI]
    · have : x ≤ hi := by rw [Int64.lt_iff_toInt_lt] at h2; rw [Int64.le_iff_toInt_le]; omega
      rw [if_neg (fun q => h2 (lg_gt.mp q))]
      simp [h1', this, bI]
theorem i64_int {x : Int32} : x.toInt64.toInt = x.toInt := Int32.toInt_toInt64 x
theorem rangeI {x : Int32} {N : Nat} (hN : N < 2147483648) : ((0 : Int64) ≤ x.toInt64 ∧ x.toInt64 ≤ (nI N - 1).toInt64) ↔ inD x N := by
  have h3 : (0 : Int32).toInt = 0 := by decide
  have h4 : (0 : Int64).toInt = 0 := by decide
  have h5 : (nI N - 1).toInt = (N : Int) - 1 := by
    cases N with
    | zero => decide
    | succ n => rw [show (1 : Int32) = nI 1 from rfl, jI_sub (by omega), jI_toInt (by omega)]; omega
  rw [inD_iff hN, Int64.le_iff_toInt_le, Int64.le_iff_toInt_le, i64_int, i64_int, h4, h5, Int32.lt_iff_toInt_lt, Int32.lt_iff_toInt_lt, h3, jI_toInt hN]
  omega
theorem t_isThingAt {σ : Sto} {c : Nat → Nat} {P : Int32 → Sto → Prop} (h : MR σ c) (ok : OK c) {x : Int32} (k1 : inD x (c 0) → P 1 σ) (k0 : ¬ inD x (c 0) → P 0 σ) : w_X12_isThingAt x σ P := by
  have := ok.n0
  unfold w_X12_isThingAt
  rw [t_isIn, h 0 (by decide)]
  by_cases hx : inD x (c 0)
  · rw [decide_eq_true ((rangeI (by omega)).mpr hx)]
    exact ⟨Or.inr rfl, k1 hx⟩
  · rw [decide_eq_false (fun q => hx ((rangeI (by omega)).mp q))]
    exact ⟨Or.inl rfl, k0 hx⟩
theorem t_isWorkAt {σ : Sto} {c : Nat → Nat} {P : Int32 → Sto → Prop} (h : MR σ c) (ok : OK c) {x : Int32} (k1 : inD x (c 2) → P 1 σ) (k0 : ¬ inD x (c 2) → P 0 σ) : w_X12_isWorkAt x σ P := by
  have := ok.n2
  unfold w_X12_isWorkAt
  rw [t_isIn, h 2 (by decide)]
  by_cases hx : inD x (c 2)
  · rw [decide_eq_true ((rangeI (by omega)).mpr hx)]
    exact ⟨Or.inr rfl, k1 hx⟩
  · rw [decide_eq_false (fun q => hx ((rangeI (by omega)).mp q))]
    exact ⟨Or.inl rfl, k0 hx⟩
theorem t_isVoterAt {σ : Sto} {c : Nat → Nat} {P : Int32 → Sto → Prop} (h : MR σ c) (ok : OK c) {x : Int32} (k1 : inD x (c 3) → P 1 σ) (k0 : ¬ inD x (c 3) → P 0 σ) : w_X12_isVoterAt x σ P := by
  have := ok.n3
  unfold w_X12_isVoterAt
  rw [t_isIn, h 3 (by decide)]
  by_cases hx : inD x (c 3)
  · rw [decide_eq_true ((rangeI (by omega)).mpr hx)]
    exact ⟨Or.inr rfl, k1 hx⟩
  · rw [decide_eq_false (fun q => hx ((rangeI (by omega)).mp q))]
    exact ⟨Or.inl rfl, k0 hx⟩
/-- the class's current city, in all that asks of it -/
def KW (N : Nat) (σ : Sto) (c : Nat → Nat) : Prop :=
  isCity (gr σ 1 11) ∧ gr σ 88 1 = gr σ 1 11 ∧ gr σ 90 3 = gr σ 1 11 ∧ gr σ 93 5 = gr σ 1 11 ∧ gr σ 95 3 = gr σ 1 11 ∧ gr σ 97 4 = gr σ 1 11 ∧ KB N σ c
theorem KW.cr {N : Nat} {σ : Sto} {c : Nat → Nat} (h : KW N σ c) : CR σ (gr σ 1 11) c := by
  have := h.2.2.2.2.2.2.1.2.1
  rw [h.2.1] at this
  exact this
theorem KW.f {N : Nat} {σ : Sto} {c : Nat → Nat} (h : KW N σ c) {k : Nat} (hk : k < 8) : gi σ (gr σ 1 11) (8 + k) = nI (c k) := h.cr.1 k hk
theorem KW.kb {N : Nat} {σ : Sto} {c : Nat → Nat} (h : KW N σ c) : KB N σ c := h.2.2.2.2.2.2
theorem KW.mk {N : Nat} {S : Nat → Nat → Prop} {σ τ : Sto} {c : Nat → Nat} (h : KW N σ c) (e : Eo S σ τ) (hk : KB N τ c) : KW N τ c := by
  obtain ⟨h1, h2, h3, h4, h5, h6, -⟩ := h
  refine ⟨?_, ?_, ?_, ?_, ?_, ?_, hk⟩ <;> simp only [e.2.2] <;> assumption
/-- places of the class that questions may write: what is kept, counted; STATUS -/
def SQ (a k : Nat) : Prop := a = 89 ∨ a = 91 ∨ a = 92 ∨ a = 87 ∨ a = 96 ∨ a = 98 ∨ a = 99 ∨ (a = 1 ∧ k = 15) ∨ (a = 93 ∧ k = 6) ∨ (a = 97 ∧ k = 5)
theorem KW.st {N : Nat} {σ : Sto} {c : Nat → Nat} {v : Int32} (h : KW N σ c) : KW N (si σ 1 15 v) c := by
  have e : Eo (fun a k => a = 1 ∧ k = 15) σ (si σ 1 15 v) := Eo.si ⟨rfl, rfl⟩
  refine h.mk e ⟨h.kb.1.eo e (fun a k q => by omega), h.kb.2.eo e (fun a k q => by omega) (by decide) (fun k q => absurd q.1 (by decide))⟩
theorem KW.e89 {N : Nat} {σ τ : Sto} {c : Nat → Nat} (h : KW N σ c) (e : Eo S89 σ τ) (hs : SR N τ c) : KW N τ c := h.mk e (h.kb.e89 e hs)
theorem S89q {a k : Nat} (h : S89 a k) : SQ a k := Or.inl h
theorem S3q {a k : Nat} (h : S3 a k) : SQ a k := by
  rcases h with h | h | h
  · exact Or.inl h
  · exact Or.inr (Or.inl h)
  · exact Or.inr (Or.inr (Or.inl h))
theorem stq {σ : Sto} {v : Int32} : Eo SQ σ (si σ 1 15 v) := Eo.si (by simp [SQ])
theorem t_noThing {σ : Sto} {c : Nat → Nat} {P : Int32 → Sto → Prop} {N : Nat} (h : KW N σ c) (ok : OK c) {x : Int32} (k0 : inD x (c 0) → P 0 σ) (k1 : ¬ inD x (c 0) → P 1 σ) : w_X11_noThing x σ P := by
  have := ok.n0
  unfold w_X11_noThing
  rw [show gi σ (gr σ 1 11) 8 = nI (c 0) from h.f (k := 0) (by decide)]
  have hx := inD_iff (x := x) (N := c 0) (by omega)
  by_cases h1 : x < 0
  · rw [if_pos h1]; exact k1 (fun q => (hx.mp q).1 h1)
  · rw [if_neg h1]
    refine ⟨h.1, ?_⟩
    by_cases h2 : x < nI (c 0)
    · rw [if_pos h2]; exact k0 (hx.mpr ⟨h1, h2⟩)
    · rw [if_neg h2]; exact k1 (fun q => h2 (hx.mp q).2)
theorem t_noWork {σ : Sto} {c : Nat → Nat} {P : Int32 → Sto → Prop} {N : Nat} (h : KW N σ c) (ok : OK c) {x : Int32} (k0 : inD x (c 2) → P 0 σ) (k1 : ¬ inD x (c 2) → P 1 σ) : w_X11_noWork x σ P := by
  have := ok.n2
  unfold w_X11_noWork
  rw [show gi σ (gr σ 1 11) 10 = nI (c 2) from h.f (k := 2) (by decide)]
  have hx := inD_iff (x := x) (N := c 2) (by omega)
  by_cases h1 : x < 0
  · rw [if_pos h1]; exact k1 (fun q => (hx.mp q).1 h1)
  · rw [if_neg h1]
    refine ⟨h.1, ?_⟩
    by_cases h2 : x < nI (c 2)
    · rw [if_pos h2]; exact k0 (hx.mpr ⟨h1, h2⟩)
    · rw [if_neg h2]; exact k1 (fun q => h2 (hx.mp q).2)
theorem t_noVoter {σ : Sto} {c : Nat → Nat} {P : Int32 → Sto → Prop} {N : Nat} (h : KW N σ c) (ok : OK c) {x : Int32} (k0 : inD x (c 3) → P 0 σ) (k1 : ¬ inD x (c 3) → P 1 σ) : w_X11_noVoter x σ P := by
  have := ok.n3
  unfold w_X11_noVoter
  rw [show gi σ (gr σ 1 11) 11 = nI (c 3) from h.f (k := 3) (by decide)]
  have hx := inD_iff (x := x) (N := c 3) (by omega)
  by_cases h1 : x < 0
  · rw [if_pos h1]; exact k1 (fun q => (hx.mp q).1 h1)
  · rw [if_neg h1]
    refine ⟨h.1, ?_⟩
    by_cases h2 : x < nI (c 3)
    · rw [if_pos h2]; exact k0 (hx.mpr ⟨h1, h2⟩)
    · rw [if_neg h2]; exact k1 (fun q => h2 (hx.mp q).2)
