/-! ===== promises 29 to 34: what falls ===== -/
theorem ifD_pos {α : Type} {t N : Nat} (ht : t < N) (hN : N < 2147483648) {a b : α} : (if ¬ nI t < 0 ∧ nI t < nI N then a else b) = a := if_pos ⟨jI_neg (by omega), (jI_lt (by omega) hN).mpr ht⟩
theorem ifD_neg {α : Type} {x : Int32} {N : Nat} (h : ¬ inD x N) (hN : N < 2147483648) {a b : α} : (if ¬ x < 0 ∧ x < nI N then a else b) = b := if_neg (fun q => h ((inD_iff hN).mpr q))
/-- places of the model that questions may write -/
def SM (a k : Nat) : Prop := (a = 101 ∧ (k = 0 ∨ k = 1 ∨ k = 32 ∨ k = 33)) ∨ a = 109 ∨ a = 110 ∨ a = 112 ∨ a = 114 ∨ a = 115 ∨ a = 116 ∨ (a = 117 ∧ 1 ≤ k)
theorem MR.sm {σ τ : Sto} {c : Nat → Nat} (h : MR σ c) (e : Eo SM σ τ) : MR τ c := h.eo e (fun k q => by unfold SM at q; omega)
theorem sm0 {σ : Sto} {v : Int32} : Eo SM σ (si σ 101 0 v) := Eo.si (Or.inl ⟨rfl, Or.inl rfl⟩)
theorem sm1 {σ : Sto} {v : Int32} : Eo SM σ (si σ 101 1 v) := Eo.si (Or.inl ⟨rfl, Or.inr (Or.inl rfl)⟩)
theorem sm10 {σ : Sto} {v w : Int32} : Eo SM σ (si (si σ 101 1 v) 101 0 w) := sm1.tr sm0
theorem S109m {a k : Nat} (h : S109 a k) : SM a k := by
  rcases h with h | h
  · exact Or.inr (Or.inl h)
  · exact Or.inr (Or.inr (Or.inl h))
theorem t_fallsWith {σ : Sto} {c : Nat → Nat} {P : Int32 → Sto → Prop} (h : MR σ c) (ok : OK c) {t : Nat} (ht : t < c 0) (k : P (nI (fallF c t)) σ) : w_X12_fallsWith (nI t) σ P := by
  have := ok.n0
  unfold w_X12_fallsWith
  refine t_now h ok ?_
  rw [h 6 (by decide), jI_31 (by omega), show (1 : Int32) = nI 1 from rfl, jI_shl (by omega), Nat.one_shiftLeft, jI_or]
  refine t_standing h ok ?_
  rw [jI_andn]
  exact k
def fallsA (c : Nat → Nat) (x : Int32) : Int32 × Int32 := if ¬ x < 0 ∧ x < nI (c 0) then (if (nowF c).testBit (tn x) then (nI (fallF c (tn x)), 0) else (-1, 9)) else (-1, 2)
def lossA (c : Nat → Nat) (x : Int32) : Int32 × Int32 := if ¬ x < 0 ∧ x < nI (c 0) then (if (nowF c).testBit (tn x) then (nI (worthF c (fallF c (tn x))), 0) else (-1, 9)) else (-1, 2)
theorem t_upright {σ : Sto} {c : Nat → Nat} {P : Int32 → Sto → Prop} {N : Nat} (h : KW N σ c) (ok : OK c) (hN : N ≤ 2000) {x : Int32} (k2 : ¬ inD x (c 0) → P 2 σ)
    (k : ∀ t τ, t < c 0 → x = nI t → Eo S89 σ τ → KW N τ c → P (if (nowF c).testBit t then 0 else 9) τ) : w_X11_uprightFault x σ P := by
  have := ok.n0
  unfold w_X11_uprightFault
  refine t_noThing h ok (fun hx => ?_) (fun hx => ?_)
  · rw [if_pos rfl]
    obtain ⟨t, ht, rfl⟩ := hx
    refine t_atPresent h.kb.1 ok hN (fun τ e1 h1 => ?_)
    have hk := k t τ ht rfl e1 (h.e89 e1 h1)
    unfold w_X11_isOneOf
    simp (disch := omega) only [N0, N1, N2, N3, N4, N5, N6, N7, N8, N9, N10, N11, N12, N13, N14, N15, N16, N17, N18, N19, N20, N21, N22, N23, N24, N25, N26, N27, N28, N29, N30, N32, N33, N34, N35, N36, N37, N38, N39, N40, N41, N42, N43, N44, N45, N46, N47, N48, N49, N50, N51, N52, N53, N54, N55, N56, N57, N58, N59, N60, N61, N62, N63, N64, N90, N96, N97, N98, N99, N100, N102, N103, N104, N107, N108, N109, N110, N111, N112, N114, N115, N116, N117, N118, N119, N120, N121, N122, N130, N138, N141, N142, N143, N144, N156, N240, N255, N256, N300, N400, N420, N421, N600, N900, N999, N1000, N1684, N2104, N2105, N2971, N4095, N4096, N9999, N10000, N10663, N65536, jI_add, jI_mul, jI_and, jI_or, jI_xor, jI_andn, jI_31, jI_shl, Nat.one_shiftLeft, jI_le, jI_lt, jI_eq, tn_nI, tc_nI, vp_nI, jI_allF, jI_bit, jI_bit0, jI_noneN, bI_N0, bI_N1, forall_eq, true_and, ↓reduceIte]
    cases hb : (nowF c).testBit t <;> simp only [hb, Bool.false_eq_true, Bool.true_eq_false, ↓reduceIte] at hk ⊢
    · exact hk
    · exact hk
  · rw [if_neg (by decide)]
    exact k2 hx
theorem c_falls {σ : Sto} {c : Nat → Nat} {P : Int32 → Sto → Prop} {N : Nat} (h : KW N σ c) (ok : OK c) (hN : N ≤ 2000) {x : Int32} (k : ∀ τ, Eo SQ σ τ → KW N τ c → gi τ 1 15 = (fallsA c x).2 → P (fallsA c x).1 τ) : w_X11_falls x σ P := by
  have := ok.n0
  unfold w_X11_falls
  refine t_upright h ok hN (fun hx => ?_) (fun t τ ht hxt e hw => ?_)
  · have e1 : fallsA c x = (-1, 2) := ifD_neg hx (by omega)
    rw [e1] at k
    rw [if_neg (by decide)]
    exact k _ stq h.st gi_si_s
  · subst hxt
    have e1 : fallsA c (nI t) = if (nowF c).testBit t then (nI (fallF c t), 0) else (-1, 9) := by
      unfold fallsA
      rw [ifD_pos ht (by omega), tn_nI (by omega)]
    rw [e1] at k
    cases hb : (nowF c).testBit t <;> simp only [hb, Bool.false_eq_true, Bool.true_eq_false, ↓reduceIte] at k ⊢
    · rw [if_neg (by decide)]
      exact k _ ((e.mo (fun _ _ => S89q)).tr stq) hw.st gi_si_s
    · refine t_fallingWith hw.kb.1 ok hN ht (fun υ e2 h2 => ?_)
      exact k _ (((e.tr e2).mo (fun _ _ => S89q)).tr stq) (hw.e89 e2 h2).st gi_si_s
theorem c_loss {σ : Sto} {c : Nat → Nat} {P : Int32 → Sto → Prop} {N : Nat} (h : KW N σ c) (ok : OK c) (hN : N ≤ 2000) {x : Int32} (k : ∀ τ, Eo SQ σ τ → KW N τ c → gi τ 1 15 = (lossA c x).2 → P (lossA c x).1 τ) : w_X11_loss x σ P := by
  have := ok.n0
  unfold w_X11_loss
  refine t_upright h ok hN (fun hx => ?_) (fun t τ ht hxt e hw => ?_)
  · have e1 : lossA c x = (-1, 2) := ifD_neg hx (by omega)
    rw [e1] at k
    rw [if_neg (by decide)]
    exact k _ stq h.st gi_si_s
  · subst hxt
    have e1 : lossA c (nI t) = if (nowF c).testBit t then (nI (worthF c (fallF c t)), 0) else (-1, 9) := by
      unfold lossA
      rw [ifD_pos ht (by omega), tn_nI (by omega)]
    rw [e1] at k
    cases hb : (nowF c).testBit t <;> simp only [hb, Bool.false_eq_true, Bool.true_eq_false, ↓reduceIte] at k ⊢
    · rw [if_neg (by decide)]
      exact k _ ((e.mo (fun _ _ => S89q)).tr stq) hw.st gi_si_s
    · refine ⟨hw.1, t_fallingWith hw.kb.1 ok hN ht (fun υ e2 h2 => ?_)⟩
      have hw2 := hw.e89 e2 h2
      have hg : gr τ 1 11 = gr υ 1 11 := (e2.2.2 1 11).symm
      rw [hg]
      refine t_worthOfC hw2.1 hw2.cr ok ?_
      exact k _ (((e.tr e2).mo (fun _ _ => S89q)).tr stq) hw2.st gi_si_s
theorem t_why {σ : Sto} {c : Nat → Nat} {P : Int32 → Sto → Prop} (h : MR σ c) (ok : OK c) {x : Int32} (k2 : ¬ inD x (c 0) → P 2 σ) (k : ∀ t, t < c 0 → x = nI t → P (if (nowF c).testBit t then 0 else 9) σ) : w_X12_whyNoFall x σ P := by
  have := ok.n0
  unfold w_X12_whyNoFall
  refine t_isThingAt h ok (fun hx => ?_) (fun hx => ?_)
  · rw [if_neg (by decide)]
    obtain ⟨t, ht, rfl⟩ := hx
    refine t_now h ok ?_
    have hk := k t ht rfl
    rw [t_has (by omega)]
    cases hb : (nowF c).testBit t <;> simp only [hb, bI, Bool.false_eq_true, Bool.true_eq_false, ↓reduceIte] at hk ⊢
    · exact hk
    · rw [if_neg (by decide)]; exact hk
  · rw [if_pos rfl]
    exact k2 hx
theorem m_falls {σ : Sto} {c : Nat → Nat} {P : Int32 → Sto → Prop} (h : MR σ c) (ok : OK c) {x : Int32} (k : ∀ τ, Eo SM σ τ → gi τ 101 0 = (fallsA c x).2 → P (fallsA c x).1 τ) : w_X12_falls x σ P := by
  have := ok.n0
  unfold w_X12_falls
  refine t_why (h.sm sm1) ok (fun hx => ?_) (fun t ht hxt => ?_)
  · have e1 : fallsA c x = (-1, 2) := ifD_neg hx (by omega)
    rw [e1] at k
    rintro σ3 rfl
    rw [gi_si_s, if_neg (by decide)]
    exact k _ sm10 gi_si_s
  · subst hxt
    have e1 : fallsA c (nI t) = if (nowF c).testBit t then (nI (fallF c t), 0) else (-1, 9) := by
      unfold fallsA
      rw [ifD_pos ht (by omega), tn_nI (by omega)]
    rw [e1] at k
    rintro σ3 rfl
    rw [gi_si_s]
    cases hb : (nowF c).testBit t <;> simp only [hb, Bool.false_eq_true, Bool.true_eq_false, ↓reduceIte] at k ⊢
    · rw [if_neg (by decide)]
      exact k _ sm10 gi_si_s
    · rw [if_pos (by decide)]
      refine t_fallsWith (h.sm sm10) ok ht ?_
      exact k _ sm10 gi_si_s
theorem m_loss {σ : Sto} {c : Nat → Nat} {P : Int32 → Sto → Prop} (h : MR σ c) (ok : OK c) {x : Int32} (k : ∀ τ, Eo SM σ τ → gi τ 101 0 = (lossA c x).2 → P (lossA c x).1 τ) : w_X12_loss x σ P := by
  have := ok.n0
  unfold w_X12_loss
  refine t_why (h.sm sm1) ok (fun hx => ?_) (fun t ht hxt => ?_)
  · have e1 : lossA c x = (-1, 2) := ifD_neg hx (by omega)
    rw [e1] at k
    rintro σ3 rfl
    rw [gi_si_s, if_neg (by decide)]
    exact k _ sm10 gi_si_s
  · subst hxt
    have e1 : lossA c (nI t) = if (nowF c).testBit t then (nI (worthF c (fallF c t)), 0) else (-1, 9) := by
      unfold lossA
      rw [ifD_pos ht (by omega), tn_nI (by omega)]
    rw [e1] at k
    rintro σ3 rfl
    rw [gi_si_s]
    cases hb : (nowF c).testBit t <;> simp only [hb, Bool.false_eq_true, Bool.true_eq_false, ↓reduceIte] at k ⊢
    · rw [if_neg (by decide)]
      exact k _ sm10 gi_si_s
    · rw [if_pos (by decide)]
      refine t_fallsWith (h.sm sm10) ok ht ?_
      refine t_worthOf (h.sm sm10) ok ?_
      exact k _ sm10 gi_si_s
