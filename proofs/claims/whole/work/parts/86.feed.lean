/-! ===== promise 9: the tape ===== -/
def s8 (n : Nat) : Int32 := (Int8.ofNat n).toInt32
theorem s8_of (z : Int8) : ∃ n, n < 256 ∧ z.toInt32 = s8 n := by
  refine ⟨z.toBitVec.toNat, z.toBitVec.isLt, ?_⟩
  unfold s8
  congr 1
  apply Int8.toBitVec_inj.mp
  show z.toBitVec = BitVec.ofNat 8 z.toBitVec.toNat
  rw [BitVec.ofNat_toNat, BitVec.setWidth_eq]
/-- the byte of an int at a place, as a number below 256 -/
theorem byF_in (x : Int32) (s : Nat) : ∃ n, n < 256 ∧ vp_nar .byte ((x >>> nI s).toInt8.toInt32) = s8 n := s8_of ((x >>> nI s).toInt8.toInt32).toInt8
noncomputable def byF (x : Int32) (s : Nat) : Nat := Classical.choose (byF_in x s)
theorem byF_lt {x : Int32} {s : Nat} : byF x s < 256 := (Classical.choose_spec (byF_in x s)).1
theorem byF_eq {x : Int32} {s : Nat} : vp_nar .byte ((x >>> nI s).toInt8.toInt32) = s8 (byF x s) := (Classical.choose_spec (byF_in x s)).2
/-- so many bytes on the tape -/
def PC (σ : Sto) (n : Nat) (b : Nat → Nat) : Prop := gi σ 10 2 = nI n ∧ n ≤ 900 ∧ ∀ k, k < n → gi σ 11 k = s8 (b k) ∧ b k < 256
def PM (σ : Sto) (n : Nat) (b : Nat → Nat) : Prop := gi σ 101 8 = nI n ∧ n ≤ 900 ∧ ∀ k, k < n → gi σ 105 k = s8 (b k) ∧ b k < 256
noncomputable def apB (b : Nat → Nat) (n : Nat) (x : Int32) : Nat → Nat := fun k => if n ≤ k then byF x (24 - 8 * (k - n)) else b k
def ST9 (a k : Nat) : Prop := a = 11 ∨ (a = 10 ∧ k = 2)
def SM9 (a k : Nat) : Prop := a = 105 ∨ (a = 101 ∧ (k = 8 ∨ k = 1))
theorem sh24 {s : Nat} (h : s < 32) : nI s &&& 31 = nI s := jI_31 h
theorem c_add {σ : Sto} {P : Sto → Prop} {n : Nat} {b : Nat → Nat} {x : Int32} (h : PC σ n b) (hn : n + 4 ≤ 900) (k : ∀ τ, Eo ST9 σ τ → PC τ (n + 4) (apB b n x) → P τ) : w_X9_add x σ P := by
  unfold w_X9_add
  refine Lp_for 4 (fun j q => q.1 = (if j = 4 then -8 else nI (24 - 8 * j)) ∧ Eo ST9 σ q.2 ∧ gi q.2 10 2 = nI (n + j) ∧ ∀ i, i < n + j → gi q.2 11 i = s8 (apB b n x i)) ⟨rfl, Eo.rf, h.1, fun i hi => ?_⟩ ?_ ?_
  · dsimp only
    unfold apB
    rw [if_neg (by omega)]
    exact (h.2.2 i (by omega)).1
  · rintro j hj K ⟨x2, τ⟩ ⟨r2, e, hl, hb⟩ hK
    dsimp only at r2 e hl hb hK ⊢
    rw [if_neg (by omega)] at r2
    subst r2
    unfold w_X9_add_3
    rw [if_neg (jI_neg (by omega)), hl, if_neg (by rw [N900, jI_le (by omega) (by omega)]; omega), tn_nI (by omega), jI_31 (by omega), byF_eq]
    refine ⟨vp_nI (by omega) (by decide), ?_⟩
    rintro σ4 rfl
    rw [gi_si_a (by decide), hl, N1, jI_add]
    rintro y rfl
    refine hK _ ⟨?_, (e.tr (Eo.si (Or.inl rfl))).tr (Eo.si (Or.inr ⟨rfl, rfl⟩)), gi_si_s, fun i hi => ?_⟩
    · dsimp only
      match j, hj with
      | 0, _ => decide
      | 1, _ => decide
      | 2, _ => decide
      | 3, _ => decide
    · dsimp only
      rw [gi_si_a (by decide)]
      by_cases hij : i = n + j
      · subst hij
        rw [gi_si_s]
        unfold apB
        rw [if_pos (by omega), show n + j - n = j by omega]
      · rw [gi_si_k hij]
        exact hb i (by omega)
  · rintro K ⟨x2, τ⟩ ⟨r2, e, hl, hb⟩
    dsimp only at r2 e hl hb ⊢
    rw [if_pos rfl] at r2
    subst r2
    unfold w_X9_add_3
    rw [if_pos (by decide)]
    refine k τ e ⟨hl, by omega, fun i hi => ⟨hb i hi, ?_⟩⟩
    unfold apB
    split
    · exact byF_lt
    · exact (h.2.2 i (by omega)).2
theorem m_lay {σ : Sto} {P : Sto → Prop} {n : Nat} {b : Nat → Nat} {x : Int32} (h : PM σ n b) (hn : n + 4 ≤ 900) (k : ∀ τ, Eo SM9 σ τ → PM τ (n + 4) (apB b n x) → P τ) : w_X12_lay x σ P := by
  unfold w_X12_lay
  refine Lp_for 4 (fun j q => q.1 = (if j = 4 then -1 else nI (3 - j)) ∧ Eo SM9 σ q.2 ∧ gi q.2 101 8 = nI (n + j) ∧ ∀ i, i < n + j → gi q.2 105 i = s8 (apB b n x i)) ⟨rfl, Eo.rf, h.1, fun i hi => ?_⟩ ?_ ?_
  · dsimp only
    unfold apB
    rw [if_neg (by omega)]
    exact (h.2.2 i (by omega)).1
  · rintro j hj K ⟨x2, τ⟩ ⟨r2, e, hl, hb⟩ hK
    dsimp only at r2 e hl hb hK ⊢
    rw [if_neg (by omega)] at r2
    subst r2
    unfold w_X12_lay_2
    rw [if_neg (jI_neg (by omega)), hl, tn_nI (by omega), N8, jI_mul, jI_31 (by omega), byF_eq]
    refine ⟨vp_nI (by omega) (by decide), ?_⟩
    rintro σ4 rfl
    rw [gi_si_a (by decide), hl, N1, jI_add]
    rintro y rfl
    refine hK _ ⟨?_, (e.tr (Eo.si (Or.inl rfl))).tr (Eo.si (Or.inr ⟨rfl, Or.inl rfl⟩)), gi_si_s, fun i hi => ?_⟩
    · dsimp only
      match j, hj with
      | 0, _ => decide
      | 1, _ => decide
      | 2, _ => decide
      | 3, _ => decide
    · dsimp only
      rw [gi_si_a (by decide)]
      by_cases hij : i = n + j
      · subst hij
        rw [gi_si_s]
        unfold apB
        rw [if_pos (by omega), show 8 * (3 - j) = 24 - 8 * (n + j - n) by omega]
      · rw [gi_si_k hij]
        exact hb i (by omega)
  · rintro K ⟨x2, τ⟩ ⟨r2, e, hl, hb⟩
    dsimp only at r2 e hl hb ⊢
    rw [if_pos rfl] at r2
    subst r2
    unfold w_X12_lay_2
    rw [if_pos (by decide)]
    refine k τ e ⟨hl, by omega, fun i hi => ⟨hb i hi, ?_⟩⟩
    unfold apB
    split
    · exact byF_lt
    · exact (h.2.2 i (by omega)).2
noncomputable def ap5 (b : Nat → Nat) (n : Nat) (p q r s t : Int32) : Nat → Nat := apB (apB (apB (apB (apB b n p) (n + 4) q) (n + 8) r) (n + 12) s) (n + 16) t
noncomputable def feedA (n : Nat) (b : Nat → Nat) (p q r s t : Int32) : Int32 × Nat × (Nat → Nat) := if n + 20 ≤ 900 then (nI (n + 20), n + 20, ap5 b n p q r s t) else (-1, n, b)
theorem c_feed {σ : Sto} {P : Int32 → Sto → Prop} {n : Nat} {b : Nat → Nat} {p q r s t : Int32} (h : PC σ n b) (k : ∀ τ, Eo ST9 σ τ → PC τ (feedA n b p q r s t).2.1 (feedA n b p q r s t).2.2 → P (feedA n b p q r s t).1 τ) : w_X11_feed p q r s t σ P := by
  have hn := h.2.1
  unfold feedA at k
  unfold w_X11_feed w_X9_hasRoom
  rw [h.1, N20, jI_add, N900]
  by_cases hl : n + 20 ≤ 900
  · rw [if_pos hl] at k
    rw [if_neg (by rw [jI_lt (by omega) (by omega)]; omega)]
    dsimp only
    rw [if_neg (show ¬ (1 : Int32) = 0 by decide)]
    refine c_add h (by omega) (fun τ1 e1 h1 => ?_)
    refine c_add h1 (by omega) (fun τ2 e2 h2 => ?_)
    refine c_add h2 (by omega) (fun τ3 e3 h3 => ?_)
    refine c_add h3 (by omega) (fun τ4 e4 h4 => ?_)
    refine c_add h4 (by omega) (fun τ5 e5 h5 => ?_)
    rw [h5.1]
    exact k τ5 ((((e1.tr e2).tr e3).tr e4).tr e5) h5
  · rw [if_neg hl] at k
    rw [if_pos (by rw [jI_lt (by omega) (by omega)]; omega)]
    dsimp only
    rw [if_pos (show (0 : Int32) = 0 from rfl)]
    exact k σ Eo.rf h
theorem m_feed {σ : Sto} {P : Int32 → Sto → Prop} {n : Nat} {b : Nat → Nat} {p q r s t : Int32} (h : PM σ n b) (k : ∀ τ, Eo SM9 σ τ → PM τ (feedA n b p q r s t).2.1 (feedA n b p q r s t).2.2 → P (feedA n b p q r s t).1 τ) : w_X12_feed p q r s t σ P := by
  have hn := h.2.1
  have h0 : PM (si σ 101 1 0) n b := ⟨by rw [gi_si_k (by decide)]; exact h.1, hn, fun k hk => by rw [gi_si_a (by decide)]; exact h.2.2 k hk⟩
  have e0 : Eo SM9 σ (si σ 101 1 0) := Eo.si (Or.inr ⟨rfl, Or.inr rfl⟩)
  unfold feedA at k
  unfold w_X12_feed
  rintro σ1 rfl
  rw [h0.1, N20, jI_add, N900]
  by_cases hl : n + 20 ≤ 900
  · rw [if_pos hl] at k
    rw [if_pos ((jI_le (by omega) (by omega)).mpr hl)]
    refine m_lay h0 (by omega) (fun τ1 e1 h1 => ?_)
    refine m_lay h1 (by omega) (fun τ2 e2 h2 => ?_)
    refine m_lay h2 (by omega) (fun τ3 e3 h3 => ?_)
    refine m_lay h3 (by omega) (fun τ4 e4 h4 => ?_)
    refine m_lay h4 (by omega) (fun τ5 e5 h5 => ?_)
    rw [h5.1]
    exact k τ5 (e0.tr ((((e1.tr e2).tr e3).tr e4).tr e5)) h5
  · rw [if_neg hl] at k
    rw [if_neg (fun z => hl ((jI_le (by omega) (by omega)).mp z))]
    exact k _ e0 h0
