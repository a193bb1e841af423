/-! ===== promises 55, 56: mark, back ===== -/
theorem isCity.mk {i : Nat} (h : i < 3) : isCity (45 + 14 * i) := by
  match i, h with
  | 0, _ => exact Or.inr (Or.inr (Or.inl rfl))
  | 1, _ => exact Or.inr (Or.inr (Or.inr (Or.inl rfl)))
  | 2, _ => exact Or.inr (Or.inr (Or.inr (Or.inr rfl)))
def SMk (m a k : Nat) : Prop := (a = 1 ∧ (k = 13 ∨ k = 15)) ∨ SCi (45 + 14 * m) a k
theorem KW.fr2 {N : Nat} {S : Nat → Nat → Prop} {σ τ : Sto} {c : Nat → Nat} (h : KW N σ c) (hr : CR τ (gr σ 1 11) c) (e : Eo S σ τ) (hs : ∀ a k, (a = 88 ∨ a = 89 ∨ a = 90 ∨ a = 91) → ¬ S a k) : KW N τ c := by
  obtain ⟨h1, h2, h3, h4, h5, h6, ⟨hc, -, hm, s, hs1, hsN, hst, hkn⟩, ⟨hbc, -⟩, b, hb1, hbN, hbt, hbk⟩ := h
  refine ⟨by rw [e.2.2]; exact h1, by rw [e.2.2, e.2.2]; exact h2, by rw [e.2.2, e.2.2]; exact h3, by rw [e.2.2, e.2.2]; exact h4, by rw [e.2.2, e.2.2]; exact h5, by rw [e.2.2, e.2.2]; exact h6, ⟨by rw [e.2.2]; exact hc, by rw [e.2.2, h2]; exact hr, by rw [e.1 _ _ (hs _ _ (by omega))]; exact hm, s, hs1, hsN, by rw [e.1 _ _ (hs _ _ (by omega))]; exact hst, fun g hg => by rw [e.1 _ _ (hs _ _ (by omega))]; exact hkn g hg⟩, ⟨by rw [e.2.2]; exact hbc, by rw [e.2.2, h3]; exact hr⟩, b, hb1, hbN, by rw [e.1 _ _ (hs _ _ (by omega))]; exact hbt, fun o ho => by rw [e.1 _ _ (hs _ _ (by omega))]; exact hbk o ho⟩
def markA (m : Nat) : Int32 × Int32 := if m < 3 then (nI (m + 1), 0) else (-1, 7)
theorem c_mark {σ : Sto} {c : Nat → Nat} {nm : Nat → Int64} {P : Int32 → Sto → Prop} {N m : Nat} (h : KW N σ c) (ok : OK c) (hnow : gr σ 1 11 = 13 ∨ gr σ 1 11 = 27) (hf : CF σ (gr σ 1 11) c nm) (hm : gi σ 1 13 = nI m) (hm3 : m ≤ 3)
    (k1 : m < 3 → ∀ τ, Eo (SMk m) σ τ → KW N τ c → CF τ (45 + 14 * m) c nm → gi τ 1 13 = nI (m + 1) → gi τ 1 15 = 0 → P (nI (m + 1)) τ) (k2 : ¬ m < 3 → ∀ τ, Eo SQ σ τ → KW N τ c → gi τ 1 15 = 7 → P (-1) τ) : w_X11_mark σ P := by
  unfold w_X11_mark
  rw [hm, N3]
  by_cases hl : m < 3
  · rw [if_pos ((jI_lt (by omega) (by decide)).mpr hl), tc_nI (by omega)]
    refine ⟨vp_nI hl (by decide), h.1, c_copyFrom (isCity.mk hl) h.1 (by omega) ok hf (fun τ e hf1 hf2 => ?_)⟩
    have e1 : Eo (SMk m) σ τ := e.mo (fun a k q => Or.inr q)
    have h13 : gi τ 1 13 = nI m := by rw [e.1 1 13 (by unfold SCi; omega)]; exact hm
    rintro σ6 rfl
    rw [h13, N1, jI_add, gi_si_s]
    have e2 : Eo (SMk m) τ (si (si τ 1 13 (nI (m + 1))) 1 15 0) := Eo.tr (S := SMk m) (Eo.si (Or.inl ⟨rfl, Or.inl rfl⟩)) (Eo.si (Or.inl ⟨rfl, Or.inr rfl⟩))
    have e3 := e1.tr e2
    have hcf : CF (si (si τ 1 13 (nI (m + 1))) 1 15 0) (gr σ 1 11) c nm := hf.eo e3 (fun i y hi q => by unfold SMk SCi at q; omega)
    have hcf2 : CF (si (si τ 1 13 (nI (m + 1))) 1 15 0) (45 + 14 * m) c nm := hf1.eo (S := fun a _ => a = 1) (Eo.tr (S := fun a _ => a = 1) (Eo.si rfl) (Eo.si rfl)) (fun i y hi q => by omega)
    exact k1 hl _ e3 (h.fr2 hcf.1 e3 (fun a j ha q => by unfold SMk SCi at q; omega)) hcf2 (by rw [gi_si_k (by decide), gi_si_s]) gi_si_s
  · rw [if_neg (fun q => hl ((jI_lt (by omega) (by decide)).mp q))]
    exact k2 hl _ stq h.st gi_si_s
def SBk (A a k : Nat) : Prop := (a = 1 ∧ (k = 13 ∨ k = 15)) ∨ SCi A a k ∨ STn a k
def backA (m : Nat) : Int32 × Int32 := if 0 < m then (nI (m - 1), 0) else (-1, 8)
theorem c_back {σ : Sto} {c c' : Nat → Nat} {nm' : Nat → Int64} {P : Int32 → Sto → Prop} {N m : Nat} (h : KW N σ c) (hN : N ≤ 2000) (hnow : gr σ 1 11 = 13 ∨ gr σ 1 11 = 27) (hm : gi σ 1 13 = nI m) (hm3 : m ≤ 3) (ok' : 0 < m → OK c') (hf : 0 < m → CF σ (45 + 14 * (m - 1)) c' nm')
    (k1 : 0 < m → ∀ τ, Eo (SBk (gr σ 1 11)) σ τ → KW (N + 1) τ c' → CF τ (gr σ 1 11) c' nm' → gi τ 1 13 = nI (m - 1) → gi τ 1 15 = 0 → P (nI (m - 1)) τ) (k2 : ¬ 0 < m → ∀ τ, Eo SQ σ τ → KW N τ c → gi τ 1 15 = 8 → P (-1) τ) : w_X11_back σ P := by
  unfold w_X11_back
  rw [hm, N0]
  by_cases hl : 0 < m
  · rw [if_pos ((jI_lt (by decide) (by omega)).mpr hl), N1, jI_sub (by omega)]
    rintro σ2 rfl
    have e0 : Eo (SBk (gr σ 1 11)) σ (si σ 1 13 (nI (m - 1))) := Eo.si (Or.inl ⟨rfl, Or.inl rfl⟩)
    rw [gr_si, gi_si_s, tc_nI (by omega)]
    have hcf0 : CF (si σ 1 13 (nI (m - 1))) (45 + 14 * (m - 1)) c' nm' := (hf hl).eo (S := fun a _ => a = 1) (Eo.si rfl) (fun i y hi q => by omega)
    refine ⟨h.1, vp_nI (by omega) (by decide), c_copyFrom h.1 (isCity.mk (by omega)) (by omega) (ok' hl) hcf0 (fun τ e hf1 hf2 => ?_)⟩
    have e1 : Eo (SBk (gr σ 1 11)) σ τ := e0.tr (e.mo (fun a k q => Or.inr (Or.inl q)))
    have g11 : gr τ 1 11 = gr σ 1 11 := e1.2.2 1 11
    have hstp : STP N τ := h.stp.eo (fun a j ha => by rw [e.1 a j (by unfold SCi; omega), gi_si_a (by omega)])
    refine c_turnToNow (by rw [g11]; exact h.1) (by rw [g11]; exact hf1.1) (ok' hl) hstp hN (fun υ f1 f2 f3 f4 hw => ?_)
    have e2 : Eo (SBk (gr σ 1 11)) τ υ := ⟨fun a j hx => f1 a j (fun q => hx (Or.inr (Or.inr q))), fun a j _ => f2 a j, fun a j => by
      by_cases q : isRf a j
      · rw [f4 a j q, e1.2.2 a j]
        obtain ⟨h1, h2, h3, h4, h5, h6, -⟩ := h
        rw [g11]
        unfold isRf at q
        rcases q with ⟨rfl, rfl⟩ | ⟨rfl, rfl⟩ | ⟨rfl, rfl⟩ | ⟨rfl, rfl⟩ | ⟨rfl, rfl⟩
        · exact h2.symm
        · exact h3.symm
        · exact h4.symm
        · exact h5.symm
        · exact h6.symm
      · exact f3 a j q⟩
    have h13 : gi υ 1 13 = nI (m - 1) := by rw [f1 1 13 (by unfold STn; omega), e.1 1 13 (by unfold SCi; omega), gi_si_s]
    rw [h13]
    have e3 : Eo (SBk (gr σ 1 11)) υ (si υ 1 15 0) := Eo.si (Or.inl ⟨rfl, Or.inr rfl⟩)
    have hcf : CF (si υ 1 15 0) (gr σ 1 11) c' nm' := hf1.eo (S := fun a k => (a = 1 ∧ k = 15) ∨ STn a k) (τ := si υ 1 15 0) (Eo.tr (τ := υ) ⟨fun a j hx => f1 a j (fun q => hx (Or.inr q)), fun a j _ => f2 a j, e2.2.2⟩ (Eo.si (Or.inl ⟨rfl, rfl⟩))) (fun i y hi q => by unfold STn at q; omega)
    exact k1 hl _ ((e1.tr e2).tr e3) hw.st hcf (by rw [gi_si_k (by decide)]; exact h13) gi_si_s
  · rw [if_neg (fun q => hl ((jI_lt (by decide) (by omega)).mp q))]
    exact k2 hl _ stq h.st gi_si_s
/-! == the model: blocks copied == -/
def SBl (t a k : Nat) : Prop := (a = 106 ∧ 421 * t ≤ k ∧ k < 421 * t + 421) ∨ (a = 108 ∧ 24 * t ≤ k ∧ k < 24 * t + 24)
theorem m_copy {σ : Sto} {P : Sto → Prop} {f t : Nat} (hf : f ≤ 4) (ht : t ≤ 4) (hne : f ≠ t) (k : ∀ τ, Eo (SBl t) σ τ → (∀ j, j < 421 → gi τ 106 (421 * t + j) = gi σ 106 (421 * f + j)) → (∀ j, j < 24 → gl τ 108 (24 * t + j) = gl σ 108 (24 * f + j)) → P τ) : w_X12_copy (nI f) (nI t) σ P := by
  unfold w_X12_copy
  refine Lp_for 421 (fun j q => q.1 = nI j ∧ Eo (SBl t) σ q.2 ∧ (∀ a i, gl q.2 a i = gl σ a i) ∧ ∀ i, i < j → gi q.2 106 (421 * t + i) = gi σ 106 (421 * f + i)) ⟨rfl, Eo.rf, fun _ _ => rfl, fun i hi => absurd hi (Nat.not_lt_zero _)⟩ ?_ ?_
  · rintro j hj K ⟨x3, τ⟩ ⟨r3, e, hl, hg⟩ hK
    dsimp only at r3 e hl hg hK ⊢
    subst r3
    unfold w_X12_copy_2
    rw [if_neg (by rw [N421, jI_le (by omega) (by omega)]; omega), N421, jI_mul, jI_mul, jI_add, jI_add, tn_nI (by omega), tn_nI (by omega), N1, jI_add, e.1 106 _ (by unfold SBl; omega)]
    refine ⟨vp_nI (by omega) (by decide), vp_nI (by omega) (by decide), ?_⟩
    rintro y rfl
    refine hK _ ⟨rfl, e.tr (Eo.si (Or.inl ⟨rfl, by omega, by omega⟩)), fun a i => by dsimp only; rw [gl_si]; exact hl a i, fun i hi => ?_⟩
    dsimp only
    by_cases hij : i = j
    · subst hij; exact gi_si_s
    · rw [gi_si_k (by omega)]; exact hg i (by omega)
  · rintro K ⟨x3, τ⟩ ⟨r3, e, hl, hg⟩
    dsimp only at r3 e hl hg ⊢
    subst r3
    unfold w_X12_copy_2
    rw [if_pos (by decide)]
    refine Lp_for 24 (fun j q => q.1 = nI j ∧ Eo (SBl t) σ q.2 ∧ (∀ a i, gi q.2 a i = gi τ a i) ∧ (∀ i, (i < 24 * t ∨ 24 * t + 24 ≤ i) → gl q.2 108 i = gl σ 108 i) ∧ ∀ i, i < j → gl q.2 108 (24 * t + i) = gl σ 108 (24 * f + i)) ⟨rfl, e, fun _ _ => rfl, fun i _ => hl 108 i, fun i hi => absurd hi (Nat.not_lt_zero _)⟩ ?_ ?_
    · rintro j hj K2 ⟨x3, υ⟩ ⟨r3, e2, hi2, ho, hg2⟩ hK2
      dsimp only at r3 e2 hi2 ho hg2 hK2 ⊢
      subst r3
      unfold w_X12_copy_41
      rw [if_neg (by rw [N24, jI_le (by omega) (by omega)]; omega), N24, jI_mul, jI_mul, jI_add, jI_add, tn_nI (by omega), tn_nI (by omega), N1, jI_add, ho (24 * f + j) (by omega)]
      refine ⟨vp_nI (by omega) (by decide), vp_nI (by omega) (by decide), ?_⟩
      rintro y rfl
      refine hK2 _ ⟨rfl, e2.tr (Eo.sl (Or.inr ⟨rfl, by omega, by omega⟩)), fun a i => by dsimp only; rw [gi_sl]; exact hi2 a i, fun i hi => by dsimp only; rw [gl_sl_k (by omega)]; exact ho i hi, fun i hi => ?_⟩
      dsimp only
      by_cases hij : i = j
      · subst hij; exact gl_sl_s
      · rw [gl_sl_k (by omega)]; exact hg2 i (by omega)
    · rintro K2 ⟨x3, υ⟩ ⟨r3, e2, hi2, ho, hg2⟩
      dsimp only at r3 e2 hi2 ho hg2 ⊢
      subst r3
      unfold w_X12_copy_41
      rw [if_pos (by decide)]
      exact k υ e2 (fun j hj => by rw [hi2]; exact hg j hj) hg2
/-- the places of names that are told -/
def vN (c : Nat → Nat) (k : Nat) : Prop := k < c 0 ∨ (12 ≤ k ∧ k < 12 + c 2) ∨ (18 ≤ k ∧ k < 18 + c 3)
/-- a block of the model: a city's numbers and names -/
def MB (σ : Sto) (b : Nat) (c : Nat → Nat) (nm : Nat → Int64) : Prop := (∀ j, j < 421 → gi σ 106 (421 * b + j) = nI (c j)) ∧ ∀ k, vN c k → gl σ 108 (24 * b + k) = nm k
theorem vN.lt {c : Nat → Nat} (ok : OK c) {k : Nat} (h : vN c k) : k < 24 := by
  have := ok.n0
  have := ok.n2
  have := ok.n3
  unfold vN at h
  omega
theorem MB.eo {S : Nat → Nat → Prop} {σ τ : Sto} {b : Nat} {c : Nat → Nat} {nm : Nat → Int64} (h : MB σ b c nm) (ok : OK c) (e : Eo S σ τ) (h1 : ∀ k, 421 * b ≤ k → k < 421 * b + 421 → ¬ S 106 k) (h2 : ∀ k, 24 * b ≤ k → k < 24 * b + 24 → ¬ S 108 k) : MB τ b c nm :=
  ⟨fun j hj => by rw [e.1 _ _ (h1 _ (by omega) (by omega))]; exact h.1 j hj, fun k hk => by rw [e.2.1 _ _ (h2 _ (by omega) (by have := vN.lt ok hk; omega))]; exact h.2 k hk⟩
def SMm (t a k : Nat) : Prop := (a = 101 ∧ (k = 0 ∨ k = 1 ∨ k = 23)) ∨ SBl t a k
theorem m_mark {σ : Sto} {c : Nat → Nat} {nm : Nat → Int64} {P : Int32 → Sto → Prop} {m : Nat} (ok : OK c) (hf : MB σ 0 c nm) (hm : gi σ 101 23 = nI m) (hm3 : m ≤ 3)
    (k1 : m < 3 → ∀ τ, Eo (SMm (m + 1)) σ τ → MB τ (m + 1) c nm → gi τ 101 23 = nI (m + 1) → gi τ 101 0 = 0 → P (nI (m + 1)) τ) (k2 : ¬ m < 3 → ∀ τ, Eo SM σ τ → gi τ 101 0 = 7 → P (-1) τ) : w_X12_mark σ P := by
  unfold w_X12_mark
  rintro σ1 rfl
  have h23 : gi (si (si σ 101 1 0) 101 0 0) 101 23 = nI m := by rw [gi_si_k (by decide), gi_si_k (by decide)]; exact hm
  rw [h23]
  by_cases hl : m < 3
  · rw [if_neg (by rw [N3, jI_eq (by omega) (by decide)]; omega), N1, jI_add]
    rintro σ4 rfl
    rw [gi_si_s]
    have hc0 : w_X12_copy 0 (nI (m + 1)) (si (si (si σ 101 1 0) 101 0 0) 101 23 (nI (m + 1))) (fun σ_6 => P (gi σ_6 101 23) σ_6) := m_copy (f := 0) (t := m + 1) (by decide) (by omega) (by omega) (fun τ e hg hn => by
      have h5 : gi τ 101 23 = nI (m + 1) := by rw [e.1 101 23 (by unfold SBl; omega), gi_si_s]
      rw [h5]
      refine k1 hl τ ?_ ⟨fun j hj => ?_, fun k hk => ?_⟩ h5 ?_
      · exact Eo.tr (S := SMm (m + 1)) (Eo.tr (S := SMm (m + 1)) (Eo.tr (S := SMm (m + 1)) (Eo.si (Or.inl ⟨rfl, Or.inr (Or.inl rfl)⟩)) (Eo.si (Or.inl ⟨rfl, Or.inl rfl⟩))) (Eo.si (Or.inl ⟨rfl, Or.inr (Or.inr rfl)⟩))) (e.mo (fun a k q => Or.inr q))
      · rw [hg j hj, gi_si_a (by decide), gi_si_a (by decide), gi_si_a (by decide)]
        exact hf.1 j hj
      · rw [hn k (vN.lt ok hk), gl_si, gl_si, gl_si]
        exact hf.2 k hk
      · rw [e.1 101 0 (by unfold SBl; omega), gi_si_k (by decide), gi_si_s])
    exact hc0
  · rw [if_pos (by rw [N3, jI_eq (by omega) (by decide)]; omega)]
    exact k2 hl _ (sm10.tr sm0) gi_si_s
theorem m_back {σ : Sto} {c' : Nat → Nat} {nm' : Nat → Int64} {P : Int32 → Sto → Prop} {m : Nat} (hm : gi σ 101 23 = nI m) (hm3 : m ≤ 3) (ok' : 0 < m → OK c') (hf : 0 < m → MB σ m c' nm')
    (k1 : 0 < m → ∀ τ, Eo (SMm 0) σ τ → MB τ 0 c' nm' → gi τ 101 23 = nI (m - 1) → gi τ 101 0 = 0 → P (nI (m - 1)) τ) (k2 : ¬ 0 < m → ∀ τ, Eo SM σ τ → gi τ 101 0 = 8 → P (-1) τ) : w_X12_back σ P := by
  unfold w_X12_back
  rintro σ1 rfl
  have h23 : gi (si (si σ 101 1 0) 101 0 0) 101 23 = nI m := by rw [gi_si_k (by decide), gi_si_k (by decide)]; exact hm
  rw [h23]
  by_cases hl : 0 < m
  · rw [if_neg (by rw [N0, jI_eq (by omega) (by decide)]; omega)]
    have hc0 : w_X12_copy (nI m) 0 (si (si σ 101 1 0) 101 0 0) (fun σ_4 => ∀ σ_6 : Sto, σ_6 = si σ_4 101 23 ((gi σ_4 101 23) - 1) → P (gi σ_6 101 23) σ_6) := m_copy (f := m) (t := 0) (by omega) (by decide) (by omega) (fun τ e hg hn => by
      have h5 : gi τ 101 23 = nI m := by rw [e.1 101 23 (by unfold SBl; omega)]; exact h23
      rintro σ6 rfl
      rw [h5, N1, jI_sub (by omega), gi_si_s]
      refine k1 hl _ ?_ ⟨fun j hj => ?_, fun k hk => ?_⟩ gi_si_s ?_
      · exact Eo.tr (S := SMm 0) (Eo.tr (S := SMm 0) (Eo.tr (S := SMm 0) (Eo.si (Or.inl ⟨rfl, Or.inr (Or.inl rfl)⟩)) (Eo.si (Or.inl ⟨rfl, Or.inl rfl⟩))) (e.mo (fun a k q => Or.inr q))) (Eo.si (Or.inl ⟨rfl, Or.inr (Or.inr rfl)⟩))
      · rw [gi_si_a (by decide), hg j hj, gi_si_a (by decide), gi_si_a (by decide)]
        exact (hf hl).1 j hj
      · rw [gl_si, hn k (vN.lt (ok' hl) hk), gl_si, gl_si]
        exact (hf hl).2 k hk
      · rw [gi_si_k (by decide), e.1 101 0 (by unfold SBl; omega), gi_si_s])
    exact hc0
  · rw [if_pos (by rw [N0, jI_eq (by omega) (by decide)]; omega)]
    exact k2 hl _ (sm10.tr sm0) gi_si_s
