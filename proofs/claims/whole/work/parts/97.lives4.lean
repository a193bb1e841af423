/-! ===== centuries lived: from the first step to the last; live, lived ===== -/
def runF (c : Nat → Nat) (seed : Nat) : LTv := lvF c 31 0 (c 143) (c, (seed, 0, 0, 0, 0), 0, 0, 0)
theorem lx_CR {N A : Nat} {c0 : Nat → Nat} {σ0 σ : Sto} {x : LTv} (h : LX N A c0 σ0 σ x) : CR σ A x.1 := by
  rw [← h.2.2.2.1]; exact h.2.1.1.cr
theorem c_goThrough {σ : Sto} {c : Nat → Nat} {N seed : Nat} {P : Int32 → Sto → Prop} (h : KW N σ c) (ok : OK c) (hN : N ≤ 2000) (hl : SLay σ (gr σ 1 11 + 8) c) (hs : seed ≤ 9999) (k : ∀ τ, LX N (gr σ 1 11) c σ τ (runF c seed) → P (nI (runF c seed).2.2.1) τ) : w_X3_goThrough (nI seed) σ P := by
  obtain ⟨l1, l2, l3, l4, ln, l5, l6, l7⟩ := hl
  have hA := h.1.rg
  unfold w_X3_goThrough
  refine t_fill a98 (by decide) (fun υ e hf => ?_)
  rintro _ rfl
  have eu : Eo (SLr (gr σ 1 11)) σ (si υ 97 5 (nI seed)) := (e.mo (fun a k z => Or.inr (Or.inl z))).tr (Eo.si (Or.inl (by unfold SLa; omega)))
  have hw : KW N (si υ 97 5 (nI seed)) c := h.ex ((e.mo (fun a k z => by unfold SX; omega)).tr (Eo.si (by unfold SX; omega)))
  refine ⟨by rw [hw.r97]; exact hw.1, ?_⟩
  rw [hw.r97, eu.2.2 1 11]
  have f98 : ∀ t, t < 5 → gi (si υ 97 5 (nI seed)) 98 t = nI 0 := fun t ht => by rw [gi_si_a (by decide)]; exact hf t ht
  have hx : LX N (gr σ 1 11) c σ (si υ 97 5 (nI seed)) (c, (seed, 0, 0, 0, 0), 0, 0, 0) := ⟨eu, ⟨hw, ok, gi_si_s, by show seed ≤ 65535; omega, f98 0 (by decide), f98 1 (by decide), f98 2 (by decide), f98 3 (by decide)⟩, fun _ _ _ _ => rfl, eu.2.2 1 11, f98 4 (by decide), Nat.zero_le _⟩
  have hg := c_seg (P := P) hN l5 l6 31 3 0 (c 143) 0 ln _ _ 0 l7 (Nat.le_refl _) hx rfl (Nat.zero_le _) (fun τ κ' hz2 hx2 _ hc2 => by
    have hd := hx2.2.2.2.2.2
    refine gb_end h.1.st (by rw [hx2.st (a := gr σ 1 11 + 8) (by omega)]; exact l5) l6 (Nat.le_refl _) (by omega) ?_ (k τ hx2)
    have hd' : (lvF c 31 0 (c 143) (c, (seed, 0, 0, 0, 0), 0, 0, 0)).2.2.1 ≤ 300 := hd
    dsimp only at hc2
    omega) (fun τ _ hx2 => k τ hx2)
  exact hg.lp
theorem m_runs {σ : Sto} {c : Nat → Nat} {seed : Nat} {V O G U T : Nat → Int32} {ln : Nat} {P : Sto → Prop} (h : MR σ c) (ok : OK c) (h30 : c 143 ≤ 30) (hl : Lay c V O G U T 31 3 0 (c 143) 0 ln) (hs : seed ≤ 9999) (k : ∀ τ, MX c σ τ (runF c seed) → P τ) : w_X12_runsCenturies (nI seed) σ P := by
  unfold w_X12_runsCenturies
  rintro σ1 h1
  have hx : MX c σ σ1 (c, (seed, 0, 0, 0, 0), 0, 0, 0) := by
    rw [h1]
    refine ⟨?_, ?_, ⟨?_, ok, ?_, by show seed ≤ 65535; omega, ?_, ?_, ?_, ?_⟩, fun _ _ _ _ => rfl, ?_, Nat.zero_le _, gi_si_s, Nat.zero_le _, ?_⟩
    · have s1 : ∀ (τ : Sto) i v, 40 ≤ i → i ≤ 47 → Eo SML τ (si τ 101 i v) := fun τ i v ha hb => Eo.si (Or.inr (Or.inl ⟨rfl, ha, hb⟩))
      exact (((((((s1 _ _ _ (by decide) (by decide)).tr (s1 _ _ _ (by decide) (by decide))).tr (s1 _ _ _ (by decide) (by decide))).tr (s1 _ _ _ (by decide) (by decide))).tr (s1 _ _ _ (by decide) (by decide))).tr (s1 _ _ _ (by decide) (by decide))).tr (s1 _ _ _ (by decide) (by decide))).tr (s1 _ _ _ (by decide) (by decide))
    · simp only [gi_si_k (show (0 : Nat) ≠ 40 by decide), gi_si_k (show (0 : Nat) ≠ 41 by decide), gi_si_k (show (0 : Nat) ≠ 42 by decide), gi_si_k (show (0 : Nat) ≠ 43 by decide), gi_si_k (show (0 : Nat) ≠ 44 by decide), gi_si_k (show (0 : Nat) ≠ 45 by decide), gi_si_k (show (0 : Nat) ≠ 46 by decide), gi_si_k (show (0 : Nat) ≠ 47 by decide)]
    · exact (((((((h.vv rfl).vv rfl).vv rfl).vv rfl).vv rfl).vv rfl).vv rfl).vv rfl
    · rw [gi_si_k (by decide), gi_si_k (by decide), gi_si_k (by decide), gi_si_k (by decide), gi_si_k (by decide), gi_si_k (by decide), gi_si_k (by decide), gi_si_s]
    · rw [gi_si_k (by decide), gi_si_k (by decide), gi_si_k (by decide), gi_si_k (by decide), gi_si_k (by decide), gi_si_s]; rfl
    · rw [gi_si_k (by decide), gi_si_k (by decide), gi_si_k (by decide), gi_si_k (by decide), gi_si_s]; rfl
    · rw [gi_si_k (by decide), gi_si_k (by decide), gi_si_k (by decide), gi_si_s]; rfl
    · rw [gi_si_k (by decide), gi_si_k (by decide), gi_si_s]; rfl
    · rw [gi_si_k (by decide), gi_si_k (by decide), gi_si_k (by decide), gi_si_k (by decide), gi_si_k (by decide), gi_si_k (by decide), gi_si_s]; rfl
    · rw [gi_si_k (by decide), gi_si_s]; rfl
  have h143 : gi σ1 106 143 = nI (c 143) := hx.2.2.1.1 143 (by decide)
  rw [h143]
  exact (m_all 31 3 0 (c 143) 0 ln 16 σ1 _ P hl (by decide) h30 hx k).lp
/-- what is told of the centuries -/
def tlF (y : LTv) (i : Nat) : Nat := if i = 0 then y.2.1.2.1 else if i = 1 then y.2.1.2.2.1 else if i = 2 then y.2.1.2.2.2.1 else if i = 3 then y.2.1.2.2.2.2 else y.2.2.2.2
def SLi (A a k : Nat) : Prop := SLr A a k ∨ a = 100 ∨ (a = 1 ∧ (k = 14 ∨ k = 15))
theorem c_live {σ : Sto} {c : Nat → Nat} {N : Nat} {x : Int32} {P : Int32 → Sto → Prop} (h : KW N σ c) (ok : OK c) (hN : N ≤ 2000) (hl : SLay σ (gr σ 1 11 + 8) c)
    (k5 : ¬ inD x 10000 → ∀ τ, Eo SQ σ τ → KW N τ c → gi τ 1 15 = 5 → P (-1) τ) (k8 : inD x 10000 → c 142 = 0 → ∀ τ, Eo SQ σ τ → KW N τ c → gi τ 1 15 = 8 → P (-1) τ)
    (k1 : ∀ n, x = nI n → n < 10000 → c 142 ≠ 0 → ∀ τ, Eo (SLi (gr σ 1 11)) σ τ → KW N τ (runF c n).1 → OK (runF c n).1 → Sm c (runF c n).1 → gi τ 1 14 = 1 → gi τ 1 15 = 0 → (∀ i, i < 5 → gi τ 100 i = nI (tlF (runF c n) i)) → P (nI (runF c n).2.2.1) τ) : w_X11_live x σ P := by
  have sq15 : ∀ v, Eo SQ σ (si σ 1 15 v) := fun v => Eo.si (by unfold SQ; omega)
  have k5' : ¬ inD x 10000 → P (-1) (si σ 1 15 5) := fun q => k5 q _ (sq15 _) h.st gi_si_s
  unfold w_X11_live w_X11_live_11 w_X11_refuse
  have hi := inD_iff (x := x) (N := 10000) (by decide)
  by_cases hx0 : x < 0
  · rw [if_pos hx0]
    exact k5' (fun q => (hi.mp q).1 hx0)
  rw [if_neg hx0]
  by_cases hx9 : x ≤ 9999
  · have hd : inD x 10000 := hi.mpr ⟨hx0, by
      rw [Int32.lt_iff_toInt_lt]
      rw [Int32.le_iff_toInt_le] at hx9
      have e1 : (9999 : Int32).toInt = 9999 := by decide
      have e2 : (nI 10000).toInt = 10000 := by decide
      omega⟩
    rw [if_pos hx9]
    refine ⟨h.1, ?_⟩
    rw [hl.1, N0]
    by_cases h0 : c 142 = 0
    · rw [if_pos (by rw [h0])]
      exact k8 hd h0 _ (sq15 _) h.st gi_si_s
    · rw [if_neg (by rw [jI_eq (by have := hl.2.1; omega) (by decide)]; exact h0)]
      obtain ⟨n, hn, rfl⟩ := hd
      refine c_goThrough h ok hN hl (by omega) (fun τ hx => ?_)
      have hA := h.1.rg
      have hw := hx.2.1.1
      unfold w_X11_fine
      have e1 : Eo (fun a k => a = 100 ∨ (a = 1 ∧ (k = 14 ∨ k = 15))) τ (si (si (cpi τ 98 0 100 0 5) 1 14 1) 1 15 0) := ((Eo.cpi (fun _ => Or.inl rfl)).tr (Eo.si (Or.inr ⟨rfl, Or.inl rfl⟩))).tr (Eo.si (Or.inr ⟨rfl, Or.inr rfl⟩))
      have hAt : gr τ 1 11 = gr σ 1 11 := hx.2.2.2.1
      refine k1 n rfl hn h0 _ ((hx.1.mo (fun a k z => Or.inl z)).tr (e1.mo (fun a k z => Or.inr z))) (hw.fr2 (hw.cr.eo e1 (fun i k hi q => by rw [hAt] at q; omega)) e1 (fun a k ha q => by omega)) hx.2.1.2.1 hx.2.2.1 ?_ gi_si_s (fun i hi => ?_)
      · rw [gi_si_k (by decide), gi_si_s]
      · rw [gi_si_a (by decide), gi_si_a (by decide), cpi_eq hi]
        obtain ⟨_, ⟨_, _, _, _, g6, g7, g8, g9⟩, _, _, g12, _⟩ := hx
        unfold tlF
        by_cases i0 : i = 0
        · rw [if_pos i0, i0]; exact g6
        rw [if_neg i0]
        by_cases i1 : i = 1
        · rw [if_pos i1, i1]; exact g7
        rw [if_neg i1]
        by_cases i2 : i = 2
        · rw [if_pos i2, i2]; exact g8
        rw [if_neg i2]
        by_cases i3 : i = 3
        · rw [if_pos i3, i3]; exact g9
        rw [if_neg i3, show i = 4 by omega]
        exact g12
  · rw [if_neg hx9]
    refine k5' (fun q => hx9 ?_)
    have h2 := (hi.mp q).2
    rw [Int32.le_iff_toInt_le]
    rw [Int32.lt_iff_toInt_lt] at h2
    have e1 : (9999 : Int32).toInt = 9999 := by decide
    have e2 : (nI 10000).toInt = 10000 := by decide
    omega
def SMi (a k : Nat) : Prop := SML a k ∨ a = 118 ∨ (a = 101 ∧ k = 39)
theorem m_live {σ : Sto} {c : Nat → Nat} {x : Int32} {V O G U T : Nat → Int32} {ln : Nat} {P : Int32 → Sto → Prop} (h : MR σ c) (ok : OK c) (h42 : c 142 ≤ 1) (h30 : c 143 ≤ 30) (hl : Lay c V O G U T 31 3 0 (c 143) 0 ln)
    (k5 : ¬ inD x 10000 → ∀ τ, Eo SM σ τ → gi τ 101 0 = 5 → P (-1) τ) (k8 : inD x 10000 → c 142 = 0 → ∀ τ, Eo SM σ τ → gi τ 101 0 = 8 → P (-1) τ)
    (k1 : ∀ n, x = nI n → n < 10000 → c 142 ≠ 0 → ∀ τ, Eo SMi σ τ → MR τ (runF c n).1 → OK (runF c n).1 → Sm c (runF c n).1 → gi τ 101 39 = 1 → gi τ 101 0 = 0 → (∀ i, i < 5 → gi τ 118 i = nI (tlF (runF c n) i)) → P (nI (runF c n).2.2.1) τ) : w_X12_live x σ P := by
  have hs : MR (si (si σ 101 1 0) 101 0 0) c := h.sm sm10
  unfold w_X12_live w_X12_refuse
  refine t_isInK (N := 9999) (by decide) (by decide) (fun hx => ?_) (fun hx => ?_)
  · rw [if_neg (show ¬ (1 : Int32) = 0 by decide), hs 142 (by decide), N0]
    by_cases h0 : c 142 = 0
    · rw [if_pos (by rw [h0])]
      exact k8 hx h0 _ (sm10.tr sm0) gi_si_s
    · rw [if_neg (by rw [jI_eq (by omega) (by decide)]; exact h0)]
      obtain ⟨n, hn, rfl⟩ := hx
      refine m_runs hs ok h30 hl (by omega) (fun τ hx => ?_)
      obtain ⟨g1, g2, ⟨g3, g4, g5, g6, g7, g8, g9, g10⟩, g11, g12, g13, g14, g15, g16⟩ := hx
      rintro σ7 rfl
      rintro σ9 rfl
      rintro σ11 rfl
      rintro σ13 rfl
      rintro σ15 rfl
      simp only [gi_si_a (show (101 : Nat) ≠ 118 by decide), gi_si_k (show (42 : Nat) ≠ 39 by decide), g7, g8, g9, g10, g16, g12]
      have e2 : Eo (fun a k => a = 118 ∨ (a = 101 ∧ k = 39)) τ (si (si (si (si (si (si τ 118 0 (nI (runF c n).2.1.2.1)) 118 1 (nI (runF c n).2.1.2.2.1)) 118 2 (nI (runF c n).2.1.2.2.2.1)) 118 3 (nI (runF c n).2.1.2.2.2.2)) 118 4 (nI (runF c n).2.2.2.2)) 101 39 1) := (((((Eo.si (Or.inl rfl)).tr (Eo.si (Or.inl rfl))).tr (Eo.si (Or.inl rfl))).tr (Eo.si (Or.inl rfl))).tr (Eo.si (Or.inl rfl))).tr (Eo.si (Or.inr ⟨rfl, rfl⟩))
      refine k1 n rfl hn h0 _ (((sm10.mo (fun a k z => Or.inl (Or.inl z))).tr (g1.mo (fun a k z => Or.inl z))).tr (e2.mo (fun a k z => Or.inr z))) (g3.eo e2 (fun k q => by omega)) g4 g11 gi_si_s ?_ (fun i hi => ?_)
      · rw [e2.1 101 0 (by omega), g2, gi_si_s]; rfl
      · rw [gi_si_a (by decide)]
        unfold tlF
        by_cases i0 : i = 0
        · rw [if_pos i0, i0, gi_si_k (by decide), gi_si_k (by decide), gi_si_k (by decide), gi_si_k (by decide), gi_si_s]
        rw [if_neg i0]
        by_cases i1 : i = 1
        · rw [if_pos i1, i1, gi_si_k (by decide), gi_si_k (by decide), gi_si_k (by decide), gi_si_s]
        rw [if_neg i1]
        by_cases i2 : i = 2
        · rw [if_pos i2, i2, gi_si_k (by decide), gi_si_k (by decide), gi_si_s]
        rw [if_neg i2]
        by_cases i3 : i = 3
        · rw [if_pos i3, i3, gi_si_k (by decide), gi_si_s]
        rw [if_neg i3, show i = 4 by omega, gi_si_s]
  · rw [if_pos rfl]
    exact k5 hx _ (sm10.tr sm0) gi_si_s
