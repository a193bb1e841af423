/-! ===== texts: centuries in the class ===== -/
/-- the city with new centuries -/
def csF (c : Nat → Nat) (y : YS) : Nat → Nat := fun j => if j = 142 then 1 else if j = 143 then y.2 else if 144 ≤ j ∧ j < 144 + 9 * y.2 then y.1 j else c j
theorem csF_lo {c : Nat → Nat} {y : YS} {j : Nat} (h : j < 142) : csF c y j = c j := by
  unfold csF
  rw [if_neg (by omega), if_neg (by omega), if_neg (by omega)]
theorem csF_142 {c : Nat → Nat} {y : YS} : csF c y 142 = 1 := if_pos rfl
theorem csF_143 {c : Nat → Nat} {y : YS} : csF c y 143 = y.2 := (if_neg (by decide)).trans (if_pos rfl)
theorem csF_st {c : Nat → Nat} {y : YS} {j : Nat} (h : 144 ≤ j) (h2 : j < 144 + 9 * y.2) : csF c y j = y.1 j := by
  unfold csF
  rw [if_neg (by omega), if_neg (by omega), if_pos ⟨h, h2⟩]
theorem OK.cg {c d : Nat → Nat} (ok : OK c) (h : ∀ j, j < 142 → d j = c j) : OK d := by
  have n0 := ok.n0
  have n1 := ok.n1
  have n2 := ok.n2
  have n3 := ok.n3
  have e0 := h 0 (by decide)
  have e1 := h 1 (by decide)
  have e2 := h 2 (by decide)
  have e3 := h 3 (by decide)
  refine ⟨by omega, by omega, by omega, by omega, by rw [h 4 (by decide)]; exact ok.n4, by rw [h 5 (by decide)]; exact ok.n5, by rw [h 6 (by decide), e0]; exact ok.n6, by rw [h 7 (by decide), e0]; exact ok.n7, fun t ht => ?_, fun m hm => ?_, fun m hm => ?_, fun m hm => ?_, fun w hw => ?_, fun v hv t ht => ?_, fun t ht => ?_, fun t ht => ?_⟩
  · rw [h _ (by omega)]; exact ok.worth t (by omega)
  · rw [h _ (by omega), e0]; exact ok.made m (by omega)
  · rw [h _ (by omega), e0]; exact ok.parts m (by omega)
  · rw [h _ (by omega), h _ (by omega)]; exact ok.2.2.2.2.2.2.2.2.2.2.2.1 m (by omega)
  · rw [h _ (by omega), e0]; exact ok.needs w (by omega)
  · rw [h _ (by omega)]; exact ok.hates v (by omega) t ht
  · rw [h _ (by omega), e0]; exact ok.ahead t (by omega)
  · rw [h _ (by omega)]; exact ok.aheadn t (by omega)
theorem CR.cg {σ : Sto} {a : Nat} {c d : Nat → Nat} (ok : OK c) (hc : CR σ a c) (h : ∀ j, j < 142 → d j = c j) : CR σ a d := by
  have n0 := ok.n0
  have n1 := ok.n1
  have n2 := ok.n2
  have n3 := ok.n3
  have e0 := h 0 (by decide)
  have e1 := h 1 (by decide)
  have e2 := h 2 (by decide)
  have e3 := h 3 (by decide)
  obtain ⟨h0, h1, h2, h3, h4, h5, h6⟩ := hc
  refine ⟨fun k hk => ?_, fun t ht => ?_, fun m hm => ?_, fun m hm => ?_, fun w hw => ?_, fun v hv t ht => ?_, fun t ht => ?_⟩
  · rw [h _ (by omega)]; exact h0 k hk
  · rw [h _ (by omega)]; exact h1 t (by omega)
  · rw [h _ (by omega)]; exact h2 m (by omega)
  · rw [h _ (by omega)]; exact h3 m (by omega)
  · rw [h _ (by omega)]; exact h4 w (by omega)
  · rw [h _ (by omega)]; exact h5 v (by omega) t (by omega)
  · rw [h _ (by omega)]; exact h6 t (by omega)
theorem KW.cg {N : Nat} {σ : Sto} {c d : Nat → Nat} (hw : KW N σ c) (ok : OK c) (h : ∀ j, j < 142 → d j = c j) : KW N σ d := by
  have n0 := ok.n0
  have n1 := ok.n1
  have n3 := ok.n3
  have lS : likeS c d := ⟨h 0 (by decide), h 1 (by decide), fun m hm => h _ (by omega), fun m hm => h _ (by omega)⟩
  have lV : likeV c d := ⟨h 0 (by decide), h 3 (by decide), fun v hv t ht => h _ (by omega)⟩
  obtain ⟨h1, h2, h3, h4, h5, h6, ⟨hc, hr, hm, s, hs1, hsN, hst, hkn⟩, ⟨hbc, hbr⟩, b, hb1, hbN, hbt, hbk⟩ := hw
  refine ⟨h1, h2, h3, h4, h5, h6, ⟨hc, hr.cg ok h, by rw [madeF_like lS]; exact hm, s, hs1, hsN, hst, fun g hg => ?_⟩, ⟨hbc, hbr.cg ok h⟩, b, hb1, hbN, hbt, fun o ho => ?_⟩
  · rw [upF_like lS]; exact hkn g hg
  · rw [nameF_like lV, h 4 (by decide)]; exact hbk o ho
def SSs (a x k : Nat) : Prop := (x = 10 ∧ 3 ≤ k ∧ k ≤ 10) ∨ (a ≤ x ∧ x ≤ a + 5) ∨ (x = 42 ∧ k = 2) ∨ x = 43
def RSs (x k : Nat) : Prop := x = 42 ∧ (k = 3 ∨ k = 4)
theorem SStSs {a L d x k : Nat} (h : SSt a L d x k) : SSs a x k := by
  rcases h with h | h | h | h | h
  · unfold ST0 at h; exact Or.inl ⟨h.1, by omega, h.2.2⟩
  · exact Or.inr (Or.inl (by omega))
  · exact Or.inr (Or.inl (by omega))
  · exact Or.inr (Or.inr (Or.inl h))
  · exact Or.inr (Or.inr (Or.inr h.1))
theorem c_takesS {σ : Sto} {T : Nat → Nat} {f n a b : Nat} {c m0 : Nat → Nat} {nm : Nat → Int64} {P : Int32 → Sto → Prop} (ha : isStory a) (hb : isCity b) (hp : PC σ f T) (hK : KC σ) (hn : n ≤ f) (hnm : ∀ k, k < 24 → gl σ (b + 1) k = nm k) (hk : NmK c nm) (h0 : m0 0 = c 0) (h2 : m0 2 = c 2)
    (k1 : ∀ y t', stA T n c nm m0 = Sum.inr (y, t') → ∀ τ M, Er (SSs a) RSs σ τ → gi τ a 5 = 1 → gi τ a 6 = nI y.2 → y.2 ≤ 30 → gi τ a 7 = nI M → M ≤ 60 → y.1 0 = c 0 → y.1 2 = c 2 → Lay y.1 (gi τ (a + 1)) (gi τ (a + 2)) (gi τ (a + 3)) (gi τ (a + 4)) (gi τ (a + 5)) 31 3 0 y.2 0 M → P 1 τ)
    (k0 : ∀ e, stA T n c nm m0 = Sum.inl e → ∀ τ, Er (SSs a) RSs σ τ → gi τ 10 9 = nI e.1 → gi τ 10 10 = nI e.2 → P 0 τ) : w_X8_takes a b (nI n) σ P := by
  have hr := sty ha
  have hsb := sty_b ha hb
  have hbr := hb.rg
  unfold w_X8_takes
  refine ⟨ha, hb, ?_⟩
  rintro _ rfl
  rw [show gr (sr (sr σ 42 4 a) 42 3 b) 42 4 = a by rw [gr_sr_n (by decide), gr_sr_s]]
  refine ⟨ha, ?_⟩
  unfold w_X7_clear
  refine ⟨ha, ?_⟩
  unfold w_X9_start
  dsimp only
  generalize hs0 : si (si (si (si (sr (sr σ 42 4 a) 42 3 b) a 5 0) a 6 0) a 7 0) 42 2 0 = σ0
  generalize hs1 : si (si (si (si σ0 10 3 (nI n)) 10 4 0) 10 9 0) 10 10 (-1) = σ1
  have r4 : gr σ0 42 4 = a := by
    rw [← hs0]
    show gr (sr (sr σ 42 4 a) 42 3 b) 42 4 = a
    rw [gr_sr_n (by decide), gr_sr_s]
  have r3 : gr σ0 42 3 = b := by
    rw [← hs0]
    show gr (sr (sr σ 42 4 a) 42 3 b) 42 3 = b
    rw [gr_sr_s]
  have e0 : Er (SSs a) RSs σ σ0 := by
    rw [← hs0]
    have a1 : Er (SSs a) RSs σ (sr (sr σ 42 4 a) 42 3 b) := (Er.sr ⟨rfl, Or.inr rfl⟩).tr (Er.sr ⟨rfl, Or.inl rfl⟩)
    have s1 : ∀ {x : Sto} {k : Nat} {v : Int32}, Eo (SSs a) x (si x a k v) := Eo.si (Or.inr (Or.inl ⟨Nat.le_refl a, by omega⟩))
    exact (((a1.tr s1.er).tr s1.er).tr s1.er).tr (Eo.si (Or.inr (Or.inr (Or.inl ⟨rfl, rfl⟩)))).er
  have e01 : Eo (fun x k => x = 10 ∧ 3 ≤ k ∧ k ≤ 10) σ0 σ1 := by
    rw [← hs1]
    have s1 : ∀ {x : Sto} {k : Nat} {v : Int32}, 3 ≤ k ∧ k ≤ 10 → Eo (fun x k => x = 10 ∧ 3 ≤ k ∧ k ≤ 10) x (si x 10 k v) := fun hb => Eo.si ⟨rfl, hb⟩
    exact (((s1 (by decide)).tr (s1 (by decide))).tr (s1 (by decide))).tr (s1 (by decide))
  have e1 : Er (SSs a) RSs σ σ1 := e0.tr (e01.mo (fun x k q => Or.inl q)).er
  have q3 : gi σ1 10 3 = nI n := by rw [← hs1, gi_si_k (by decide), gi_si_k (by decide), gi_si_k (by decide), gi_si_s]
  have q4 : gi σ1 10 4 = nI 0 := by rw [← hs1, gi_si_k (by decide), gi_si_k (by decide), gi_si_s]; rfl
  have hT : TB σ1 T n := ⟨q3, by have := hp.2.1; omega, fun k hk => ⟨by rw [e1.1 _ _ (by unfold SSs; omega)]; exact (hp.2.2 k (by omega)).1, (hp.2.2 k (by omega)).2⟩⟩
  have hK1 : KC σ1 := fun k hk' => by rw [e1.2.1 _ _ (by unfold SSs; omega)]; exact hK k hk'
  refine c_advance hT hK1 (Nat.zero_le n) q4 (fun τ2 e2 ht2 => ?_)
  have e2' : Eo ST0 σ1 τ2 := e2.mo (fun _ _ => STk0)
  have hR : RdC τ2 T n (tokF T n 0) := ⟨hT.tk e2, hK1.tk e2, ht2, tokF_V (fun k hk => (hT.2.2 k hk).2) (Nat.zero_le n)⟩
  have hI : isTk T n 0 (tokF T n 0) := ⟨0, Nat.le_refl 0, Nat.zero_le n, hT.2.1, rfl⟩
  have e12 : Er (SSs a) RSs σ τ2 := e1.tr (e2'.mo (fun x k q => by unfold ST0 at q; exact Or.inl ⟨q.1, by omega, q.2.2⟩)).er
  have c2 : CS τ2 a b nm 0 0 0 := by
    have g : ∀ x k, x ≠ 10 → gi τ2 x k = gi σ0 x k := fun x k hx => by rw [e2'.1 _ _ (by unfold ST0; omega), e01.1 _ _ (by omega)]
    refine ⟨ha, hb, by rw [e2'.2.2, e01.2.2]; exact r4, by rw [e2'.2.2, e01.2.2]; exact r3, fun k hk => by rw [e12.2.1 _ _ (by unfold SSs; omega)]; exact hnm k hk, ?_, ?_, ?_⟩
    · rw [g _ _ (by decide), ← hs0, gi_si_s]; rfl
    · rw [g _ _ (by omega), ← hs0, gi_si_a (by omega), gi_si_k (by decide), gi_si_s]; rfl
    · rw [g _ _ (by omega), ← hs0, gi_si_a (by omega), gi_si_s]; rfl
  have up : ∀ {L d : Nat} τ3, Eo (SSt a L d) τ2 τ3 → Er (SSs a) RSs σ τ3 := fun τ3 e3 => e12.tr (e3.mo (fun x k q => SStSs q)).er
  have g := c_sq (T := T) (n := n) (a := a) (b := b) (c := c) (nm := nm) (P := P) hk 902 0 (m0, 0) (tokF T n 0) τ2 0 (Nat.le_refl _) hR hI c2 (by decide) (Nat.le_refl _) (Nat.zero_le _) h0 h2 (fun e he τ3 e3 g9 g10 => k0 e (bS_l he) τ3 (up τ3 e3) g9 g10) (fun z t' hz τ3 M e3 h3 ht3 hend c3 hl3 hs3 hlay kp => ?_)
  · exact g.lp
  · have hi3 := (c_kind h3.2.2.1 h3.2.2.2.1).2.2.2.2.1
    have y0 : z.1 0 = c 0 := by rw [kp 0 (by omega)]; exact h0
    have y2 : z.1 2 = c 2 := by rw [kp 2 (by omega)]; exact h2
    rw [show 62 - M = (62 - (M + 1)) + 1 by omega]
    refine LpB.go (fun K hK => ?_)
    dsimp only
    unfold w_X8_takes_33
    rw [N900, if_neg (by rw [jI_lt (by decide) (by omega)]; omega)]
    by_cases z0 : t'.1 = 0
    · rw [if_pos (hi3.mpr z0)]
      unfold w_X8_takes_129
      rw [c3.2.2.2.2.2.1, if_pos (by decide), c3.2.2.1]
      refine ⟨ha, ?_⟩
      have e4 : Eo (SSs a) τ3 (si τ3 a 5 1) := Eo.si (Or.inr (Or.inl ⟨Nat.le_refl a, by omega⟩))
      have g4 : ∀ i, 1 ≤ i → gi (si τ3 a 5 1) (a + i) = gi τ3 (a + i) := fun i i1 => funext (fun k => by rw [gi_si_a (by omega)])
      refine k1 z t' ((bS_r hz).trans (if_pos z0)) _ M ((up τ3 e3).tr e4.er) gi_si_s (by rw [gi_si_k (by decide)]; exact c3.2.2.2.2.2.2.1) hs3 (by rw [gi_si_k (by decide)]; exact c3.2.2.2.2.2.2.2) (by omega) y0 y2 ?_
      rw [g4 1 (by decide), g4 2 (by decide), g4 3 (by decide), g4 4 (by decide), g4 5 (by decide)]
      exact hlay
    · rw [if_neg (fun q => z0 (hi3.mp q))]
      have z21 : isKw t' 21 := by
        rcases hend with q | q
        · exact absurd q z0
        · exact q
      refine c_isKeyword (i := 21) h3.2.2.1 h3.2.2.2.1 (by decide) (fun _ => ?_) (fun y => absurd z21 y)
      rw [if_neg one0]
      unfold w_X8_readEnd
      rw [c3.2.2.2.2.2.1, if_neg (by decide)]
      refine c_fail (f := 2) h3.2.2.1 h3.2.2.2.1 (fun τ4 e4 g9 g10 => ⟨Or.inl rfl, ?_⟩)
      try dsimp only
      unfold w_X8_takes_89
      rw [if_pos rfl]
      exact k0 (fkF t' 2, t'.2.1) ((bS_r hz).trans (if_neg z0)) τ4 ((up τ3 e3).tr (e4.mo (fun x k q => by unfold STf at q; unfold SSs; omega)).er) g9 g10
theorem c_copyS {σ : Sto} {a0 a1 : Nat} {y : YS} {M : Nat} {P : Sto → Prop} (h0 : isStory a0) (h1 : isStory a1) (hne : a0 ≠ a1) (g5 : gi σ a1 5 = 1) (g6 : gi σ a1 6 = nI y.2) (g7 : gi σ a1 7 = nI M)
    (k : ∀ τ, Eo (fun x _ => a0 ≤ x ∧ x ≤ a0 + 5) σ τ → gi τ a0 5 = 1 → gi τ a0 6 = nI y.2 → gi τ a0 7 = nI M → (∀ i k, 1 ≤ i → i ≤ 5 → k < 60 → gi τ (a0 + i) k = gi σ (a1 + i) k) → P τ) : w_X7_copyFrom a0 a1 σ P := by
  have r0 := sty h0
  have r1 := sty h1
  unfold w_X7_copyFrom
  refine ⟨h1, h0, ?_⟩
  intro σ3 e3
  have f3 : Eo (fun x _ => a0 ≤ x ∧ x ≤ a0 + 5) σ σ3 := by
    rw [e3]
    exact ((((Eo.cpi (fun _ => ⟨by omega, by omega⟩)).tr (Eo.cpi (fun _ => ⟨by omega, by omega⟩))).tr (Eo.cpi (fun _ => ⟨by omega, by omega⟩))).tr (Eo.cpi (fun _ => ⟨by omega, by omega⟩))).tr (Eo.cpi (fun _ => ⟨by omega, by omega⟩))
  have out : ∀ x y, ¬ (a0 ≤ x ∧ x ≤ a0 + 5) → gi σ3 x y = gi σ x y := fun x y hx => f3.1 x y hx
  have cell : ∀ i k, 1 ≤ i → i ≤ 5 → k < 60 → gi σ3 (a0 + i) k = gi σ (a1 + i) k := fun i k i1 i2 k1 => by
    rw [e3]
    rcases (show i = 1 ∨ i = 2 ∨ i = 3 ∨ i = 4 ∨ i = 5 by omega) with rfl | rfl | rfl | rfl | rfl
    · simp (disch := omega) only [cpi_ne, cpi_eq]
    · simp (disch := omega) only [cpi_ne, cpi_eq]
    · simp (disch := omega) only [cpi_ne, cpi_eq]
    · simp (disch := omega) only [cpi_ne, cpi_eq]
    · simp (disch := omega) only [cpi_ne, cpi_eq]
  have o5 : gi σ3 a1 5 = 1 := by rw [out _ _ (by omega)]; exact g5
  have o6 : gi σ3 a1 6 = nI y.2 := by rw [out _ _ (by omega)]; exact g6
  have o7 : gi σ3 a1 7 = nI M := by rw [out _ _ (by omega)]; exact g7
  refine ⟨Or.inr o5, ?_⟩
  rw [o5]
  rintro _ rfl
  rw [gi_si_a (by omega), o6]
  rintro _ rfl
  rw [gi_si_a (by omega), gi_si_a (by omega), o7]
  refine k _ (((f3.tr (Eo.si ⟨by omega, by omega⟩)).tr (Eo.si ⟨by omega, by omega⟩)).tr (Eo.si ⟨by omega, by omega⟩)) ?_ ?_ gi_si_s (fun i k i1 i2 k1 => ?_)
  · rw [gi_si_k (by decide), gi_si_k (by decide), gi_si_s]
  · rw [gi_si_k (by decide), gi_si_s]
  · rw [gi_si_a (by omega), gi_si_a (by omega), gi_si_a (by omega)]
    exact cell i k i1 i2 k1
/-- the frame of centuries in the class: draft d, now w -/
def SCs (d w x k : Nat) : Prop := (x = 10 ∧ 2 ≤ k ∧ k ≤ 10) ∨ (d + 8 ≤ x ∧ x ≤ d + 13) ∨ (w + 8 ≤ x ∧ x ≤ w + 13) ∨ (x = 42 ∧ k = 2) ∨ x = 43 ∨ (x = 1 ∧ (k = 15 ∨ k = 18 ∨ k = 19))
theorem c_centuries {σ : Sto} {c m0 : Nat → Nat} {nm : Nat → Int64} {T : Nat → Nat} {f N : Nat} {x : Int32} {P : Int32 → Sto → Prop} (h : KW N σ c) (ok : OK c) (hd : (gr σ 1 11 = 13 ∧ gr σ 1 12 = 27) ∨ (gr σ 1 11 = 27 ∧ gr σ 1 12 = 13)) (hcf : CF σ (gr σ 1 11) c nm) (hk : NmK c nm) (hp : PC σ f T) (hK : KC σ) (h0 : m0 0 = c 0) (h2 : m0 2 = c 2)
    (k5 : ¬ (¬ x < 0 ∧ ¬ nI f < x ∧ ¬ nI 300 < x) → P (-1) (si σ 1 15 5))
    (k1 : ∀ n, x = nI n → n ≤ f → n ≤ 300 → ∀ y t', stA T n c nm m0 = Sum.inr (y, t') → y.2 ≤ 30 → ∀ τ, Er (SCs (gr σ 1 12) (gr σ 1 11)) RSs σ τ → KW N τ (csF c y) → CF τ (gr σ 1 11) (csF c y) nm → gi τ 1 15 = 0 → gi τ 10 2 = 0 → gi τ 1 18 = 0 → gi τ 1 19 = -1 → P (nI y.2) τ)
    (k0 : ∀ n, x = nI n → n ≤ f → n ≤ 300 → ∀ e, stA T n c nm m0 = Sum.inl e → ∀ τ, Er (SCs (gr σ 1 12) (gr σ 1 11)) RSs σ τ → KW N τ c → CF τ (gr σ 1 11) c nm → gi τ 1 15 = 10 → gi τ 10 2 = 0 → gi τ 1 18 = nI e.1 → gi τ 1 19 = nI e.2 → P (-1) τ) : w_X11_centuries x σ P := by
  have hf := hp.2.1
  have hdc : isCity (gr σ 1 12) := by unfold isCity; omega
  have hwc : isCity (gr σ 1 11) := by unfold isCity; omega
  have out : ¬ (¬ x < 0 ∧ ¬ nI f < x ∧ ¬ nI 300 < x) → w_X11_centuries_22 σ P := fun q => by
    unfold w_X11_centuries_22 w_X11_refuse
    exact k5 q
  unfold w_X11_centuries
  by_cases h1 : x < 0
  · rw [if_pos h1]; exact out (fun q => q.1 h1)
  rw [if_neg h1, hp.1]
  by_cases h3 : nI f < x
  · rw [if_pos h3]; exact out (fun q => q.2.1 h3)
  rw [if_neg h3, show (300 : Int32) = nI 300 from rfl]
  by_cases h4 : nI 300 < x
  · rw [if_neg (fun q => i_le.mp q h4)]; exact out (fun q => q.2.2 h4)
  rw [if_pos (i_le.mpr h4)]
  obtain ⟨n, hn, rfl⟩ := nI_upto (by omega) h1 h3
  have hn3 : n ≤ 300 := by
    rw [jI_lt (by omega) (by omega)] at h4
    omega
  generalize ha : gr σ 1 12 = a at *
  generalize hb : gr σ 1 11 = b at *
  refine ⟨hdc, hwc, c_takesS hdc.st hwc hp hK hn hcf.2.1 hk h0 h2 (fun y t' hy τ M e g5 g6 g30 g7 g60 y0 y2 lay => ?_) (fun er he τ e g9 g10 => ?_)⟩
  · refine c_tell1 ?_
    rw [if_neg one0]
    generalize hs1 : si (si (si τ 1 18 0) 1 19 (-1)) 10 2 0 = τ1
    have e1 : Eo (fun x k => (x = 10 ∧ k = 2) ∨ (x = 1 ∧ (k = 18 ∨ k = 19))) τ τ1 := by
      rw [← hs1]
      exact ((Eo.si (Or.inr ⟨rfl, Or.inl rfl⟩)).tr (Eo.si (Or.inr ⟨rfl, Or.inr rfl⟩))).tr (Eo.si (Or.inl ⟨rfl, rfl⟩))
    have q18 : gi τ1 1 18 = 0 := by rw [← hs1, gi_si_a (by decide), gi_si_k (by decide), gi_si_s]
    have q19 : gi τ1 1 19 = -1 := by rw [← hs1, gi_si_a (by decide), gi_si_s]
    have q2 : gi τ1 10 2 = 0 := by rw [← hs1, gi_si_s]
    have r11 : gr τ1 1 11 = b := by rw [e1.2.2, e.2.2 _ _ (by unfold RSs; omega)]; exact hb
    have r12 : gr τ1 1 12 = a := by rw [e1.2.2, e.2.2 _ _ (by unfold RSs; omega)]; exact ha
    rw [r11, r12]
    refine ⟨hwc, hdc, c_copyS (y := y) (M := M) hwc.st hdc.st (by omega) (by rw [e1.1 _ _ (by omega)]; exact g5) (by rw [e1.1 _ _ (by omega)]; exact g6) (by rw [e1.1 _ _ (by omega)]; exact g7) (fun τ2 e2 p5 p6 p7 par => ?_)⟩
    have s11 : gr τ2 1 11 = b := by rw [e2.2.2]; exact r11
    rw [s11, p6]
    refine ⟨hwc, ?_⟩
    unfold w_X11_fine
    have ef : Er (fun x k => SSs (a + 8) x k ∨ (x = 10 ∧ k = 2) ∨ (x = 1 ∧ (k = 15 ∨ k = 18 ∨ k = 19)) ∨ (b + 8 ≤ x ∧ x ≤ b + 8 + 5)) RSs σ (si τ2 1 15 0) := (((e.mo (fun x k q => Or.inl q) (fun _ _ q => q)).tr (e1.mo (fun x k q => by omega)).er).tr (e2.mo (fun x k q => by omega)).er).tr (Eo.si (by omega)).er
    have er3 : Er (SCs a b) RSs σ (si τ2 1 15 0) := ef.mo (fun x k q => by unfold SSs at q; unfold SCs; omega) (fun _ _ q => q)
    have kc : ∀ j, j < 142 → csF c y j = c j := fun j hj => csF_lo hj
    have crb : CR (si τ2 1 15 0) b c := by
      obtain ⟨w0, w1, w2, w3, w4, w5, w6⟩ := hcf.1
      have g : ∀ i k, i ≤ 7 → gi (si τ2 1 15 0) (b + i) k = gi σ (b + i) k := fun i k hi => ef.1 _ _ (by unfold SSs; omega)
      refine ⟨fun k hk => ?_, fun k hk => by rw [g _ _ (by decide)]; exact w1 k hk, fun k hk => by rw [g _ _ (by decide)]; exact w2 k hk, fun k hk => by rw [g _ _ (by decide)]; exact w3 k hk, fun k hk => by rw [g _ _ (by decide)]; exact w4 k hk, fun v hv k hk => by rw [g _ _ (by decide)]; exact w5 v hv k hk, fun k hk => by rw [g _ _ (by decide)]; exact w6 k hk⟩
      have := g 0 (8 + k) (by decide)
      rw [Nat.add_zero b] at this
      rw [this]; exact w0 k hk
    have kw : KW N (si τ2 1 15 0) c := by
      obtain ⟨k1', k2', k3', k4', k5', k6', ⟨hc, -, hm, s, hs1', hsN, hst, hkn⟩, ⟨hbc, -⟩, bb, hb1, hbN, hbt, hbk⟩ := h
      have rr : ∀ p k, ¬ RSs p k → gr (si τ2 1 15 0) p k = gr σ p k := fun p k hpk => ef.2.2 p k hpk
      have ri : ∀ p k, (p = 88 ∨ p = 89 ∨ p = 90 ∨ p = 91) → gi (si τ2 1 15 0) p k = gi σ p k := fun p k hpk => ef.1 _ _ (by unfold SSs; omega)
      rw [hb] at k2' k3' k4' k5' k6'
      refine ⟨by rw [rr _ _ (by unfold RSs; omega), hb]; exact hwc, by rw [rr _ _ (by unfold RSs; omega), rr _ _ (by unfold RSs; omega), hb]; exact k2', by rw [rr _ _ (by unfold RSs; omega), rr _ _ (by unfold RSs; omega), hb]; exact k3', by rw [rr _ _ (by unfold RSs; omega), rr _ _ (by unfold RSs; omega), hb]; exact k4', by rw [rr _ _ (by unfold RSs; omega), rr _ _ (by unfold RSs; omega), hb]; exact k5', by rw [rr _ _ (by unfold RSs; omega), rr _ _ (by unfold RSs; omega), hb]; exact k6', ⟨by rw [rr _ _ (by unfold RSs; omega)]; exact hc, by rw [rr _ _ (by unfold RSs; omega), k2']; exact crb, by rw [ri _ _ (by omega)]; exact hm, s, hs1', hsN, by rw [ri _ _ (by omega)]; exact hst, fun g hg => by rw [ri _ _ (by omega)]; exact hkn g hg⟩, ⟨by rw [rr _ _ (by unfold RSs; omega)]; exact hbc, by rw [rr _ _ (by unfold RSs; omega), k3']; exact crb⟩, bb, hb1, hbN, by rw [ri _ _ (by omega)]; exact hbt, fun o ho => by rw [ri _ _ (by omega)]; exact hbk o ho⟩
    have cf : CF (si τ2 1 15 0) b (csF c y) nm := by
      refine ⟨crb.cg ok kc, fun k hk => by rw [ef.2.1 _ _ (by unfold SSs; omega)]; exact hcf.2.1 k hk, ?_⟩
      have gs : ∀ i k, 1 ≤ i → i ≤ 5 → k < 60 → gi (si τ2 1 15 0) (b + 8 + i) k = gi τ (a + 8 + i) k := fun i k i1 i2 k1 => by
        rw [gi_si_a (by omega), par i k i1 i2 k1, e1.1 _ _ (by omega)]
      refine ⟨by rw [csF_142, gi_si_a (by omega)]; exact p5, by rw [csF_142]; exact Nat.le_refl 1, by rw [csF_143, gi_si_a (by omega)]; exact p6, by rw [csF_143]; exact g30, M, by rw [gi_si_a (by omega)]; exact p7, g60, ?_⟩
      rw [csF_143]
      exact Lay.rg (by rw [kc 0 (by decide), y0]) (by rw [kc 2 (by decide), y2]) _ _ _ _ _ _ lay (fun i i1 i2 => csF_st (by omega) i2) (fun k k1 k2 => ⟨gs 1 k (by decide) (by decide) (by omega), gs 2 k (by decide) (by decide) (by omega), gs 3 k (by decide) (by decide) (by omega), gs 4 k (by decide) (by decide) (by omega), gs 5 k (by decide) (by decide) (by omega)⟩)
    refine k1 n rfl hn hn3 y t' hy g30 _ er3 (kw.cg ok kc) cf gi_si_s ?_ ?_ ?_
    · rw [gi_si_a (by decide), e2.1 _ _ (by omega)]; exact q2
    · rw [gi_si_k (by decide), e2.1 _ _ (by omega)]; exact q18
    · rw [gi_si_k (by decide), e2.1 _ _ (by omega)]; exact q19
  · refine c_tell0 ?_
    rw [if_pos rfl, g9, g10]
    unfold w_X11_refuse
    generalize hs1 : si (si (si (si τ 1 18 (nI er.1)) 1 19 (nI er.2)) 10 2 0) 1 15 10 = τ1
    have e1 : Eo (fun x k => (x = 10 ∧ k = 2) ∨ (x = 1 ∧ (k = 15 ∨ k = 18 ∨ k = 19))) τ τ1 := by
      rw [← hs1]
      exact (((Eo.si (Or.inr ⟨rfl, Or.inr (Or.inl rfl)⟩)).tr (Eo.si (Or.inr ⟨rfl, Or.inr (Or.inr rfl)⟩))).tr (Eo.si (Or.inl ⟨rfl, rfl⟩))).tr (Eo.si (Or.inr ⟨rfl, Or.inl rfl⟩))
    have er2 : Er (fun x k => SSs (a + 8) x k ∨ (x = 10 ∧ k = 2) ∨ (x = 1 ∧ (k = 15 ∨ k = 18 ∨ k = 19))) RSs σ τ1 := (e.mo (fun _ _ q => Or.inl q) (fun _ _ q => q)).tr (e1.mo (fun x k q => Or.inr q)).er
    have er1 : Er (SCs a b) RSs σ τ1 := er2.mo (fun x k q => by unfold SSs at q; unfold SCs; omega) (fun _ _ q => q)
    have kw : KW N τ1 c := h.er er2 (fun p k hp' q => by unfold SSs at q; omega) (fun i k hi q => by rw [hb] at q; unfold SSs at q; omega) (by unfold RSs; omega) (fun p k q => by unfold isRf at q; unfold RSs; omega)
    have cf : CF τ1 b c nm := by
      have g : ∀ i k, i ≤ 13 → gi τ1 (b + i) k = gi σ (b + i) k := fun i k hi => er2.1 _ _ (by unfold SSs; omega)
      obtain ⟨w0, w1, w2, w3, w4, w5, w6⟩ := hcf.1
      refine ⟨⟨fun k hk => ?_, fun k hk => by rw [g _ _ (by decide)]; exact w1 k hk, fun k hk => by rw [g _ _ (by decide)]; exact w2 k hk, fun k hk => by rw [g _ _ (by decide)]; exact w3 k hk, fun k hk => by rw [g _ _ (by decide)]; exact w4 k hk, fun v hv k hk => by rw [g _ _ (by decide)]; exact w5 v hv k hk, fun k hk => by rw [g _ _ (by decide)]; exact w6 k hk⟩, fun k hk => by rw [er2.2.1 _ _ (by unfold SSs; omega)]; exact hcf.2.1 k hk, hcf.2.2.cp (g 8 _ (by decide)) (g 8 _ (by decide)) (g 8 _ (by decide)) (fun k hk => ⟨g 9 _ (by decide), g 10 _ (by decide), g 11 _ (by decide), g 12 _ (by decide), g 13 _ (by decide)⟩)⟩
      have := g 0 (8 + k) (by decide)
      rw [Nat.add_zero b] at this
      rw [this]; exact w0 k hk
    refine k0 n rfl hn hn3 er he τ1 er1 kw cf ?_ ?_ ?_ ?_
    · rw [← hs1, gi_si_s]
    · rw [← hs1, gi_si_a (by decide), gi_si_s]
    · rw [← hs1, gi_si_k (by decide), gi_si_a (by decide), gi_si_k (by decide), gi_si_s]
    · rw [← hs1, gi_si_k (by decide), gi_si_a (by decide), gi_si_s]
