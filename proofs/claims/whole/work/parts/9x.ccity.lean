/-! ===== texts: a city read by the class ===== -/
theorem DrC.cf {σ : Sto} {a l : Nat} {c : Nat → Nat} {nm : Nat → Int64} (h : DrC σ a c nm l) (hw : DW c nm l) : CF σ a c nm := by
  obtain ⟨ok, -, -, -, h142, h143, -⟩ := hw
  have n0 := ok.n0
  have n1 := ok.n1
  have n2 := ok.n2
  have n3 := ok.n3
  have g : ∀ i j k, i < 142 → dok c i → lA i = j → lK i = k → gi σ (a + j) k = nI (c i) := fun i j k hi hd e1 e2 => by
    rw [← e1, ← e2]; exact h.2.1 i hi hd
  have lc := lcs
  refine ⟨⟨fun k hk => h.f hk, fun t ht => ?_, fun m hm => ?_, fun m hm => ?_, fun w hw => ?_, fun v hv t ht => ?_, fun t ht => ?_⟩, h.2.2.2.1, ?_⟩
  · have := lcs (8 + t)
    exact g _ 2 t (by omega) ⟨by omega, by omega⟩ (by omega) (by omega)
  · have := lcs (20 + m)
    exact g _ 3 m (by omega) ⟨by omega, by omega⟩ (by omega) (by omega)
  · have := lcs (36 + m)
    exact g _ 4 m (by omega) ⟨by omega, by omega⟩ (by omega) (by omega)
  · have := lcs (52 + w)
    exact g _ 5 w (by omega) ⟨by omega, by omega⟩ (by omega) (by omega)
  · have := lcs (58 + 12 * v + t)
    exact g _ 6 (12 * v + t) (by omega) ⟨by omega, by omega⟩ (by omega) (by omega)
  · have := lcs (130 + t)
    exact g _ 7 t (by omega) ⟨by omega, by omega⟩ (by omega) (by omega)
  · refine ⟨by rw [h142]; exact h.2.2.2.2.1, by omega, by rw [h143]; exact h.2.2.2.2.2.1, by omega, 0, h.2.2.2.2.2.2, by decide, ?_⟩
    rw [h143]
    unfold Lay
    exact Or.inl ⟨rfl, rfl⟩
theorem KW.er {N : Nat} {S R : Nat → Nat → Prop} {σ τ : Sto} {c : Nat → Nat} (h : KW N σ c) (e : Er S R σ τ) (hs : ∀ a k, (a = 88 ∨ a = 89 ∨ a = 90 ∨ a = 91) → ¬ S a k) (hcc : ∀ i k, i ≤ 13 → ¬ S (gr σ 1 11 + i) k) (hr11 : ¬ R 1 11) (hrf : ∀ a k, isRf a k → ¬ R a k) : KW N τ c := by
  have hcr := h.cr
  obtain ⟨h1, h2, h3, h4, h5, h6, ⟨hc, -, hm, s, hs1, hsN, hst, hkn⟩, ⟨hbc, -⟩, b, hb1, hbN, hbt, hbk⟩ := h
  have r11 := e.2.2 1 11 hr11
  have r88 := e.2.2 88 1 (hrf _ _ (by unfold isRf; omega))
  have r90 := e.2.2 90 3 (hrf _ _ (by unfold isRf; omega))
  have r93 := e.2.2 93 5 (hrf _ _ (by unfold isRf; omega))
  have r95 := e.2.2 95 3 (hrf _ _ (by unfold isRf; omega))
  have r97 := e.2.2 97 4 (hrf _ _ (by unfold isRf; omega))
  have hr : CR τ (gr σ 1 11) c := by
    obtain ⟨g0, g1, g2, g3, g4, g5, g6⟩ := hcr
    have g : ∀ i k, i ≤ 13 → gi τ (gr σ 1 11 + i) k = gi σ (gr σ 1 11 + i) k := fun i k hi => e.1 _ _ (hcc i k hi)
    refine ⟨fun k hk => ?_, fun k hk => ?_, fun k hk => ?_, fun k hk => ?_, fun k hk => ?_, fun v hv k hk => ?_, fun k hk => ?_⟩
    · have := g 0 (8 + k) (by decide)
      rw [Nat.add_zero (gr σ 1 11)] at this
      rw [this]; exact g0 k hk
    · rw [g _ _ (by decide)]; exact g1 k hk
    · rw [g _ _ (by decide)]; exact g2 k hk
    · rw [g _ _ (by decide)]; exact g3 k hk
    · rw [g _ _ (by decide)]; exact g4 k hk
    · rw [g _ _ (by decide)]; exact g5 v hv k hk
    · rw [g _ _ (by decide)]; exact g6 k hk
  refine ⟨by rw [r11]; exact h1, by rw [r88, r11]; exact h2, by rw [r90, r11]; exact h3, by rw [r93, r11]; exact h4, by rw [r95, r11]; exact h5, by rw [r97, r11]; exact h6, ⟨by rw [r88]; exact hc, by rw [r88, h2]; exact hr, by rw [e.1 _ _ (hs _ _ (by omega))]; exact hm, s, hs1, hsN, by rw [e.1 _ _ (hs _ _ (by omega))]; exact hst, fun g hg => by rw [e.1 _ _ (hs _ _ (by omega))]; exact hkn g hg⟩, ⟨by rw [r90]; exact hbc, by rw [r90, h3]; exact hr⟩, b, hb1, hbN, by rw [e.1 _ _ (hs _ _ (by omega))]; exact hbt, fun o ho => by rw [e.1 _ _ (hs _ _ (by omega))]; exact hbk o ho⟩
/-- the frame of a city read by the class -/
def SCt (a x k : Nat) : Prop := (x = 10 ∧ 2 ≤ k ∧ k ≤ 10) ∨ SCi a x k ∨ (x = 41 ∧ k = 2) ∨ (x = 1 ∧ (k = 15 ∨ k = 18 ∨ k = 19)) ∨ STn x k
def RCt (x k : Nat) : Prop := (x = 41 ∧ k = 1) ∨ (x = 1 ∧ (k = 11 ∨ k = 12)) ∨ isRf x k
theorem STaCt {a x k : Nat} (h : STa a x k) : SCt a x k := by
  rcases h with h | h | h
  · exact Or.inl ⟨h.1, by omega, h.2.2⟩
  · exact Or.inr (Or.inl h)
  · exact Or.inr (Or.inr (Or.inl h))
theorem RTaCt {x k : Nat} (h : RTa x k) : RCt x k := Or.inl h
theorem c_tell0 {σ : Sto} {P : Sto → Prop} (k : P (si (si (si σ 1 18 (gi σ 10 9)) 1 19 (gi σ 10 10)) 10 2 0)) : w_X11_tellFault 0 σ P := by
  unfold w_X11_tellFault w_X11_tellFault_16
  rw [if_pos rfl, if_pos rfl]
  rintro _ rfl
  unfold w_X11_tellFault_35 w_X9_empty
  rw [gi_si_a (by decide)]
  exact k
theorem c_tell1 {σ : Sto} {P : Sto → Prop} (k : P (si (si (si σ 1 18 0) 1 19 (-1)) 10 2 0)) : w_X11_tellFault 1 σ P := by
  unfold w_X11_tellFault w_X11_tellFault_16
  rw [if_neg one0, if_neg one0]
  unfold w_X11_tellFault_35 w_X9_empty
  exact k
theorem c_city {σ : Sto} {c : Nat → Nat} {T : Nat → Nat} {f N : Nat} {x : Int32} {P : Int32 → Sto → Prop} (h : KW N σ c) (hN : N ≤ 2000) (hd : (gr σ 1 11 = 13 ∧ gr σ 1 12 = 27) ∨ (gr σ 1 11 = 27 ∧ gr σ 1 12 = 13)) (hp : PC σ f T) (hK : KC σ)
    (k5 : ¬ (¬ x < 0 ∧ ¬ nI f < x) → P (-1) (si σ 1 15 5))
    (k1 : ∀ n, x = nI n → n ≤ f → ∀ y t', ctA T n = Sum.inr (y, t') → ∀ τ, Er (SCt (gr σ 1 12)) RCt σ τ → DW y.1 y.2.1 y.2.2 → KW (N + 1) τ y.1 → CF τ (gr σ 1 12) y.1 y.2.1 → gr τ 1 11 = gr σ 1 12 → gr τ 1 12 = gr σ 1 11 → gi τ 1 15 = 0 → gi τ 10 2 = 0 → gi τ 1 18 = 0 → gi τ 1 19 = -1 → P (nI (y.1 0)) τ)
    (k0 : ∀ n, x = nI n → n ≤ f → ∀ e, ctA T n = Sum.inl e → ∀ τ, Er (SCt (gr σ 1 12)) RTa σ τ → KW N τ c → gi τ 1 15 = 10 → gi τ 10 2 = 0 → gi τ 1 18 = nI e.1 → gi τ 1 19 = nI e.2 → P (-1) τ) : w_X11_city x σ P := by
  have hf := hp.2.1
  have hdc : isCity (gr σ 1 12) := by unfold isCity; omega
  have out : ¬ (¬ x < 0 ∧ ¬ nI f < x) → w_X11_city_15 σ P := fun q => by
    unfold w_X11_city_15 w_X11_refuse
    exact k5 q
  unfold w_X11_city
  by_cases h1 : x < 0
  · rw [if_pos h1]; exact out (fun q => q.1 h1)
  rw [if_neg h1, hp.1]
  by_cases h2 : nI f < x
  · rw [if_neg (fun q => i_le.mp q h2)]; exact out (fun q => q.2 h2)
  rw [if_pos (i_le.mpr h2)]
  obtain ⟨n, hn, rfl⟩ := nI_upto (by omega) h1 h2
  have hd0 := hdc.rg
  generalize ha : gr σ 1 12 = a at *
  generalize hb : gr σ 1 11 = b at *
  refine ⟨hdc, c_takes hdc hp hK hn (fun y t' hy τ e hdr hw => ?_) (fun er he τ e g9 g10 => ?_)⟩
  · refine c_tell1 ?_
    rw [if_neg one0]
    generalize hs1 : si (si (si τ 1 18 0) 1 19 (-1)) 10 2 0 = τ1
    have e1 : Eo (fun x k => (x = 10 ∧ k = 2) ∨ (x = 1 ∧ (k = 18 ∨ k = 19))) τ τ1 := by
      rw [← hs1]
      exact ((Eo.si (Or.inr ⟨rfl, Or.inl rfl⟩)).tr (Eo.si (Or.inr ⟨rfl, Or.inr rfl⟩))).tr (Eo.si (Or.inl ⟨rfl, rfl⟩))
    have q18 : gi τ1 1 18 = 0 := by rw [← hs1, gi_si_a (by decide), gi_si_k (by decide), gi_si_s]
    have q19 : gi τ1 1 19 = -1 := by rw [← hs1, gi_si_a (by decide), gi_si_s]
    have q2 : gi τ1 10 2 = 0 := by rw [← hs1, gi_si_s]
    have r11 : gr τ1 1 11 = b := by rw [e1.2.2, e.2.2 _ _ (by unfold RTa; omega)]; exact hb
    have r12 : gr τ1 1 12 = a := by rw [e1.2.2, e.2.2 _ _ (by unfold RTa; omega)]; exact ha
    rw [r11, r12]
    have hbc : isCity b := by unfold isCity; omega
    refine ⟨hbc, hdc, ?_⟩
    have cf : CF τ1 a y.1 y.2.1 := (hdr.cf hw).eo e1 (fun i k hi => by omega)
    generalize hs2 : sr (sr τ1 1 11 a) 1 12 b = τ2
    have t11 : gr τ2 1 11 = a := by rw [← hs2, gr_sr_n (by decide), gr_sr_s]
    have t12 : gr τ2 1 12 = b := by rw [← hs2, gr_sr_s]
    have gi2 : ∀ p k, gi τ2 p k = gi τ1 p k := fun p k => by rw [← hs2]; rfl
    have gl2 : ∀ p k, gl τ2 p k = gl τ1 p k := fun p k => by rw [← hs2]; rfl
    have cf2 : CF τ2 a y.1 y.2.1 := ⟨by
        obtain ⟨g0, g1, g2, g3, g4, g5, g6⟩ := cf.1
        exact ⟨fun k hk => by rw [gi2]; exact g0 k hk, fun k hk => by rw [gi2]; exact g1 k hk, fun k hk => by rw [gi2]; exact g2 k hk, fun k hk => by rw [gi2]; exact g3 k hk, fun k hk => by rw [gi2]; exact g4 k hk, fun v hv k hk => by rw [gi2]; exact g5 v hv k hk, fun k hk => by rw [gi2]; exact g6 k hk⟩,
      fun k hk => by rw [gl2]; exact cf.2.1 k hk, cf.2.2.cp (gi2 _ _) (gi2 _ _) (gi2 _ _) (fun k hk => ⟨gi2 _ _, gi2 _ _, gi2 _ _, gi2 _ _, gi2 _ _⟩)⟩
    have stp : STP N τ2 := h.stp.eo (fun p k hp' => by
      rw [gi2, e1.1 _ _ (by omega), e.1 _ _ (by unfold STa SCi; omega)])
    refine c_turnToNow (c := y.1) (by rw [t11]; exact hdc) (by rw [t11]; exact cf2.1) hw.1 stp hN (fun τ3 a1 a2 a3 a4 kw => ?_)
    have u11 : gr τ3 1 11 = a := by rw [a3 _ _ (by unfold isRf; omega)]; exact t11
    have u12 : gr τ3 1 12 = b := by rw [a3 _ _ (by unfold isRf; omega)]; exact t12
    refine ⟨by rw [u11]; exact hdc, ?_⟩
    have f0 : gi τ3 (gr τ3 1 11) 8 = nI (y.1 0) := kw.f (k := 0) (by decide)
    rw [f0]
    unfold w_X11_fine
    have er3 : Er (SCt a) RCt σ (si τ3 1 15 0) := by
      have z1 : Er (SCt a) RCt σ τ := e.mo (fun _ _ => STaCt) (fun _ _ => RTaCt)
      have z2 : Er (SCt a) RCt τ τ1 := (e1.mo (fun x k q => by unfold SCt; omega)).er
      have z3 : Er (SCt a) RCt τ1 τ2 := ⟨fun p k _ => gi2 p k, fun p k _ => gl2 p k, fun p k hr => by
        rw [← hs2, gr_sr_n (fun q => hr (by unfold RCt; omega)), gr_sr_n (fun q => hr (by unfold RCt; omega))]⟩
      have z4 : Er (SCt a) RCt τ2 τ3 := ⟨fun p k hs => a1 p k (fun q => hs (Or.inr (Or.inr (Or.inr (Or.inr q))))), fun p k _ => a2 p k, fun p k hr => a3 p k (fun q => hr (Or.inr (Or.inr q)))⟩
      have z5 : Er (SCt a) RCt τ3 (si τ3 1 15 0) := (Eo.si (by unfold SCt; omega)).er
      exact (((z1.tr z2).tr z3).tr z4).tr z5
    have cf3 : CF (si τ3 1 15 0) a y.1 y.2.1 := by
      have g : ∀ i k, i ≤ 13 → gi (si τ3 1 15 0) (a + i) k = gi τ2 (a + i) k := fun i k hi => by rw [gi_si_a (by omega), a1 _ _ (by unfold STn; omega)]
      obtain ⟨g0, g1, g2, g3, g4, g5, g6⟩ := cf2.1
      refine ⟨⟨fun k hk => ?_, fun k hk => by rw [g _ _ (by decide)]; exact g1 k hk, fun k hk => by rw [g _ _ (by decide)]; exact g2 k hk, fun k hk => by rw [g _ _ (by decide)]; exact g3 k hk, fun k hk => by rw [g _ _ (by decide)]; exact g4 k hk, fun v hv k hk => by rw [g _ _ (by decide)]; exact g5 v hv k hk, fun k hk => by rw [g _ _ (by decide)]; exact g6 k hk⟩,
        fun k hk => by rw [gl_si, a2]; exact cf2.2.1 k hk, cf2.2.2.cp (g 8 _ (by decide)) (g 8 _ (by decide)) (g 8 _ (by decide)) (fun k hk => ⟨g 9 _ (by decide), g 10 _ (by decide), g 11 _ (by decide), g 12 _ (by decide), g 13 _ (by decide)⟩)⟩
      have := g 0 (8 + k) (by decide)
      rw [Nat.add_zero a] at this
      rw [this]; exact g0 k hk
    refine k1 n rfl hn y t' hy _ er3 hw kw.st cf3 u11 u12 gi_si_s ?_ ?_ ?_
    · rw [gi_si_a (by decide), a1 _ _ (by unfold STn; omega), gi2]; exact q2
    · rw [gi_si_k (by decide), a1 _ _ (by unfold STn; omega), gi2]; exact q18
    · rw [gi_si_k (by decide), a1 _ _ (by unfold STn; omega), gi2]; exact q19
  · refine c_tell0 ?_
    rw [if_pos rfl, g9, g10]
    unfold w_X11_refuse
    generalize hs1 : si (si (si (si τ 1 18 (nI er.1)) 1 19 (nI er.2)) 10 2 0) 1 15 10 = τ1
    have e1 : Eo (fun x k => (x = 10 ∧ k = 2) ∨ (x = 1 ∧ (k = 15 ∨ k = 18 ∨ k = 19))) τ τ1 := by
      rw [← hs1]
      exact (((Eo.si (Or.inr ⟨rfl, Or.inr (Or.inl rfl)⟩)).tr (Eo.si (Or.inr ⟨rfl, Or.inr (Or.inr rfl)⟩))).tr (Eo.si (Or.inl ⟨rfl, rfl⟩))).tr (Eo.si (Or.inr ⟨rfl, Or.inl rfl⟩))
    have er1 : Er (SCt a) RTa σ τ1 := (e.mo (fun _ _ => STaCt) (fun _ _ q => q)).tr (e1.mo (fun x k q => by unfold SCt; omega)).er
    have er2 : Er (fun x k => STa a x k ∨ (x = 10 ∧ k = 2) ∨ (x = 1 ∧ (k = 15 ∨ k = 18 ∨ k = 19))) RTa σ τ1 := (e.mo (fun _ _ q => Or.inl q) (fun _ _ q => q)).tr (e1.mo (fun x k q => Or.inr q)).er
    have kw : KW N τ1 c := h.er er2 (fun p k hp' q => by unfold STa SCi at q; omega) (fun i k hi q => by rw [hb] at q; unfold STa SCi at q; omega) (by unfold RTa; omega) (fun p k q => by unfold isRf at q; unfold RTa; omega)
    refine k0 n rfl hn er he τ1 er1 kw ?_ ?_ ?_ ?_
    · rw [← hs1, gi_si_s]
    · rw [← hs1, gi_si_a (by decide), gi_si_s]
    · rw [← hs1, gi_si_k (by decide), gi_si_a (by decide), gi_si_k (by decide), gi_si_s]
    · rw [← hs1, gi_si_k (by decide), gi_si_a (by decide), gi_si_s]
