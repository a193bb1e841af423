def remakeA (c : Nat → Nat) (x : Int32) : Int32 × Int32 × (Nat → Nat) := if ¬ x < 0 ∧ x < nI (c 0) then (if (c 6).testBit (tn x) then (nI (sd (nowF (updC c 6 (sd (c 6) (2 ^ tn x)))) (nowF c)), 0, updC c 6 (sd (c 6) (2 ^ tn x))) else (-1, 9, c)) else (-1, 2, c)
theorem c_remake {σ : Sto} {c : Nat → Nat} {P : Int32 → Sto → Prop} {N : Nat} (h : KW N σ c) (ok : OK c) (hN : N ≤ 2000) {x : Int32} (k : ∀ τ, Eo (SD (gr σ 1 11)) σ τ → KW N τ (remakeA c x).2.2 → gi τ 1 15 = (remakeA c x).2.1 → P (remakeA c x).1 τ) : w_X11_remake x σ P := by
  have := ok.n0
  unfold w_X11_remake
  refine t_noThing h ok (fun hx => ?_) (fun hx => ?_)
  · rw [if_pos rfl]
    obtain ⟨t, ht, rfl⟩ := hx
    have e1 : remakeA c (nI t) = (if (c 6).testBit t then (nI (sd (nowF (updC c 6 (sd (c 6) (2 ^ t)))) (nowF c)), 0, updC c 6 (sd (c 6) (2 ^ t))) else (-1, 9, c)) := by unfold remakeA; rw [ifD_pos ht (by omega), tn_nI (by omega)]
    rw [e1] at k
    refine ⟨h.1, ?_⟩
    rw [show gi σ (gr σ 1 11) 14 = nI (c 6) from h.f (k := 6) (by decide), t_oneOf (by omega)]
    cases hb : (c 6).testBit t <;> simp only [hb, bI, Bool.false_eq_true, Bool.true_eq_false, ↓reduceIte] at k ⊢
    · exact k _ (sdq stq) h.st gi_si_s
    · rw [if_neg (by decide)]
      refine t_atPresent h.kb.1 ok hN (fun τ e1 h1 => ?_)
      have hw := h.e89 e1 h1
      refine ⟨hw.1, ?_⟩
      rw [show gi τ (gr τ 1 11) 14 = nI (c 6) from hw.f (k := 6) (by decide), bit1 (by omega), jI_andn]
      have hlt : sd (c 6) (2 ^ t) < 2 ^ c 0 := sub_lt sub_sd ok.n6
      have hp : KW N (si τ (gr τ 1 11) 14 (nI (sd (c 6) (2 ^ t)))) (updC c 6 (sd (c 6) (2 ^ t))) := hw.put ok (k := 6) (Or.inr (Or.inl rfl))
      have ok2 : OK (updC c 6 (sd (c 6) (2 ^ t))) := ok.put (Or.inr (Or.inl ⟨rfl, hlt⟩))
      have e2 : Eo (SD (gr σ 1 11)) τ (si τ (gr τ 1 11) 14 (nI (sd (c 6) (2 ^ t)))) := Eo.si (Or.inr ⟨KW.at (N := N) e1, by decide, by decide⟩)
      refine t_atPresent hp.kb.1 ok2 hN (fun υ e3 h3 => ?_)
      have hw3 := hp.e89 e3 h3
      rw [jI_andn]
      exact k _ ((((sdq (e1.mo (fun _ _ => S89q))).tr e2).tr (sdq (e3.mo (fun _ _ => S89q)))).tr (sdq stq)) hw3.st gi_si_s
  · rw [if_neg (by decide)]
    have e1 : remakeA c x = (-1, 2, c) := ifD_neg hx (by omega)
    rw [e1] at k
    exact k _ (sdq stq) h.st gi_si_s
theorem m_remake {σ : Sto} {c : Nat → Nat} {P : Int32 → Sto → Prop} (h : MR σ c) (ok : OK c) {x : Int32} (k : ∀ τ, Eo SMD σ τ → MR τ (remakeA c x).2.2 → gi τ 101 0 = (remakeA c x).2.1 → P (remakeA c x).1 τ) : w_X12_remake x σ P := by
  have := ok.n0
  have hs : MR (si (si σ 101 1 0) 101 0 0) c := h.sm sm10
  unfold w_X12_remake
  refine t_isThingAt hs ok (fun hx => ?_) (fun hx => ?_)
  · rw [if_neg (by decide)]
    obtain ⟨t, ht, rfl⟩ := hx
    have e1 : remakeA c (nI t) = (if (c 6).testBit t then (nI (sd (nowF (updC c 6 (sd (c 6) (2 ^ t)))) (nowF c)), 0, updC c 6 (sd (c 6) (2 ^ t))) else (-1, 9, c)) := by unfold remakeA; rw [ifD_pos ht (by omega), tn_nI (by omega)]
    rw [e1] at k
    rw [hs 6 (by decide), t_has (by omega)]
    cases hb : (c 6).testBit t <;> simp only [hb, bI, Bool.false_eq_true, Bool.true_eq_false, ↓reduceIte] at k ⊢
    · exact k _ (smd (sm10.tr sm0)) (hs.sm sm0) gi_si_s
    · rw [if_neg (by decide)]
      refine t_now hs ok ?_
      rw [hs 6 (by decide), bit1 (by omega), jI_andn]
      have hlt : sd (c 6) (2 ^ t) < 2 ^ c 0 := sub_lt sub_sd ok.n6
      have ok2 : OK (updC c 6 (sd (c 6) (2 ^ t))) := ok.put (Or.inr (Or.inl ⟨rfl, hlt⟩))
      have hp := hs.put 6 (sd (c 6) (2 ^ t))
      refine t_now hp ok2 ?_
      rw [jI_andn]
      refine k _ ((smd sm10).tr (Eo.si (Or.inr ⟨rfl, by decide, by decide⟩))) hp ?_
      rw [gi_si_a (by decide), gi_si_s]
  · rw [if_pos rfl]
    have e1 : remakeA c x = (-1, 2, c) := ifD_neg hx (by omega)
    rw [e1] at k
    exact k _ (smd (sm10.tr sm0)) (hs.sm sm0) gi_si_s
