/-! ===== promise 22: exempt ===== -/
def exemptA (c : Nat → Nat) (x : Int32) (b : Bool) : Int32 × Int32 × (Nat → Nat) := if ¬ x < 0 ∧ x < nI (c 0) then (if (c 7).testBit (tn x) = b then (0, 9, c) else (1, 0, updC c 7 (c 7 ^^^ 2 ^ tn x))) else (0, 2, c)
theorem bI_eq {a b : Bool} : bI a = bI b ↔ a = b := by cases a <;> cases b <;> decide
theorem c_exempt {σ : Sto} {c : Nat → Nat} {P : Int32 → Sto → Prop} {N : Nat} (h : KW N σ c) (ok : OK c) {x : Int32} {b : Bool} (k : ∀ τ, Eo (SD (gr σ 1 11)) σ τ → KW N τ (exemptA c x b).2.2 → gi τ 1 15 = (exemptA c x b).2.1 → P (exemptA c x b).1 τ) : w_X11_exempt x (bI b) σ P := by
  have := ok.n0
  unfold w_X11_exempt
  refine t_noThing h ok (fun hx => ?_) (fun hx => ?_)
  · rw [if_pos rfl]
    obtain ⟨t, ht, rfl⟩ := hx
    have e1 : exemptA c (nI t) b = (if (c 7).testBit t = b then (0, 9, c) else (1, 0, updC c 7 (c 7 ^^^ 2 ^ t))) := by unfold exemptA; rw [ifD_pos ht (by omega), tn_nI (by omega)]
    rw [e1] at k
    refine ⟨h.1, ?_⟩
    rw [show gi σ (gr σ 1 11) 15 = nI (c 7) from h.f (k := 7) (by decide), t_oneOf (by omega)]
    by_cases hb : (c 7).testBit t = b
    · rw [if_pos (bI_eq.mpr hb)]
      rw [if_pos hb] at k
      exact ⟨Or.inl rfl, k _ (sdq stq) h.st gi_si_s⟩
    · rw [if_neg (fun q => hb (bI_eq.mp q))]
      rw [if_neg hb] at k
      refine ⟨h.1, ?_⟩
      rw [show gi σ (gr σ 1 11) 15 = nI (c 7) from h.f (k := 7) (by decide), bit1 (by omega), jI_xor]
      have hp : KW N (si σ (gr σ 1 11) 15 (nI (c 7 ^^^ 2 ^ t))) (updC c 7 (c 7 ^^^ 2 ^ t)) := h.put ok (k := 7) (Or.inr (Or.inr rfl))
      exact ⟨Or.inr rfl, k _ ((Eo.si (Or.inr ⟨rfl, by decide, by decide⟩)).tr (sdq stq)) hp.st gi_si_s⟩
  · rw [if_neg (by decide)]
    have e1 : exemptA c x b = (0, 2, c) := ifD_neg hx (by omega)
    rw [e1] at k
    exact ⟨Or.inl rfl, k _ (sdq stq) h.st gi_si_s⟩
theorem m_exempt {σ : Sto} {c : Nat → Nat} {P : Int32 → Sto → Prop} (h : MR σ c) (ok : OK c) {x : Int32} {b : Bool} (k : ∀ τ, Eo SMD σ τ → MR τ (exemptA c x b).2.2 → gi τ 101 0 = (exemptA c x b).2.1 → P (exemptA c x b).1 τ) : w_X12_exempt x (bI b) σ P := by
  have := ok.n0
  have hs : MR (si (si σ 101 1 0) 101 0 0) c := h.sm sm10
  unfold w_X12_exempt
  refine t_isThingAt hs ok (fun hx => ?_) (fun hx => ?_)
  · rw [if_neg (by decide)]
    obtain ⟨t, ht, rfl⟩ := hx
    have e1 : exemptA c (nI t) b = (if (c 7).testBit t = b then (0, 9, c) else (1, 0, updC c 7 (c 7 ^^^ 2 ^ t))) := by unfold exemptA; rw [ifD_pos ht (by omega), tn_nI (by omega)]
    rw [e1] at k
    rw [hs 7 (by decide), t_has (by omega)]
    by_cases hb : (c 7).testBit t = b
    · rw [if_pos (bI_eq.mpr hb)]
      rw [if_pos hb] at k
      exact ⟨Or.inl rfl, k _ (smd (sm10.tr sm0)) (hs.sm sm0) gi_si_s⟩
    · rw [if_neg (fun q => hb (bI_eq.mp q))]
      rw [if_neg hb] at k
      rw [hs 7 (by decide), bit1 (by omega), jI_xor]
      refine k _ ((smd sm10).tr (Eo.si (Or.inr ⟨rfl, by decide, by decide⟩))) (hs.put 7 _) ?_
      rw [gi_si_a (by decide), gi_si_s]
  · rw [if_pos rfl]
    have e1 : exemptA c x b = (0, 2, c) := ifD_neg hx (by omega)
    rw [e1] at k
    exact ⟨Or.inl rfl, k _ (smd (sm10.tr sm0)) (hs.sm sm0) gi_si_s⟩
theorem exempt_OK {c : Nat → Nat} (ok : OK c) {x : Int32} {b : Bool} : OK (exemptA c x b).2.2 := by
  have := ok.n0
  by_cases hx : inD x (c 0)
  · obtain ⟨t, ht, rfl⟩ := hx
    have e1 : exemptA c (nI t) b = (if (c 7).testBit t = b then (0, 9, c) else (1, 0, updC c 7 (c 7 ^^^ 2 ^ t))) := by unfold exemptA; rw [ifD_pos ht (by omega), tn_nI (by omega)]
    rw [e1]
    by_cases hb : (c 7).testBit t = b
    · rw [if_pos hb]; exact ok
    · rw [if_neg hb]
      exact ok.put (Or.inr (Or.inr ⟨rfl, Nat.xor_lt_two_pow ok.n7 (two_lt ht)⟩))
  · rw [show exemptA c x b = (0, 2, c) from ifD_neg hx (by omega)]; exact ok
theorem unmake_OK {c : Nat → Nat} (ok : OK c) {x : Int32} : OK (unmakeA c x).2.2 := by
  have := ok.n0
  by_cases hx : inD x (c 0)
  · obtain ⟨t, ht, rfl⟩ := hx
    have e1 : unmakeA c (nI t) = (if (c 6 ||| c 7).testBit t then (-1, 9, c) else (nI (sd (nowF c) (nowF (updC c 6 (c 6 ||| 2 ^ t)))), 0, updC c 6 (c 6 ||| 2 ^ t))) := by unfold unmakeA; rw [ifD_pos ht (by omega), tn_nI (by omega)]
    rw [e1]
    split
    · exact ok
    · exact ok.put (Or.inr (Or.inl ⟨rfl, or_lt ok.n6 (two_lt ht)⟩))
  · rw [show unmakeA c x = (-1, 2, c) from ifD_neg hx (by omega)]; exact ok
theorem remake_OK {c : Nat → Nat} (ok : OK c) {x : Int32} : OK (remakeA c x).2.2 := by
  have := ok.n0
  by_cases hx : inD x (c 0)
  · obtain ⟨t, ht, rfl⟩ := hx
    have e1 : remakeA c (nI t) = (if (c 6).testBit t then (nI (sd (nowF (updC c 6 (sd (c 6) (2 ^ t)))) (nowF c)), 0, updC c 6 (sd (c 6) (2 ^ t))) else (-1, 9, c)) := by unfold remakeA; rw [ifD_pos ht (by omega), tn_nI (by omega)]
    rw [e1]
    split
    · exact ok.put (Or.inr (Or.inl ⟨rfl, sub_lt sub_sd ok.n6⟩))
    · exact ok
  · rw [show remakeA c x = (-1, 2, c) from ifD_neg hx (by omega)]; exact ok
