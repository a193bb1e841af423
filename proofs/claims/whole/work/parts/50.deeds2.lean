/-! ===== promises 20 to 22: unmake, remake, exempt ===== -/
theorem OK.put {c : Nat → Nat} (ok : OK c) {k v : Nat} (hk : (k = 5 ∧ v ≤ 9999) ∨ (k = 6 ∧ v < 2 ^ c 0) ∨ (k = 7 ∧ v < 2 ^ c 0)) : OK (updC c k v) := by
  have := ok.n0
  have := ok.n1
  have := ok.n2
  have := ok.n3
  have u : ∀ i, i ≠ k → updC c k v i = c i := fun i hi => updC_n hi
  have h6 : updC c k v 6 < 2 ^ c 0 := by
    by_cases h : k = 6
    · subst h; rw [updC_s]; omega
    · rw [u 6 (by omega)]; exact ok.n6
  have h7 : updC c k v 7 < 2 ^ c 0 := by
    by_cases h : k = 7
    · subst h; rw [updC_s]; omega
    · rw [u 7 (by omega)]; exact ok.n7
  have h5 : updC c k v 5 ≤ 9999 := by
    by_cases h : k = 5
    · subst h; rw [updC_s]; omega
    · rw [u 5 (by omega)]; exact ok.n5
  rw [OK, u 0 (by omega), u 1 (by omega), u 2 (by omega), u 3 (by omega), u 4 (by omega)]
  refine ⟨ok.n0, ok.n1, ok.n2, ok.n3, ok.n4, h5, h6, h7, fun t ht => ?_, fun t ht => ?_, fun t ht => ?_, fun t ht => ?_, fun t ht => ?_, fun w hw t ht => ?_, fun t ht => ?_, fun t ht => ?_⟩
  · rw [u _ (by omega)]; exact ok.worth t ht
  · rw [u _ (by omega)]; exact ok.made t ht
  · rw [u _ (by omega)]; exact ok.parts t ht
  · rw [u _ (by omega), u _ (by omega)]; exact ok.2.2.2.2.2.2.2.2.2.2.2.1 t ht
  · rw [u _ (by omega)]; exact ok.needs t ht
  · rw [u _ (by omega)]; exact ok.hates w hw t ht
  · rw [u _ (by omega)]; exact ok.ahead t ht
  · rw [u _ (by omega)]; exact ok.aheadn t ht
/-- places that a deed may write: what questions may, and of the city now the YEAR, what is UNMADE, EXEMPT -/
def SD (a b k : Nat) : Prop := SQ b k ∨ (b = a ∧ 13 ≤ k ∧ k ≤ 15)
def SMD (a k : Nat) : Prop := SM a k ∨ (a = 106 ∧ 5 ≤ k ∧ k ≤ 7)
theorem sdq {a : Nat} {σ τ : Sto} (e : Eo SQ σ τ) : Eo (SD a) σ τ := e.mo (fun _ _ => Or.inl)
theorem smd {σ τ : Sto} (e : Eo SM σ τ) : Eo SMD σ τ := e.mo (fun _ _ => Or.inl)
theorem KW.at {N : Nat} {S : Nat → Nat → Prop} {σ τ : Sto} (e : Eo S σ τ) : gr τ 1 11 = gr σ 1 11 := e.2.2 1 11
def unmakeA (c : Nat → Nat) (x : Int32) : Int32 × Int32 × (Nat → Nat) := if ¬ x < 0 ∧ x < nI (c 0) then (if (c 6 ||| c 7).testBit (tn x) then (-1, 9, c) else (nI (sd (nowF c) (nowF (updC c 6 (c 6 ||| 2 ^ tn x)))), 0, updC c 6 (c 6 ||| 2 ^ tn x))) else (-1, 2, c)
theorem bit1 {t : Nat} (ht : t < 32) : (1 : Int32) <<< (nI t &&& 31) = nI (2 ^ t) := by
  rw [jI_31 ht, show (1 : Int32) = nI 1 from rfl, jI_shl ht, Nat.one_shiftLeft]
theorem t_oneOf {σ : Sto} {P : Int32 → Sto → Prop} {t s : Nat} (ht : t < 32) : w_X11_isOneOf (nI t) (nI s) σ P = P (bI (s.testBit t)) σ := by
  unfold w_X11_isOneOf
  simp (disch := omega) only [N0, N1, N2, N3, N4, N5, N6, N7, N8, N9, N10, N11, N12, N13, N14, N15, N16, N17, N18, N19, N20, N21, N22, N23, N24, N25, N26, N27, N28, N29, N30, N32, N33, N34, N35, N36, N37, N38, N39, N40, N41, N42, N43, N44, N45, N46, N47, N48, N49, N50, N51, N52, N53, N54, N55, N56, N57, N58, N59, N60, N61, N62, N63, N64, N90, N96, N97, N98, N99, N100, N102, N103, N104, N107, N108, N109, N110, N111, N112, N114, N115, N116, N117, N118, N119, N120, N121, N122, N130, N138, N141, N142, N143, N144, N156, N240, N255, N256, N300, N400, N420, N421, N600, N900, N999, N1000, N1684, N2104, N2105, N2971, N4095, N4096, N9999, N10000, N10663, N65536, jI_add, jI_mul, jI_and, jI_or, jI_xor, jI_andn, jI_31, jI_shl, Nat.one_shiftLeft, jI_le, jI_lt, jI_eq, tn_nI, tc_nI, vp_nI, jI_allF, jI_bit, jI_bit0, jI_noneN, bI_N0, bI_N1, forall_eq, true_and, ↓reduceIte]
  cases s.testBit t <;> rfl
theorem c_unmake {σ : Sto} {c : Nat → Nat} {P : Int32 → Sto → Prop} {N : Nat} (h : KW N σ c) (ok : OK c) (hN : N ≤ 2000) {x : Int32} (k : ∀ τ, Eo (SD (gr σ 1 11)) σ τ → KW N τ (unmakeA c x).2.2 → gi τ 1 15 = (unmakeA c x).2.1 → P (unmakeA c x).1 τ) : w_X11_unmake x σ P := by
  have := ok.n0
  unfold w_X11_unmake
  refine t_noThing h ok (fun hx => ?_) (fun hx => ?_)
  · rw [if_pos rfl]
    obtain ⟨t, ht, rfl⟩ := hx
    have e1 : unmakeA c (nI t) = (if (c 6 ||| c 7).testBit t then (-1, 9, c) else (nI (sd (nowF c) (nowF (updC c 6 (c 6 ||| 2 ^ t)))), 0, updC c 6 (c 6 ||| 2 ^ t))) := by unfold unmakeA; rw [ifD_pos ht (by omega), tn_nI (by omega)]
    rw [e1] at k
    refine ⟨h.1, ?_⟩
    rw [show gi σ (gr σ 1 11) 14 = nI (c 6) from h.f (k := 6) (by decide), show gi σ (gr σ 1 11) 15 = nI (c 7) from h.f (k := 7) (by decide), jI_or, t_oneOf (by omega)]
    cases hb : (c 6 ||| c 7).testBit t <;> simp only [hb, bI, Bool.false_eq_true, Bool.true_eq_false, ↓reduceIte] at k ⊢
    · refine t_atPresent h.kb.1 ok hN (fun τ e1 h1 => ?_)
      have hw := h.e89 e1 h1
      refine ⟨hw.1, ?_⟩
      rw [show gi τ (gr τ 1 11) 14 = nI (c 6) from hw.f (k := 6) (by decide), bit1 (by omega), jI_or]
      have hlt : c 6 ||| 2 ^ t < 2 ^ c 0 := or_lt ok.n6 (two_lt ht)
      have hp : KW N (si τ (gr τ 1 11) 14 (nI (c 6 ||| 2 ^ t))) (updC c 6 (c 6 ||| 2 ^ t)) := hw.put ok (k := 6) (Or.inr (Or.inl rfl))
      have ok2 : OK (updC c 6 (c 6 ||| 2 ^ t)) := ok.put (Or.inr (Or.inl ⟨rfl, hlt⟩))
      have e2 : Eo (SD (gr σ 1 11)) τ (si τ (gr τ 1 11) 14 (nI (c 6 ||| 2 ^ t))) := Eo.si (Or.inr ⟨KW.at (N := N) e1, by decide, by decide⟩)
      refine t_atPresent hp.kb.1 ok2 hN (fun υ e3 h3 => ?_)
      have hw3 := hp.e89 e3 h3
      rw [jI_andn]
      exact k _ ((((sdq (e1.mo (fun _ _ => S89q))).tr e2).tr (sdq (e3.mo (fun _ _ => S89q)))).tr (sdq stq)) hw3.st gi_si_s
    · rw [if_neg (by decide)]
      exact k _ (sdq stq) h.st gi_si_s
  · rw [if_neg (by decide)]
    have e1 : unmakeA c x = (-1, 2, c) := ifD_neg hx (by omega)
    rw [e1] at k
    exact k _ (sdq stq) h.st gi_si_s
theorem m_unmake {σ : Sto} {c : Nat → Nat} {P : Int32 → Sto → Prop} (h : MR σ c) (ok : OK c) {x : Int32} (k : ∀ τ, Eo SMD σ τ → MR τ (unmakeA c x).2.2 → gi τ 101 0 = (unmakeA c x).2.1 → P (unmakeA c x).1 τ) : w_X12_unmake x σ P := by
  have := ok.n0
  have hs : MR (si (si σ 101 1 0) 101 0 0) c := h.sm sm10
  unfold w_X12_unmake
  refine t_isThingAt hs ok (fun hx => ?_) (fun hx => ?_)
  · rw [if_neg (by decide)]
    obtain ⟨t, ht, rfl⟩ := hx
    have e1 : unmakeA c (nI t) = (if (c 6 ||| c 7).testBit t then (-1, 9, c) else (nI (sd (nowF c) (nowF (updC c 6 (c 6 ||| 2 ^ t)))), 0, updC c 6 (c 6 ||| 2 ^ t))) := by unfold unmakeA; rw [ifD_pos ht (by omega), tn_nI (by omega)]
    rw [e1] at k
    unfold w_X12_canUnmake
    rw [hs 6 (by decide), hs 7 (by decide), jI_or, t_has (by omega)]
    cases hb : (c 6 ||| c 7).testBit t <;> simp only [hb, bI, Bool.false_eq_true, Bool.true_eq_false, ↓reduceIte] at k ⊢
    · rw [if_neg (by decide)]
      refine t_now hs ok ?_
      rw [hs 6 (by decide), bit1 (by omega), jI_or]
      have hlt : c 6 ||| 2 ^ t < 2 ^ c 0 := or_lt ok.n6 (two_lt ht)
      have ok2 : OK (updC c 6 (c 6 ||| 2 ^ t)) := ok.put (Or.inr (Or.inl ⟨rfl, hlt⟩))
      have hp := hs.put 6 (c 6 ||| 2 ^ t)
      refine t_now hp ok2 ?_
      rw [jI_andn]
      refine k _ ((smd sm10).tr (Eo.si (Or.inr ⟨rfl, by decide, by decide⟩))) hp ?_
      rw [gi_si_a (by decide), gi_si_s]
    · rw [if_neg (by decide)]
      exact k _ (smd (sm10.tr sm0)) (hs.sm sm0) gi_si_s
  · rw [if_pos rfl]
    have e1 : unmakeA c x = (-1, 2, c) := ifD_neg hx (by omega)
    rw [e1] at k
    exact k _ (smd (sm10.tr sm0)) (hs.sm sm0) gi_si_s
