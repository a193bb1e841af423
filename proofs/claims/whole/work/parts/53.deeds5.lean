/-! ===== promise 24: rule ===== -/
theorem SR.mono {N M : Nat} {σ : Sto} {c : Nat → Nat} (h : SR N σ c) (hm : N ≤ M) : SR M σ c := by
  obtain ⟨h1, h2, h3, s, h4, h5, h6⟩ := h
  exact ⟨h1, h2, h3, s, h4, Nat.le_trans h5 hm, h6⟩
theorem BR.mono {N M : Nat} {σ : Sto} {c : Nat → Nat} (h : BR N σ c) (hm : N ≤ M) : BR M σ c := by
  obtain ⟨h1, s, h4, h5, h6⟩ := h
  exact ⟨h1, s, h4, Nat.le_trans h5 hm, h6⟩
theorem KW.mono {N M : Nat} {σ : Sto} {c : Nat → Nat} (h : KW N σ c) (hm : N ≤ M) : KW M σ c := by
  obtain ⟨h1, h2, h3, h4, h5, h6, h7, h8⟩ := h
  exact ⟨h1, h2, h3, h4, h5, h6, h7.mono hm, h8.mono hm⟩
theorem KW.rule {N : Nat} {σ : Sto} {c : Nat → Nat} (h : KW N σ c) (ok : OK c) {v : Nat} : KW (N + 1) (si (si σ (gr σ 1 11) 12 (nI v)) 90 4 (gi σ 90 4 + 1)) (updC c 4 v) := by
  obtain ⟨h1, h2, h3, h4, h5, h6, ⟨hc, hr, hm, s, hs1, hsN, hst, hkn⟩, ⟨hbc, hbr⟩, b, hb1, hbN, hbt, hbk⟩ := h
  have hrg := h1.rg
  have lS : likeS c (updC c 4 v) := likeS_upd ok (by omega) (by omega) (by omega)
  have hcr : CR (si (si σ (gr σ 1 11) 12 (nI v)) 90 4 (gi σ 90 4 + 1)) (gr σ 1 11) (updC c 4 v) := by
    rw [h2] at hr
    have h9 : CR (si σ (gr σ 1 11) (8 + 4) (nI v)) (gr σ 1 11) (updC c 4 v) := hr.put (k := 4) (by omega)
    exact h9.eo (S := fun a _ => a = 90) (Eo.si rfl) (fun i k hi q => by omega)
  have h88 : ∀ j, gi (si (si σ (gr σ 1 11) 12 (nI v)) 90 4 (gi σ 90 4 + 1)) 88 j = gi σ 88 j := fun j => by rw [gi_si_a (by omega), gi_si_a (by omega)]
  have h89 : ∀ j, gi (si (si σ (gr σ 1 11) 12 (nI v)) 90 4 (gi σ 90 4 + 1)) 89 j = gi σ 89 j := fun j => by rw [gi_si_a (by omega), gi_si_a (by omega)]
  have h91 : ∀ j, gi (si (si σ (gr σ 1 11) 12 (nI v)) 90 4 (gi σ 90 4 + 1)) 91 j = gi σ 91 j := fun j => by rw [gi_si_a (by omega), gi_si_a (by omega)]
  refine ⟨h1, h2, h3, h4, h5, h6, ⟨hc, by rw [gr_si, gr_si, h2]; exact hcr, by rw [h88, hm, madeF_like lS], s, hs1, by omega, by rw [h88]; exact hst, fun g hg => ?_⟩, ⟨hbc, by rw [gr_si, gr_si, h3]; exact hcr⟩, b + 1, by omega, by omega, by rw [gi_si_s, hbt, show (1 : Int32) = nI 1 from rfl]; exact jI_add, fun o ho => ?_⟩
  · rw [h89, upF_like lS]; exact hkn g hg
  · rw [h91]
    obtain ⟨v2, hv, hvb, -⟩ := hbk o ho
    exact ⟨v2, hv, by omega, fun q => by omega⟩
theorem OK.rule {c : Nat → Nat} (ok : OK c) {v : Nat} (hv : v ≤ 2) : OK (updC c 4 v) := by
  have := ok.n0
  have := ok.n1
  have := ok.n2
  have := ok.n3
  have u : ∀ i, i ≠ 4 → updC c 4 v i = c i := fun i hi => updC_n hi
  rw [OK, u 0 (by omega), u 1 (by omega), u 2 (by omega), u 3 (by omega), updC_s, u 5 (by omega), u 6 (by omega), u 7 (by omega)]
  refine ⟨ok.n0, ok.n1, ok.n2, ok.n3, hv, ok.n5, ok.n6, ok.n7, fun t ht => ?_, fun t ht => ?_, fun t ht => ?_, fun t ht => ?_, fun t ht => ?_, fun w hw t ht => ?_, fun t ht => ?_, fun t ht => ?_⟩
  · rw [u _ (by omega)]; exact ok.worth t ht
  · rw [u _ (by omega)]; exact ok.made t ht
  · rw [u _ (by omega)]; exact ok.parts t ht
  · rw [u _ (by omega), u _ (by omega)]; exact ok.2.2.2.2.2.2.2.2.2.2.2.1 t ht
  · rw [u _ (by omega)]; exact ok.needs t ht
  · rw [u _ (by omega)]; exact ok.hates w hw t ht
  · rw [u _ (by omega)]; exact ok.ahead t ht
  · rw [u _ (by omega)]; exact ok.aheadn t ht
def ruleA (c : Nat → Nat) (x : Int32) : Int32 × Int32 × (Nat → Nat) := if ¬ x < 0 ∧ x < nI 3 then (1, 0, updC c 4 (tn x)) else (0, 5, c)
/-- places that rule and grudge may write -/
def SRu (a b k : Nat) : Prop := SQ b k ∨ (b = a ∧ k = 12) ∨ b = a + 6 ∨ (b = 90 ∧ k = 4)
theorem c_rule {σ : Sto} {c : Nat → Nat} {P : Int32 → Sto → Prop} {N : Nat} (h : KW N σ c) (ok : OK c) {x : Int32} (k : ∀ τ, Eo (SRu (gr σ 1 11)) σ τ → KW (N + 1) τ (ruleA c x).2.2 → gi τ 1 15 = (ruleA c x).2.1 → P (ruleA c x).1 τ) : w_X11_rule x σ P := by
  have hd := inD_iff (x := x) (N := 3) (by decide)
  have hle3 := le_lt (x := x) (n := 2) (l := 2) (by decide) (by decide)
  have hrg := h.1.rg
  have out : ¬ inD x 3 → w_X11_rule_9 σ P := fun hx => by
    have e1 : ruleA c x = (0, 5, c) := ifD_neg hx (by decide)
    rw [e1] at k
    exact ⟨Or.inl rfl, k _ (stq.mo (fun _ _ => Or.inl)) (h.mono (Nat.le_succ _)).st gi_si_s⟩
  unfold w_X11_rule
  by_cases h1 : x < 0
  · rw [if_pos h1]; exact out (fun q => (hd.mp q).1 h1)
  · rw [if_neg h1]
    by_cases h2 : x ≤ 2
    · rw [if_pos h2]
      obtain ⟨n, hn, rfl⟩ := hd.mpr ⟨h1, hle3.mp h2⟩
      have e1 : ruleA c (nI n) = (1, 0, updC c 4 n) := by unfold ruleA; rw [ifD_pos hn (by decide), tn_nI (by omega)]
      rw [e1] at k
      refine ⟨h.1, ?_⟩
      unfold w_X0_forget
      rw [gi_si_a (by omega)]
      have e2 : Eo (SRu (gr σ 1 11)) σ (si (si σ (gr σ 1 11) 12 (nI n)) 90 4 (gi σ 90 4 + 1)) := (Eo.si (Or.inr (Or.inl ⟨rfl, rfl⟩))).tr (Eo.si (Or.inr (Or.inr (Or.inr ⟨rfl, rfl⟩))))
      exact ⟨Or.inr rfl, k _ (e2.tr (stq.mo (fun _ _ => Or.inl))) (h.rule ok).st gi_si_s⟩
    · rw [if_neg h2]
      exact out (fun q => h2 (hle3.mpr (hd.mp q).2))
def SMRu (a k : Nat) : Prop := SM a k ∨ (a = 106 ∧ (k = 4 ∨ (58 ≤ k ∧ k < 130)))
theorem m_rule {σ : Sto} {c : Nat → Nat} {P : Int32 → Sto → Prop} (h : MR σ c) (ok : OK c) {x : Int32} (k : ∀ τ, Eo SMRu σ τ → MR τ (ruleA c x).2.2 → gi τ 101 0 = (ruleA c x).2.1 → P (ruleA c x).1 τ) : w_X12_rule x σ P := by
  have hs : MR (si (si σ 101 1 0) 101 0 0) c := h.sm sm10
  unfold w_X12_rule
  refine t_isInK (N := 2) (by decide) (by decide) (fun hx => ?_) (fun hx => ?_)
  · rw [if_neg (by decide)]
    obtain ⟨n, hn, rfl⟩ := hx
    have e1 : ruleA c (nI n) = (1, 0, updC c 4 n) := by unfold ruleA; rw [ifD_pos hn (by decide), tn_nI (by omega)]
    rw [e1] at k
    refine k _ ((sm10.mo (fun _ _ => Or.inl)).tr (Eo.si (Or.inr ⟨rfl, Or.inl rfl⟩))) (hs.put 4 n) ?_
    rw [gi_si_a (by decide), gi_si_s]
  · rw [if_pos rfl]
    have e1 : ruleA c x = (0, 5, c) := ifD_neg hx (by decide)
    rw [e1] at k
    exact ⟨Or.inl rfl, k _ ((sm10.tr sm0).mo (fun _ _ => Or.inl)) (hs.sm sm0) gi_si_s⟩
theorem rule_OK {c : Nat → Nat} (ok : OK c) {x : Int32} : OK (ruleA c x).2.2 := by
  by_cases hx : inD x 3
  · obtain ⟨t, ht, rfl⟩ := hx
    have e1 : ruleA c (nI t) = (1, 0, updC c 4 t) := by unfold ruleA; rw [ifD_pos ht (by decide), tn_nI (by omega)]
    rw [e1]
    exact ok.rule (by omega)
  · rw [show ruleA c x = (0, 5, c) from ifD_neg hx (by decide)]; exact ok
