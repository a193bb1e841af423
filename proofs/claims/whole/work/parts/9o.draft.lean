/-! ===== texts: the drafts ===== -/
/-- where a number of the city lies in the class -/
def lA (i : Nat) : Nat := if i < 8 then 0 else if i < 20 then 2 else if i < 36 then 3 else if i < 52 then 4 else if i < 58 then 5 else if i < 130 then 6 else 7
def lK (i : Nat) : Nat := if i < 8 then 8 + i else if i < 20 then i - 8 else if i < 36 then i - 20 else if i < 52 then i - 36 else if i < 58 then i - 52 else if i < 130 then i - 58 else i - 130
theorem lcs (i : Nat) : (i < 8 ∧ lA i = 0 ∧ lK i = 8 + i) ∨ (8 ≤ i ∧ i < 20 ∧ lA i = 2 ∧ lK i = i - 8) ∨ (20 ≤ i ∧ i < 36 ∧ lA i = 3 ∧ lK i = i - 20) ∨ (36 ≤ i ∧ i < 52 ∧ lA i = 4 ∧ lK i = i - 36) ∨ (52 ≤ i ∧ i < 58 ∧ lA i = 5 ∧ lK i = i - 52) ∨ (58 ≤ i ∧ i < 130 ∧ lA i = 6 ∧ lK i = i - 58) ∨ (130 ≤ i ∧ lA i = 7 ∧ lK i = i - 130) := by
  unfold lA lK
  by_cases h1 : i < 8
  · rw [if_pos h1, if_pos h1]; omega
  rw [if_neg h1, if_neg h1]
  by_cases h2 : i < 20
  · rw [if_pos h2, if_pos h2]; omega
  rw [if_neg h2, if_neg h2]
  by_cases h3 : i < 36
  · rw [if_pos h3, if_pos h3]; omega
  rw [if_neg h3, if_neg h3]
  by_cases h4 : i < 52
  · rw [if_pos h4, if_pos h4]; omega
  rw [if_neg h4, if_neg h4]
  by_cases h5 : i < 58
  · rw [if_pos h5, if_pos h5]; omega
  rw [if_neg h5, if_neg h5]
  by_cases h6 : i < 130
  · rw [if_pos h6, if_pos h6]; omega
  rw [if_neg h6, if_neg h6]
  omega
theorem lAK {i j : Nat} (h1 : lA i = lA j) (h2 : lK i = lK j) : i = j := by
  have := lcs i
  have := lcs j
  omega
theorem lA7 {i : Nat} : lA i ≤ 7 := by
  have := lcs i
  omega
/-- what the class holds of a draft: not the worth of things to come, nor what makings to come make -/
def dok (c : Nat → Nat) (i : Nat) : Prop := (8 ≤ i → i < 20 → i < 8 + c 0) ∧ (20 ≤ i → i < 36 → i < 20 + c 1)
def DrC (σ : Sto) (a : Nat) (c : Nat → Nat) (nm : Nat → Int64) (l : Nat) : Prop := (isCity a ∧ gr σ 41 1 = a ∧ gi σ 41 2 = nI l) ∧ (∀ i, i < 142 → dok c i → gi σ (a + lA i) (lK i) = nI (c i)) ∧ (∀ t, t < 12 → c 0 ≤ t → gi σ (a + 2) t = 1) ∧ (∀ k, k < 24 → gl σ (a + 1) k = nm k) ∧ gi σ (a + 8) 5 = 0 ∧ gi σ (a + 8) 6 = 0 ∧ gi σ (a + 8) 7 = 0
def SDc (a x k : Nat) : Prop := ST0 x k ∨ SCi a x k ∨ (x = 41 ∧ k = 2)
theorem DrC.eo {σ τ : Sto} {a l : Nat} {c : Nat → Nat} {nm : Nat → Int64} (h : DrC σ a c nm l) (e : Eo ST0 σ τ) : DrC τ a c nm l := by
  obtain ⟨⟨h1, h2, h3⟩, h4, h5, h6, h7, h8, h9⟩ := h
  have hr := h1.rg
  have g : ∀ i k, gi τ (a + i) k = gi σ (a + i) k := fun i k => e.1 _ _ (by unfold ST0; omega)
  exact ⟨⟨h1, by rw [e.2.2]; exact h2, by rw [e.1 _ _ (by unfold ST0; omega)]; exact h3⟩, fun i hi hd => by rw [g]; exact h4 i hi hd, fun t ht hc => by rw [g]; exact h5 t ht hc, fun k hk => by rw [e.2.1 _ _ (by unfold ST0; omega)]; exact h6 k hk, by rw [g]; exact h7, by rw [g]; exact h8, by rw [g]; exact h9⟩
theorem DrC.nc {σ : Sto} {a l : Nat} {c : Nat → Nat} {nm : Nat → Int64} (h : DrC σ a c nm l) (hk : NmK c nm) : NC σ a c nm := ⟨h.1.1, h.1.2.1, h.2.2.2.1, hk⟩
theorem DrC.f {σ : Sto} {a l : Nat} {c : Nat → Nat} {nm : Nat → Int64} (h : DrC σ a c nm l) {k : Nat} (hk : k < 8) : gi σ a (8 + k) = nI (c k) := by
  have := h.2.1 k (by omega) ⟨fun _ => by omega, fun _ => by omega⟩
  rw [show lA k = 0 from if_pos hk, show lK k = 8 + k from if_pos hk] at this
  exact this
theorem RdC.city {σ τ : Sto} {T : Nat → Nat} {n a : Nat} {t : TKn} (h : RdC σ T n t) (ha : isCity a) (e : Eo (fun x k => SCi a x k ∨ (x = 41 ∧ k = 2)) σ τ) : RdC τ T n t := by
  have hr := ha.rg
  obtain ⟨h1, h2, h3, h4⟩ := h
  have g : ∀ x k, (x = 10 ∨ x = 11 ∨ x = 12) → gi τ x k = gi σ x k ∧ gl τ x k = gl σ x k := fun x k hx => ⟨e.1 _ _ (by unfold SCi; omega), e.2.1 _ _ (by unfold SCi; omega)⟩
  refine ⟨⟨by rw [(g 10 3 (by omega)).1]; exact h1.1, h1.2.1, fun k hk => by rw [(g 11 k (by omega)).1]; exact h1.2.2 k hk⟩, fun k hk => by rw [(g 12 k (by omega)).2]; exact h2 k hk, ?_, h4⟩
  unfold TKC at h3 ⊢
  rw [(g 10 6 (by omega)).1, (g 10 4 (by omega)).1, (g 10 5 (by omega)).1, (g 10 7 (by omega)).1, (g 10 8 (by omega)).2]
  exact h3
/-- one number is put -/
theorem DrC.put {σ : Sto} {a l i v : Nat} {c : Nat → Nat} {nm : Nat → Int64} (h : DrC σ a c nm l) (h0 : i ≠ 0) (h1 : i ≠ 1) (hw : 8 ≤ i → i < 20 → i < 8 + c 0) : DrC (si σ (a + lA i) (lK i) (nI v)) a (updC c i v) nm l := by
  obtain ⟨⟨g1, g2, g3⟩, h4, h5, h6, h7, h8, h9⟩ := h
  have hr := g1.rg
  have hl := lA7 (i := i)
  have u0 : updC c i v 0 = c 0 := updC_n (by omega)
  have u1 : updC c i v 1 = c 1 := updC_n (by omega)
  refine ⟨⟨g1, g2, by rw [gi_si_a (by omega)]; exact g3⟩, fun j hj hd => ?_, fun t ht hc => ?_, h6, ?_, ?_, ?_⟩
  · unfold dok at hd
    rw [u0, u1] at hd
    by_cases e : j = i
    · rw [e, gi_si_s, updC_s]
    · rw [gi_si, if_neg (fun q => e (lAK (by omega) q.2)), updC_n e]
      exact h4 j hj hd
  · rw [u0] at hc
    rw [gi_si, if_neg (fun q => ?_)]
    · exact h5 t ht hc
    · have q1 : lA i = 2 := by omega
      have q2 := q.2
      have := lcs i
      omega
  · rw [gi_si_a (by omega)]; exact h7
  · rw [gi_si_a (by omega)]; exact h8
  · rw [gi_si_a (by omega)]; exact h9
theorem DrC.name {σ : Sto} {a l k : Nat} {v : Int64} {c : Nat → Nat} {nm : Nat → Int64} (h : DrC σ a c nm l) : DrC (sl σ (a + 1) k v) a c (nmU nm k v) l := by
  obtain ⟨h1, h4, h5, h6, h12⟩ := h
  refine ⟨h1, h4, h5, fun i hi => ?_, h12⟩
  by_cases e : i = k
  · rw [e, gl_sl_s, nmU_s]
  · rw [gl_sl_k e, nmU_n e]; exact h6 i hi
/-- a thing more -/
theorem DrC.thing {σ : Sto} {a l : Nat} {c : Nat → Nat} {nm : Nat → Int64} (h : DrC σ a c nm l) (hc : c 0 < 12) : DrC (si σ a 8 (nI (c 0 + 1))) a (updC (updC c (8 + c 0) 1) 0 (c 0 + 1)) nm l := by
  obtain ⟨⟨g1, g2, g3⟩, h4, h5, h6, h7, h8, h9⟩ := h
  have hr := g1.rg
  have u : ∀ i, i ≠ 0 → i ≠ 8 + c 0 → updC (updC c (8 + c 0) 1) 0 (c 0 + 1) i = c i := fun i a1 a2 => by rw [updC_n a1, updC_n a2]
  have u0 : updC (updC c (8 + c 0) 1) 0 (c 0 + 1) 0 = c 0 + 1 := updC_s
  have u8 : updC (updC c (8 + c 0) 1) 0 (c 0 + 1) (8 + c 0) = 1 := by rw [updC_n (by omega), updC_s]
  have u1 := u 1 (by decide) (by omega)
  generalize updC (updC c (8 + c 0) 1) 0 (c 0 + 1) = c' at u u0 u8 u1
  refine ⟨⟨g1, g2, by rw [gi_si_a (by omega)]; exact g3⟩, fun j hj hd => ?_, fun t ht hc => ?_, h6, ?_, ?_, ?_⟩
  · unfold dok at hd
    rw [u0, u1] at hd
    by_cases e : j = 0
    · rw [e, show lA 0 = 0 from rfl, show lK 0 = 8 from rfl, Nat.add_zero a, gi_si_s, u0]
    · rw [gi_si, if_neg (fun q => e (lAK (j := 0) (by have : lA 0 = 0 := rfl; omega) q.2))]
      by_cases e8 : j = 8 + c 0
      · have q1 : lA j = 2 := by have := lcs j; omega
        have q2 : lK j = c 0 := by have := lcs j; omega
        rw [q1, q2, h5 _ (by omega) (Nat.le_refl _), e8, u8]; rfl
      · rw [u j e e8]
        exact h4 j hj ⟨fun _ _ => by omega, hd.2⟩
  · rw [u0] at hc
    rw [gi_si_a (by omega)]; exact h5 t ht (by omega)
  · rw [gi_si_a (by omega)]; exact h7
  · rw [gi_si_a (by omega)]; exact h8
  · rw [gi_si_a (by omega)]; exact h9
/-- a making more -/
theorem DrC.making {σ : Sto} {a l p s : Nat} {c : Nat → Nat} {nm : Nat → Int64} (h : DrC σ a c nm l) (hc : c 1 < 16) : DrC (si (si (si σ (a + 3) (c 1) (nI p)) (a + 4) (c 1) (nI s)) a 9 (nI (c 1 + 1))) a (updC (updC (updC c (20 + c 1) p) (36 + c 1) s) 1 (c 1 + 1)) nm l := by
  obtain ⟨⟨g1, g2, g3⟩, h4, h5, h6, h7, h8, h9⟩ := h
  have hr := g1.rg
  have u : ∀ i, i ≠ 1 → i ≠ 20 + c 1 → i ≠ 36 + c 1 → updC (updC (updC c (20 + c 1) p) (36 + c 1) s) 1 (c 1 + 1) i = c i := fun i a1 a2 a3 => by rw [updC_n a1, updC_n a3, updC_n a2]
  have u1 : updC (updC (updC c (20 + c 1) p) (36 + c 1) s) 1 (c 1 + 1) 1 = c 1 + 1 := updC_s
  have u20 : updC (updC (updC c (20 + c 1) p) (36 + c 1) s) 1 (c 1 + 1) (20 + c 1) = p := by rw [updC_n (by omega), updC_n (by omega), updC_s]
  have u36 : updC (updC (updC c (20 + c 1) p) (36 + c 1) s) 1 (c 1 + 1) (36 + c 1) = s := by rw [updC_n (by omega), updC_s]
  have u0 := u 0 (by decide) (by omega) (by omega)
  generalize updC (updC (updC c (20 + c 1) p) (36 + c 1) s) 1 (c 1 + 1) = c' at u u0 u1 u20 u36
  refine ⟨⟨g1, g2, by rw [gi_si_a (by omega), gi_si_a (by omega), gi_si_a (by omega)]; exact g3⟩, fun j hj hd => ?_, fun t ht hc => ?_, h6, ?_, ?_, ?_⟩
  · unfold dok at hd
    rw [u0, u1] at hd
    by_cases e : j = 1
    · rw [e, show lA 1 = 0 from rfl, show lK 1 = 9 from rfl, Nat.add_zero a, gi_si_s, u1]
    · rw [gi_si, if_neg (fun q => e (lAK (j := 1) (by have : lA 1 = 0 := rfl; omega) q.2))]
      have a20 : lA (20 + c 1) = 3 := by have := lcs (20 + c 1); omega
      have k20 : lK (20 + c 1) = c 1 := by have := lcs (20 + c 1); omega
      have a36 : lA (36 + c 1) = 4 := by have := lcs (36 + c 1); omega
      have k36 : lK (36 + c 1) = c 1 := by have := lcs (36 + c 1); omega
      by_cases e36 : j = 36 + c 1
      · rw [e36, a36, k36, gi_si_s, u36]
      · rw [gi_si, if_neg (fun q => e36 (lAK (by omega) (by omega)))]
        by_cases e20 : j = 20 + c 1
        · rw [e20, a20, k20, gi_si_s, u20]
        · rw [gi_si, if_neg (fun q => e20 (lAK (by omega) (by omega))), u j e e20 e36]
          exact h4 j hj ⟨hd.1, fun _ _ => by omega⟩
  · rw [u0] at hc
    rw [gi_si_a (by omega), gi_si_a (by omega), gi_si_a (by omega)]; exact h5 t ht hc
  · rw [gi_si_a (by omega), gi_si_a (by omega), gi_si_a (by omega)]; exact h7
  · rw [gi_si_a (by omega), gi_si_a (by omega), gi_si_a (by omega)]; exact h8
  · rw [gi_si_a (by omega), gi_si_a (by omega), gi_si_a (by omega)]; exact h9
theorem DrC.law {σ : Sto} {a l v : Nat} {c : Nat → Nat} {nm : Nat → Int64} (h : DrC σ a c nm l) : DrC (si σ 41 2 (nI v)) a c nm v := by
  obtain ⟨⟨g1, g2, g3⟩, h4, h5, h6, h7, h8, h9⟩ := h
  have hr := g1.rg
  exact ⟨⟨g1, g2, gi_si_s⟩, fun j hj hd => by rw [gi_si_a (by have := lA7 (i := j); omega)]; exact h4 j hj hd, fun t ht hc => by rw [gi_si_a (by omega)]; exact h5 t ht hc, h6, by rw [gi_si_a (by omega)]; exact h7, by rw [gi_si_a (by omega)]; exact h8, by rw [gi_si_a (by omega)]; exact h9⟩
/-- the model's draft -/
def DrM (σ : Sto) (c : Nat → Nat) (nm : Nat → Int64) (l : Nat) : Prop := (∀ j, j < 421 → gi σ 106 (1684 + j) = nI (c j)) ∧ (∀ k, vN c k → gl σ 108 (96 + k) = nm k) ∧ gi σ 101 24 = nI l
def SDm (x k : Nat) : Prop := SM0 x k ∨ (x = 101 ∧ k = 24) ∨ (x = 106 ∧ 1684 ≤ k ∧ k < 2105) ∨ (x = 108 ∧ 96 ≤ k ∧ k < 120)
theorem DrM.eo {σ τ : Sto} {l : Nat} {c : Nat → Nat} {nm : Nat → Int64} (h : DrM σ c nm l) (e : Eo SM0 σ τ) : DrM τ c nm l :=
  ⟨fun j hj => by rw [e.1 _ _ (by unfold SM0; omega)]; exact h.1 j hj, fun k hk => by rw [e.2.1 _ _ (by unfold SM0; omega)]; exact h.2.1 k hk, by rw [e.1 _ _ (by unfold SM0; omega)]; exact h.2.2⟩
theorem DrM.nb {σ : Sto} {l : Nat} {c : Nat → Nat} {nm : Nat → Int64} (h : DrM σ c nm l) : NB σ 4 c nm := ⟨h.1 0 (by decide), h.1 2 (by decide), h.1 3 (by decide), h.2.1⟩
theorem RdM.city {σ τ : Sto} {T : Nat → Nat} {n : Nat} {t : TKn} (h : RdM σ T n t) (e : Eo (fun x k => (x = 101 ∧ k = 24) ∨ (x = 106 ∧ 1684 ≤ k ∧ k < 2105) ∨ (x = 108 ∧ 96 ≤ k ∧ k < 120)) σ τ) : RdM τ T n t := by
  obtain ⟨h1, h3, h4⟩ := h
  have g : ∀ k, k < 24 → gi τ 101 k = gi σ 101 k ∧ gl τ 101 k = gl σ 101 k := fun k hk => ⟨e.1 _ _ (by omega), e.2.1 _ _ (by omega)⟩
  refine ⟨⟨by rw [(g 9 (by omega)).1]; exact h1.1, h1.2.1, fun k hk => by rw [e.1 _ _ (by omega)]; exact h1.2.2 k hk⟩, ?_, h4⟩
  unfold TKM at h3 ⊢
  rw [(g 15 (by omega)).1, (g 16 (by omega)).1, (g 14 (by omega)).1, (g 18 (by omega)).1, (g 19 (by omega)).2, (g 17 (by omega)).1]
  exact h3
