/-! ===== deeds: a cell of the city's picture changes ===== -/
def updC (c : Nat → Nat) (k v : Nat) : Nat → Nat := fun i => if i = k then v else c i
theorem updC_s {c : Nat → Nat} {k v : Nat} : updC c k v k = v := if_pos rfl
theorem updC_n {c : Nat → Nat} {k v i : Nat} (h : i ≠ k) : updC c k v i = c i := if_neg h
theorem MR.put {σ : Sto} {c : Nat → Nat} (h : MR σ c) (k v : Nat) : MR (si σ 106 k (nI v)) (updC c k v) := fun i hi => by
  by_cases hk : i = k
  · subst hk; rw [gi_si_s, updC_s]
  · rw [gi_si_k hk, updC_n hk]; exact h i hi
/-- what the closure asks of the city -/
def likeS (c d : Nat → Nat) : Prop := d 0 = c 0 ∧ d 1 = c 1 ∧ (∀ m, m < c 1 → d (20 + m) = c (20 + m)) ∧ ∀ m, m < c 1 → d (36 + m) = c (36 + m)
theorem madeF_like {c d : Nat → Nat} (h : likeS c d) : madeF d = madeF c := by
  obtain ⟨_, h1, hm, _⟩ := h
  unfold madeF
  rw [h1]
  exact foldN_congr (c 1) (fun m hmm s => by rw [hm m hmm])
theorem passF_like {c d : Nat → Nat} (h : likeS c d) {g mk s : Nat} : passF d g mk s = passF c g mk s := by
  obtain ⟨_, h1, hm, hp⟩ := h
  unfold passF
  rw [h1]
  exact foldN_congr (c 1) (fun m hmm s => by unfold stepF; rw [hm m hmm, hp m hmm])
theorem stI_like {c d : Nat → Nat} (h : likeS c d) {g mk : Nat} : ∀ r, stI d g mk r = stI c g mk r
  | 0 => by
    unfold stI
    rw [madeF_like h, h.1]
  | r + 1 => by
    unfold stI
    rw [passF_like h, stI_like h r]
theorem upF_like {c d : Nat → Nat} (h : likeS c d) {g : Nat} : upF d g = upF c g := stI_like h 13
/-- what the vote asks of the city -/
def likeV (c d : Nat → Nat) : Prop := d 0 = c 0 ∧ d 3 = c 3 ∧ ∀ v, v < c 3 → ∀ t, t < c 0 → d (58 + 12 * v + t) = c (58 + 12 * v + t)
theorem favF_like {c d : Nat → Nat} (h : likeV c d) {set v : Nat} (hv : v < c 3) : favF d set v = favF c set v := by
  unfold favF
  rw [h.1, foldN_congr (f := favS d set v) (g := favS c set v) (c 0) (fun t ht p => by unfold favS hateF; rw [h.2.2 v hv t ht])]
theorem countsF_like {c d : Nat → Nat} (h : likeV c d) {set : Nat} : countsF d set = countsF c set := by
  funext t
  unfold countsF cntF
  rw [h.2.1]
  exact foldN_congr (c 3) (fun v hv s => by rw [favF_like h hv])
theorem holdF_like {c d : Nat → Nat} (h : likeV c d) {s : Nat} {cnt : Nat → Nat} : holdF d s cnt = holdF c s cnt := by
  unfold holdF
  rw [h.1]
theorem l2F_like {c d : Nat → Nat} (h : likeV c d) : ∀ n s got, l2F d n s got = l2F c n s got
  | 0, _, _ => rfl
  | n + 1, s, got => by
    unfold l2F
    rw [countsF_like h, holdF_like h, l2F_like h n]
theorem hatF_like {c d : Nat → Nat} (h : likeV c d) {t : Nat} (ht : t < c 0) : hatF d (c 3) t = hatF c (c 3) t :=
  foldN_congr (c 3) (fun v hv s => by unfold hateF; rw [h.2.2 v hv t ht])
theorem mostF_like {c d : Nat → Nat} (h : d 0 = c 0) {f g : Nat → Nat} (hfg : ∀ t, t < c 0 → f t = g t) : mostF d f = mostF c g := by
  unfold mostF
  rw [h]
  have : ∀ n, n ≤ c 0 → foldN (mostS f) 0 n = foldN (mostS g) 0 n := fun n => by
    induction n with
    | zero => intro _; rfl
    | succ n ih =>
      intro hn
      show mostS f (foldN (mostS f) 0 n) n = mostS g (foldN (mostS g) 0 n) n
      rw [ih (by omega)]
      have hb := mostF_le (c := c) (got := g) (n := n)
      generalize foldN (mostS g) 0 n = b at hb ⊢
      unfold mostS
      rw [hfg n (by omega)]
      by_cases h0 : b = 0
      · simp [h0]
      · rw [hfg (b - 1) (by omega)]
  exact this (c 0) (Nat.le_refl _)
theorem nameF_like {c d : Nat → Nat} (h : likeV c d) {law s : Nat} : nameF d law s = nameF c law s := by
  unfold nameF
  rw [l2F_like h]
  by_cases h2 : law = 2
  · rw [if_pos h2, if_pos h2]
  · rw [if_neg h2, if_neg h2]
    refine mostF_like h.1 (fun t ht => ?_)
    unfold gotF
    rw [if_neg h2, if_neg h2]
    by_cases h1 : law = 1
    · rw [if_pos h1, if_pos h1]
      unfold sumF sumN
      rw [h.2.1, hatF_like h ht]
    · rw [if_neg h1, if_neg h1, countsF_like h]
theorem likeS_upd {c : Nat → Nat} (ok : OK c) {k v : Nat} (h0 : k ≠ 0) (h1 : k ≠ 1) (h2 : k < 20 ∨ 52 ≤ k) : likeS c (updC c k v) := by
  have := ok.n1
  exact ⟨updC_n (by omega), updC_n (by omega), fun m hm => updC_n (by omega), fun m hm => updC_n (by omega)⟩
theorem likeV_upd {c : Nat → Nat} {k v : Nat} (h0 : k ≠ 0) (h1 : k ≠ 3) (h2 : k < 58 ∨ 130 ≤ k) (ok : OK c) : likeV c (updC c k v) := by
  have := ok.n3
  have := ok.n0
  exact ⟨updC_n (by omega), updC_n (by omega), fun v hv t ht => updC_n (by omega)⟩
theorem CR.put {σ : Sto} {a : Nat} {c : Nat → Nat} (h : CR σ a c) {k v : Nat} (hk : 4 ≤ k ∧ k ≤ 7) : CR (si σ a (8 + k) (nI v)) a (updC c k v) := by
  obtain ⟨h0, h1, h2, h3, h4, h5, h6⟩ := h
  have u : ∀ i, i ≠ k → updC c k v i = c i := fun i hi => updC_n hi
  rw [CR, u 0 (by omega), u 1 (by omega), u 2 (by omega), u 3 (by omega)]
  refine ⟨fun i hi => ?_, fun t ht => ?_, fun t ht => ?_, fun t ht => ?_, fun t ht => ?_, fun v hv t ht => ?_, fun t ht => ?_⟩
  · by_cases hik : i = k
    · subst hik; rw [gi_si_s, updC_s]
    · rw [gi_si_k (by omega), u i hik]; exact h0 i hi
  · rw [gi_si_a (by omega), u _ (by omega)]; exact h1 t ht
  · rw [gi_si_a (by omega), u _ (by omega)]; exact h2 t ht
  · rw [gi_si_a (by omega), u _ (by omega)]; exact h3 t ht
  · rw [gi_si_a (by omega), u _ (by omega)]; exact h4 t ht
  · rw [gi_si_a (by omega), u _ (by omega)]; exact h5 v hv t ht
  · rw [gi_si_a (by omega), u _ (by omega)]; exact h6 t ht
theorem KW.put {N : Nat} {σ : Sto} {c : Nat → Nat} (h : KW N σ c) (ok : OK c) {k v : Nat} (hk : k = 5 ∨ k = 6 ∨ k = 7) : KW N (si σ (gr σ 1 11) (8 + k) (nI v)) (updC c k v) := by
  obtain ⟨h1, h2, h3, h4, h5, h6, ⟨hc, hr, hm, s, hs1, hsN, hst, hkn⟩, ⟨hbc, hbr⟩, b, hb1, hbN, hbt, hbk⟩ := h
  have hrg := h1.rg
  have lS : likeS c (updC c k v) := likeS_upd ok (by omega) (by omega) (by omega)
  have lV : likeV c (updC c k v) := likeV_upd (by omega) (by omega) (by omega) ok
  have hcr : CR (si σ (gr σ 1 11) (8 + k) (nI v)) (gr σ 1 11) (updC c k v) := by
    rw [h2] at hr
    exact hr.put (by omega)
  have h88 : ∀ j, gi (si σ (gr σ 1 11) (8 + k) (nI v)) 88 j = gi σ 88 j := fun j => gi_si_a (by omega)
  have h89 : ∀ j, gi (si σ (gr σ 1 11) (8 + k) (nI v)) 89 j = gi σ 89 j := fun j => gi_si_a (by omega)
  have h90 : ∀ j, gi (si σ (gr σ 1 11) (8 + k) (nI v)) 90 j = gi σ 90 j := fun j => gi_si_a (by omega)
  have h91 : ∀ j, gi (si σ (gr σ 1 11) (8 + k) (nI v)) 91 j = gi σ 91 j := fun j => gi_si_a (by omega)
  refine ⟨h1, h2, h3, h4, h5, h6, ⟨hc, by rw [gr_si, h2]; exact hcr, by rw [h88, hm, madeF_like lS], s, hs1, hsN, by rw [h88]; exact hst, fun g hg => ?_⟩, ⟨hbc, by rw [gr_si, h3]; exact hcr⟩, b, hb1, hbN, by rw [h90]; exact hbt, fun o ho => ?_⟩
  · rw [h89, upF_like lS]; exact hkn g hg
  · rw [h91, nameF_like lV, updC_n (show (4 : Nat) ≠ k by omega)]; exact hbk o ho
