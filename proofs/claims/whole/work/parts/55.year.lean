/-! ===== promise 19: year ===== -/
/-- one year: what is named is unmade, the year goes by -/
def yearC (c : Nat → Nat) : Nat → Nat := updC (updC c 6 (nextF c (c 6) (c 7))) 5 (c 5 + 1)
/-- n years, of the city's cells 6 (class: the date comes at the end) -/
def yearsC (c : Nat → Nat) (n : Nat) : Nat → Nat := updC (updC c 6 (gN c (c 6) (c 7) n)) 5 (c 5 + n)
theorem votedF_like {c d : Nat → Nat} (hs : likeS c d) (hv : likeV c d) (h4 : d 4 = c 4) {g x : Nat} : votedF d g x = votedF c g x := by
  unfold votedF
  rw [upF_like hs, nameF_like hv, h4]
theorem nextF_like {c d : Nat → Nat} (hs : likeS c d) (hv : likeV c d) (h4 : d 4 = c 4) {g x : Nat} : nextF d g x = nextF c g x := by
  unfold nextF
  rw [votedF_like hs hv h4]
theorem like56 {c : Nat → Nat} (ok : OK c) {g y : Nat} : likeS c (updC (updC c 6 g) 5 y) ∧ likeV c (updC (updC c 6 g) 5 y) ∧ updC (updC c 6 g) 5 y 4 = c 4 := by
  have := ok.n0
  have := ok.n1
  have := ok.n3
  have u : ∀ i, i ≠ 5 → i ≠ 6 → updC (updC c 6 g) 5 y i = c i := fun i h5 h6 => by rw [updC_n h5, updC_n h6]
  exact ⟨⟨u 0 (by decide) (by decide), u 1 (by decide) (by decide), fun m hm => u _ (by omega) (by omega), fun m hm => u _ (by omega) (by omega)⟩, ⟨u 0 (by decide) (by decide), u 3 (by decide) (by decide), fun v hv t ht => u _ (by omega) (by omega)⟩, u 4 (by decide) (by decide)⟩
theorem yearsC_6 {c : Nat → Nat} {n : Nat} : yearsC c n 6 = gN c (c 6) (c 7) n := by
  unfold yearsC; rw [updC_n (by decide), updC_s]
theorem yearsC_7 {c : Nat → Nat} {n : Nat} : yearsC c n 7 = c 7 := by
  unfold yearsC; rw [updC_n (by decide), updC_n (by decide)]
theorem yearsC_5 {c : Nat → Nat} {n : Nat} : yearsC c n 5 = c 5 + n := by
  unfold yearsC; rw [updC_s]
theorem yearsC_0 {c : Nat → Nat} (ok : OK c) : yearsC c 0 = c := by
  funext i
  unfold yearsC gN
  by_cases h5 : i = 5
  · subst h5; rw [updC_s]; rfl
  · rw [updC_n h5]
    by_cases h6 : i = 6
    · subst h6; rw [updC_s]
    · rw [updC_n h6]
theorem yearsC_s {c : Nat → Nat} (ok : OK c) {n : Nat} : yearC (yearsC c n) = yearsC c (n + 1) := by
  obtain ⟨ls, lv, l4⟩ := like56 ok (g := gN c (c 6) (c 7) n) (y := c 5 + n)
  have e1 : nextF (yearsC c n) (yearsC c n 6) (yearsC c n 7) = gN c (c 6) (c 7) (n + 1) := by
    rw [yearsC_6, yearsC_7]
    exact nextF_like ls lv l4
  funext i
  unfold yearC
  rw [e1, yearsC_5]
  by_cases h5 : i = 5
  · subst h5; rw [updC_s, yearsC_5]; omega
  · rw [updC_n h5]
    by_cases h6 : i = 6
    · subst h6; rw [updC_s, yearsC_6]
    · rw [updC_n h6]
      unfold yearsC
      rw [updC_n h5, updC_n h6, updC_n h5, updC_n h6]
theorem yearsC_OK {c : Nat → Nat} (ok : OK c) {n : Nat} (hn : c 5 + n ≤ 9999) : OK (yearsC c n) := by
  have h6 : OK (updC c 6 (gN c (c 6) (c 7) n)) := ok.put (Or.inr (Or.inl ⟨rfl, gN_lt ok.n6 n⟩))
  exact h6.put (Or.inl ⟨rfl, hn⟩)
theorem t_goesYear {σ : Sto} {c : Nat → Nat} {P : Int32 → Sto → Prop} (h : MR σ c) (ok : OK c) (k : ∀ τ, Eo SMD σ τ → MR τ (yearC c) → gi τ 101 0 = gi σ 101 0 → P (if votedF c (c 6) (c 7) = 0 then 0 else 1) τ) : w_X12_goesYear σ P := by
  have := ok.n0
  have := ok.n5
  unfold w_X12_goesYear
  rw [h 6 (by decide), h 7 (by decide)]
  refine t_voted h ok (fun τ e => ?_)
  have hτ : MR τ c := h.sm (e.mo (fun _ _ => S109m))
  have hle := votedF_le (c := c) (g := c 6) (x := c 7)
  have e' : Eo SMD σ τ := smd (e.mo (fun _ _ => S109m))
  have hst : gi τ 101 0 = gi σ 101 0 := e.1 _ _ (by intro q; rcases q with q | q <;> cases q)
  have hyc : yearC c = updC (updC c 6 (nextF c (c 6) (c 7))) 5 (c 5 + 1) := rfl
  unfold nextF at hyc
  unfold w_X12_goesYear_46
  rw [hτ 5 (by decide), show (1 : Int32) = nI 1 from rfl, jI_add]
  generalize votedF c (c 6) (c 7) = m at hle k hyc ⊢
  have h5 := hτ.put 5 (c 5 + 1)
  have e5 : Eo SMD σ (si τ 106 5 (nI (c 5 + 1))) := e'.tr (Eo.si (Or.inr ⟨rfl, by decide, by decide⟩))
  cases m with
  | zero =>
    rw [if_pos (by decide), if_pos (by decide)]
    rw [if_pos rfl] at k hyc
    refine k _ e5 ?_ (by rw [gi_si_a (by decide)]; exact hst)
    have : yearC c = updC c 5 (c 5 + 1) := by
      rw [hyc]
      funext i
      by_cases h5 : i = 5
      · subst h5; rw [updC_s, updC_s]
      · rw [updC_n h5, updC_n h5]
        by_cases h6 : i = 6
        · subst h6; rw [updC_s]
        · rw [updC_n h6]
    rw [this]
    exact h5
  | succ t =>
    rw [if_neg (by omega)] at k hyc
    rw [Nat.add_sub_cancel] at hyc
    rw [show oI (t + 1) = nI t from rfl, if_neg (jI_neg (by omega))]
    rintro σ5 rfl
    rw [if_neg (jI_neg (by omega))]
    have h6r : gi (si τ 106 5 (nI (c 5 + 1))) 106 6 = nI (c 6) := by rw [gi_si_k (by decide)]; exact hτ 6 (by decide)
    rw [h6r, jI_31 (by omega), jI_shl (by omega), Nat.one_shiftLeft, jI_or]
    have h56 := h5.put 6 (c 6 ||| 2 ^ t)
    refine k _ (e5.tr (Eo.si (Or.inr ⟨rfl, by decide, by decide⟩))) ?_ (by rw [gi_si_a (by decide), gi_si_a (by decide)]; exact hst)
    have : yearC c = updC (updC c 5 (c 5 + 1)) 6 (c 6 ||| 2 ^ t) := by
      rw [hyc]
      funext i
      by_cases h5 : i = 5
      · subst h5; rw [updC_s, updC_n (by decide), updC_s]
      · rw [updC_n h5]
        by_cases h6 : i = 6
        · subst h6; rw [updC_s, updC_s]
        · rw [updC_n h6, updC_n h6, updC_n h5]
    rw [this]
    exact h56
