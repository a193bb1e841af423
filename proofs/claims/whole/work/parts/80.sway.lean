/-! ===== promise 28: sway ===== -/
def hatO (c : Nat → Nat) (v n t : Nat) : Nat := foldN (fun s w => if w = v then s else s + hateF c w t) 0 n
theorem hatO_eq {c : Nat → Nat} {v t : Nat} : ∀ n, hatF c n t = hatO c v n t + (if v < n then hateF c v t else 0)
  | 0 => rfl
  | n + 1 => by
    have ih := hatO_eq (c := c) (v := v) (t := t) n
    show hatF c n t + hateF c n t = (if n = v then hatO c v n t else hatO c v n t + hateF c n t) + _
    rw [ih]
    by_cases h : n = v
    · subst h
      rw [if_pos rfl, if_neg (by omega), if_pos (by omega)]
      omega
    · rw [if_neg h]
      by_cases h2 : v < n
      · rw [if_pos h2, if_pos (by omega)]; omega
      · rw [if_neg h2, if_neg (by omega)]; omega
def swG (c : Nat → Nat) (v law op u : Nat) : Nat := if law = 0 then cntB c (fun w => decide (nI w = nI v)) op (c 3) u else hatO c v (c 3) u
def swK (law : Nat) : Nat := if law = 0 then 1 else 9
def swW (c : Nat → Nat) (v law op t u : Nat) : Nat := if op.testBit u = true then swG c v law op u + (if u = t then swK law else 0) else 0
def swF (c : Nat → Nat) (v : Nat) : Nat := foldN (fun s t => if mostF c (swW c v (c 4) (openF c) t) = t + 1 then s ||| 2 ^ t else s) 0 (c 0)
/-- the first of those with the most -/
def isTop (c g : Nat → Nat) (b : Nat) : Prop := b < c 0 ∧ 0 < g b ∧ (∀ u, u < b → g u < g b) ∧ ∀ u, u < c 0 → g u ≤ g b
theorem most_in {g : Nat → Nat} : ∀ n, (foldN (mostS g) 0 n = 0 ∧ ∀ u, u < n → g u = 0) ∨ ∃ b, foldN (mostS g) 0 n = b + 1 ∧ b < n ∧ 0 < g b ∧ (∀ u, u < b → g u < g b) ∧ ∀ u, u < n → g u ≤ g b
  | 0 => Or.inl ⟨rfl, fun u hu => absurd hu (Nat.not_lt_zero _)⟩
  | n + 1 => by
    have ih := most_in (g := g) n
    show (mostS g (foldN (mostS g) 0 n) n = 0 ∧ _) ∨ ∃ b, mostS g (foldN (mostS g) 0 n) n = b + 1 ∧ _
    generalize foldN (mostS g) 0 n = p at ih ⊢
    unfold mostS
    by_cases hc : 0 < g n ∧ (p = 0 ∨ g (p - 1) < g n)
    · rw [if_pos hc]
      refine Or.inr ⟨n, rfl, by omega, hc.1, fun u hu => ?_, fun u hu => ?_⟩
      · rcases ih with ⟨i1, i2⟩ | ⟨b, i1, i2, i3, i4, i5⟩
        · rw [i2 u hu]; exact hc.1
        · have := i5 u hu
          rw [i1, Nat.add_sub_cancel] at hc
          omega
      · by_cases hun : u = n
        · rw [hun]; exact Nat.le_refl _
        · rcases ih with ⟨i1, i2⟩ | ⟨b, i1, i2, i3, i4, i5⟩
          · rw [i2 u (by omega)]; exact Nat.zero_le _
          · have := i5 u (by omega)
            rw [i1, Nat.add_sub_cancel] at hc
            omega
    · rw [if_neg hc]
      rcases ih with ⟨i1, i2⟩ | ⟨b, i1, i2, i3, i4, i5⟩
      · refine Or.inl ⟨i1, fun u hu => ?_⟩
        by_cases hun : u = n
        · rw [hun]
          refine Classical.byContradiction (fun q => hc ⟨by omega, Or.inl i1⟩)
        · exact i2 u (by omega)
      · refine Or.inr ⟨b, i1, by omega, i3, i4, fun u hu => ?_⟩
        by_cases hun : u = n
        · rw [hun]
          rw [i1, Nat.add_sub_cancel] at hc
          refine Classical.byContradiction (fun q => hc ⟨by omega, Or.inr (by omega)⟩)
        · exact i5 u (by omega)
theorem most_top {c g : Nat → Nat} {b : Nat} : mostF c g = b + 1 ↔ isTop c g b := by
  unfold mostF isTop
  rcases most_in (g := g) (c 0) with ⟨i1, i2⟩ | ⟨b', i1, i2, i3, i4, i5⟩
  · rw [i1]
    constructor
    · intro h; omega
    · rintro ⟨h1, h2, -⟩
      rw [i2 b h1] at h2; omega
  · rw [i1]
    constructor
    · intro h
      have : b' = b := by omega
      subst this
      exact ⟨i2, i3, i4, i5⟩
    · rintro ⟨h1, h2, h3, h4⟩
      have h5 := i5 b h1
      have h6 := h4 b' i2
      have : b' = b := Classical.byContradiction (fun q => by
        by_cases hl : b' < b
        · have := h3 b' hl; omega
        · have := i4 b (by omega); omega)
      rw [this]
theorem swK_pos {law : Nat} : 0 < swK law := by
  unfold swK
  split <;> decide
theorem sw_self {c : Nat → Nat} {v law op t u : Nat} (h : mostF c (swW c v law op t) = u + 1) : op.testBit u = true ∧ mostF c (swW c v law op u) = u + 1 := by
  obtain ⟨h1, h2, h3, h4⟩ := most_top.mp h
  have hu : op.testBit u = true := by
    cases hb : op.testBit u with
    | true => rfl
    | false =>
      unfold swW at h2
      rw [hb] at h2
      simp at h2
  have hk := swK_pos (law := law)
  refine ⟨hu, ?_⟩
  by_cases htu : t = u
  · rw [htu] at h; exact h
  have e1 : swW c v law op t u = swG c v law op u := by
    unfold swW
    rw [if_pos hu, if_neg (fun q => htu q.symm)]
    rfl
  have e2 : swW c v law op u u = swG c v law op u + swK law := by
    unfold swW
    rw [if_pos hu, if_pos rfl]
  have e3 : ∀ w, w ≠ u → swW c v law op u w ≤ swW c v law op t w := fun w hw => by
    unfold swW
    by_cases hb : op.testBit w = true
    · rw [if_pos hb, if_pos hb, if_neg hw]
      split <;> omega
    · rw [if_neg hb, if_neg hb]
      exact Nat.le_refl _
  refine most_top.mpr ⟨h1, by omega, fun w hw => ?_, fun w hw => ?_⟩
  · have a := h3 w hw
    have b := e3 w (by omega)
    omega
  · by_cases hwu : w = u
    · rw [hwu]; exact Nat.le_refl _
    · have a := h4 w hw
      have b := e3 w hwu
      omega
theorem sw_some {c : Nat → Nat} {v law op t : Nat} (ht : t < c 0) (h : op.testBit t = true) : mostF c (swW c v law op t) ≠ 0 := fun q => by
  unfold mostF at q
  rcases most_in (g := swW c v law op t) (c 0) with ⟨-, i2⟩ | ⟨b, i1, -⟩
  · have h1 := i2 t ht
    have hk := swK_pos (law := law)
    unfold swW at h1
    rw [if_pos h, if_pos rfl] at h1
    omega
  · omega
def swC (c : Nat → Nat) (v law op s t : Nat) : Nat := if op.testBit t = true then s ||| (if mostF c (swW c v law op t) = 0 then 0 else 2 ^ (mostF c (swW c v law op t) - 1)) else s
theorem fold_bit {p : Nat → Prop} (dp : ∀ t, Decidable (p t)) {k : Nat} : ∀ n, (foldN (fun s t => @ite Nat (p t) (dp t) (s ||| 2 ^ t) s) 0 n).testBit k = true ↔ k < n ∧ p k
  | 0 => by
    show (0 : Nat).testBit k = true ↔ _
    simp
  | n + 1 => by
    have ih := fold_bit dp (k := k) n
    show (@ite Nat (p n) (dp n) (foldN (fun s t => @ite Nat (p t) (dp t) (s ||| 2 ^ t) s) 0 n ||| 2 ^ n) (foldN (fun s t => @ite Nat (p t) (dp t) (s ||| 2 ^ t) s) 0 n)).testBit k = true ↔ _
    by_cases hp : p n
    · rw [if_pos hp, Nat.testBit_or, two_bit, Bool.or_eq_true, ih]
      by_cases hkn : n = k
      · subst hkn
        simp [hp]
      · simp only [hkn, decide_false, Bool.false_eq_true, or_false]
        constructor
        · rintro ⟨a, b⟩; exact ⟨by omega, b⟩
        · rintro ⟨a, b⟩; exact ⟨by omega, b⟩
    · rw [if_neg hp, ih]
      constructor
      · rintro ⟨a, b⟩; exact ⟨by omega, b⟩
      · rintro ⟨a, b⟩
        refine ⟨?_, b⟩
        by_cases hkn : k = n
        · rw [hkn] at b; exact absurd b hp
        · omega
theorem swC_bit {c : Nat → Nat} {v law op k : Nat} : ∀ n, (foldN (swC c v law op) 0 n).testBit k = true ↔ ∃ t, t < n ∧ op.testBit t = true ∧ mostF c (swW c v law op t) = k + 1
  | 0 => by
    show (0 : Nat).testBit k = true ↔ _
    simp
  | n + 1 => by
    have ih := swC_bit (c := c) (v := v) (law := law) (op := op) (k := k) n
    show (swC c v law op (foldN (swC c v law op) 0 n) n).testBit k = true ↔ _
    generalize foldN (swC c v law op) 0 n = s at ih ⊢
    unfold swC
    by_cases hb : op.testBit n = true
    · rw [if_pos hb, Nat.testBit_or, Bool.or_eq_true, ih]
      have e1 : (if mostF c (swW c v law op n) = 0 then 0 else 2 ^ (mostF c (swW c v law op n) - 1)).testBit k = true ↔ mostF c (swW c v law op n) = k + 1 := by
        by_cases hz : mostF c (swW c v law op n) = 0
        · rw [if_pos hz, Nat.zero_testBit]
          constructor
          · intro h; cases h
          · intro h; omega
        · rw [if_neg hz, two_bit, decide_eq_true_eq]
          omega
      rw [e1]
      constructor
      · rintro (⟨t, a, b, d⟩ | h)
        · exact ⟨t, by omega, b, d⟩
        · exact ⟨n, by omega, hb, h⟩
      · rintro ⟨t, a, b, d⟩
        by_cases htn : t = n
        · rw [htn] at d; exact Or.inr d
        · exact Or.inl ⟨t, by omega, b, d⟩
    · rw [if_neg hb, ih]
      constructor
      · rintro ⟨t, a, b, d⟩; exact ⟨t, by omega, b, d⟩
      · rintro ⟨t, a, b, d⟩
        by_cases htn : t = n
        · rw [htn] at b; exact absurd b hb
        · exact ⟨t, by omega, b, d⟩
theorem swC_F {c : Nat → Nat} {v : Nat} : foldN (swC c v (c 4) (openF c)) 0 (c 0) = swF c v := Nat.eq_of_testBit_eq (fun k => by
  unfold swF
  rw [Bool.eq_iff_iff, swC_bit, fold_bit (p := fun t => mostF c (swW c v (c 4) (openF c) t) = t + 1)]
  constructor
  · rintro ⟨t, a, b, d⟩
    have h1 := sw_self d
    exact ⟨(most_top.mp d).1, h1.2⟩
  · rintro ⟨a, d⟩
    exact ⟨k, a, (sw_self d).1, d⟩)
theorem hatO_le {c : Nat → Nat} (ok : OK c) {v t : Nat} (ht : t < 12) : hatO c v (c 3) t ≤ 54 := by
  have h1 := hatO_eq (c := c) (v := v) (t := t) (c 3)
  have h2 := hatF_le ok ht (c 3) (Nat.le_refl _)
  have h3 := ok.n3
  omega
theorem swG_le {c : Nat → Nat} (ok : OK c) {v law op t : Nat} (ht : t < 12) : swG c v law op t ≤ 54 := by
  have h3 := ok.n3
  unfold swG
  split
  · have := cntB_le (c := c) (sk := fun w => decide (nI w = nI v)) (set := op) (t := t) (c 3)
    omega
  · exact hatO_le ok ht
def swayA (c : Nat → Nat) (x : Int32) : Int32 × Int32 := if ¬ x < 0 ∧ x < nI (c 3) then (if c 4 = 2 then (-1, 9) else (nI (swF c (tn x)), 0)) else (-1, 2)
theorem e92 {N : Nat} {σ τ : Sto} {c : Nat → Nat} (h : KW N σ c) (e : Eo S92 σ τ) : KW N τ c :=
  h.mk e ⟨h.kb.1.eo e (fun a k q => by unfold S92 at q; omega), h.kb.2.eo e NoC92 (by unfold S92; decide) (fun k q => by unfold S92 at q; omega)⟩
theorem S92q {a k : Nat} (h : S92 a k) : SQ a k := by unfold S92 at h; unfold SQ; omega
theorem c_sway_loop {σ : Sto} {c : Nat → Nat} {P : Int32 → Sto → Prop} {N : Nat} (h : KW N σ c) (ok : OK c) {v law op : Nat} (hg : ∀ u, u < c 0 → op.testBit u = true → gi σ 92 u = nI (swG c v law op u)) (hg2 : ∀ u, u < c 0 → ∃ x, x ≤ 100 ∧ gi σ 92 u = nI x) (k : ∀ τ, Eo S92 σ τ → P (nI (foldN (swC c v law op) 0 (c 0))) τ) :
    Lp (fun (K : Int32 × Int32 × Sto → Prop) s => w_X0_swayedBy_105 K (nI op) (nI (swK law)) s.1 s.2.1 s.2.2 P) (0, 0, σ) := by
  have := ok.n0
  have hK9 : swK law ≤ 9 := by unfold swK; split <;> decide
  refine Lp_for (c 0) (fun j q => q.1 = nI (foldN (swC c v law op) 0 j) ∧ q.2.1 = nI j ∧ Eo S92 σ q.2.2 ∧ ∀ u, u < c 0 → gi q.2.2 92 u = gi σ 92 u) ⟨rfl, rfl, Eo.rf, fun _ _ => rfl⟩ ?_ ?_
  · rintro j hj K ⟨x4, x5, τ⟩ ⟨r4, r5, e, hsame⟩ hK
    dsimp only at r4 r5 e hsame hK ⊢
    subst r4 r5
    have hw := e92 h e
    have hn : ¬ c 0 ≤ j := by omega
    have hst : foldN (swC c v law op) 0 (j + 1) = swC c v law op (foldN (swC c v law op) 0 j) j := rfl
    rw [hst] at hK
    generalize foldN (swC c v law op) 0 j = s at hK ⊢
    unfold w_X0_swayedBy_105
    refine ⟨hw.kb.2.1.1, ?_⟩
    rw [show gi τ (gr τ 90 3) 8 = nI (c 0) from hw.kb.2.1.f (k := 0) (by decide), if_neg (by rw [jI_le (by omega) (by omega)]; exact hn), jI_31 (by omega), N0, N1, jI_add]
    simp only [jI_bit0 (show j < 32 by omega)]
    cases hb : op.testBit j
    · rw [if_pos rfl]
      rintro x rfl
      refine hK _ ⟨?_, rfl, e, hsame⟩
      dsimp only
      unfold swC
      rw [hb]
      rfl
    · rw [if_neg (by decide), tn_nI (by omega), hsame j hj]
      refine ⟨vp_nI (by omega) (by decide), ?_⟩
      have hgj := hg j hj hb
      have hgle := swG_le ok (v := v) (law := law) (op := op) (t := j) (by omega)
      rw [hgj, jI_add]
      have e2 : Eo S92 τ (si τ 92 j (nI (swG c v law op j + swK law))) := Eo.si rfl
      have hw2 := e92 hw e2
      -- what is counted now
      have hx : ∀ u, ∃ x, u < c 0 → x ≤ 100 ∧ gi (si τ 92 j (nI (swG c v law op j + swK law))) 92 u = nI x ∧ (op.testBit u = true → x = swG c v law op u + (if u = j then swK law else 0)) := fun u => by
        by_cases huc : u < c 0
        · by_cases huj : u = j
          · subst huj
            exact ⟨swG c v law op u + swK law, fun _ => ⟨by omega, gi_si_s, fun _ => by rw [if_pos rfl]⟩⟩
          · obtain ⟨x, hx1, hx2⟩ := hg2 u huc
            cases hbu : op.testBit u
            · exact ⟨x, fun _ => ⟨hx1, by rw [gi_si_k huj, hsame u huc]; exact hx2, fun q => by cases q⟩⟩
            · have hgu := swG_le ok (v := v) (law := law) (op := op) (t := u) (by omega)
              exact ⟨swG c v law op u, fun _ => ⟨by omega, by rw [gi_si_k huj, hsame u huc]; exact hg u huc hbu, fun _ => by rw [if_neg huj]; rfl⟩⟩
        · exact ⟨0, fun q => absurd q huc⟩
      obtain ⟨gg, hgg⟩ := Classical.axiomOfChoice hx
      refine t_most hw2.kb.2.1 ok (got := fun u => if u < c 0 then gg u else 0) (fun u hu => ?_) (fun u hu => ?_) ?_
      · by_cases hq : u < c 0
        · rw [if_pos hq]
          have := (hgg u hq).1
          omega
        · rw [if_neg hq]
          omega
      · rw [if_pos hu]
        exact (hgg u hu).2.1
      · have em : mostF c (fun t => if op.testBit t = true then (fun u => if u < c 0 then gg u else 0) t else 0) = mostF c (swW c v law op j) := mostF_like rfl (fun u hu => by
          dsimp only
          unfold swW
          cases hbu : op.testBit u
          · rfl
          · rw [if_pos hu, if_pos rfl, if_pos rfl]
            exact (hgg u hu).2.2 hbu)
        rw [em]
        have hle := mostF_le (c := c) (got := swW c v law op j) (n := c 0)
        have fin : ∀ z, nI s ||| z = nI (swC c v law op s j) → w_X0_swayedBy_160 K (nI op) (nI (swK law)) (nI j) z (nI s) (si τ 92 j (nI (swG c v law op j + swK law))) P := fun z hz => by
          unfold w_X0_swayedBy_160
          rw [hz, N1, jI_add, tn_nI (by omega), gi_si_s, jI_sub (by omega), Nat.add_sub_cancel]
          rintro x rfl
          refine ⟨vp_nI (by omega) (by decide), ?_⟩
          rintro y rfl
          refine hK _ ⟨rfl, rfl, (e.tr e2).tr (Eo.si rfl), fun u hu => ?_⟩
          dsimp only
          by_cases huj : u = j
          · subst huj; rw [gi_si_s, hgj]
          · rw [gi_si_k huj, gi_si_k huj]; exact hsame u hu
        have hm : foldN (mostS (swW c v law op j)) 0 (c 0) = mostF c (swW c v law op j) := rfl
        rw [hm] at hle
        have hsc : swC c v law op s j = s ||| (if mostF c (swW c v law op j) = 0 then 0 else 2 ^ (mostF c (swW c v law op j) - 1)) := by
          unfold swC
          rw [if_pos hb]
        rw [hsc] at fin
        generalize mostF c (swW c v law op j) = m at fin hle ⊢
        cases m with
        | zero =>
          rw [if_pos (show oI 0 = -nI 1 from rfl)]
          exact fin (nI 0) (by rw [jI_or]; rfl)
        | succ m =>
          rw [show oI (m + 1) = nI m from rfl, if_neg (show ¬ nI m = -nI 1 from jI_none (by omega)), ← N1, bit1 (by omega)]
          exact fin _ (by rw [jI_or, if_neg (by omega), Nat.add_sub_cancel])
  · rintro K ⟨x4, x5, τ⟩ ⟨r4, r5, e, hsame⟩
    dsimp only at r4 r5 e hsame ⊢
    subst r4 r5
    have hw := e92 h e
    unfold w_X0_swayedBy_105
    refine ⟨hw.kb.2.1.1, ?_⟩
    rw [show gi τ (gr τ 90 3) 8 = nI (c 0) from hw.kb.2.1.f (k := 0) (by decide), if_pos (by rw [jI_le (by omega) (by omega)]; exact Nat.le_refl _)]
    exact k τ e
theorem c_sway {σ : Sto} {c : Nat → Nat} {P : Int32 → Sto → Prop} {N : Nat} (h : KW N σ c) (ok : OK c) (hN : N ≤ 2000) {x : Int32} (k : ∀ τ, Eo SQ σ τ → KW N τ c → gi τ 1 15 = (swayA c x).2 → P (swayA c x).1 τ) : w_X11_sway x σ P := by
  have := ok.n0
  have := ok.n3
  have := ok.n4
  unfold w_X11_sway
  refine t_noVoter h ok (fun hx => ?_) (fun hx => ?_)
  · rw [if_pos rfl]
    obtain ⟨v, hv, rfl⟩ := hx
    have e1 : swayA c (nI v) = if c 4 = 2 then (-1, 9) else (nI (swF c v), 0) := by
      unfold swayA
      rw [ifD_pos hv (by omega), tn_nI (by omega)]
    rw [e1] at k
    refine ⟨h.1, ?_⟩
    rw [show gi σ (gr σ 1 11) 12 = nI (c 4) from h.f (k := 4) (by decide), N2]
    by_cases h2 : c 4 = 2
    · rw [if_pos h2] at k
      rw [if_pos (by rw [h2])]
      exact k _ stq h.st gi_si_s
    rw [if_neg h2] at k
    rw [if_neg (by rw [jI_eq (by omega) (by decide)]; exact h2)]
    unfold w_X0_swayedBy
    refine t_openNow h.kb ok hN (fun υ e2 hb2 => ?_)
    have hw2 : KW N υ c := h.mk e2 hb2
    have e2' : Eo SQ σ υ := e2.mo (fun _ _ => S89q)
    have hol := openF_lt ok
    refine ⟨hw2.kb.2.1.1, ?_⟩
    rw [show gi υ (gr υ 90 3) 12 = nI (c 4) from hw2.kb.2.1.f (k := 4) (by decide)]
    have fin : ∀ τ, Eo S92 υ τ → (∀ u, u < c 0 → (openF c).testBit u = true → gi τ 92 u = nI (swG c v (c 4) (openF c) u)) → (∀ u, u < c 0 → ∃ x, x ≤ 100 ∧ gi τ 92 u = nI x) → Lp (fun (K : Int32 × Int32 × Sto → Prop) s => w_X0_swayedBy_105 K (nI (openF c)) (nI (swK (c 4))) s.1 s.2.1 s.2.2 (fun r_7 σ_6 => w_X11_fine r_7 σ_6 (fun r_9 σ_8 => P r_9 σ_8))) (0, 0, τ) := fun τ e3 hg1 hg2 => by
      have hw3 := e92 hw2 e3
      refine c_sway_loop hw3 ok hg1 hg2 (fun φ e4 => ?_)
      rw [swC_F]
      exact k _ (((e2'.tr (e3.mo (fun _ _ => S92q))).tr (e4.mo (fun _ _ => S92q))).tr stq) (e92 hw3 e4).st gi_si_s
    have go : w_X0_swayedBy_21 (nI v) (nI (openF c)) (nI (swK (c 4))) υ (fun r_7 σ_6 => w_X11_fine r_7 σ_6 (fun r_9 σ_8 => P r_9 σ_8)) := by
      unfold w_X0_swayedBy_21
      refine t_fill a92 (by decide) (fun τ e3 hz => ?_)
      have e3' : Eo S92 υ τ := e3
      have hw3 := e92 hw2 e3'
      refine ⟨hw3.kb.2.1.1, ?_⟩
      rw [show gi τ (gr τ 90 3) 12 = nI (c 4) from hw3.kb.2.1.f (k := 4) (by decide), N0]
      by_cases h0 : c 4 = 0
      · rw [if_pos (by rw [h0])]
        refine t_castOne hw3.kb.2.1 ok (got := fun _ => 0) (fun t ht => hz t (by omega)) (fun φ e4 hc => ?_)
        refine fin φ (e3'.tr e4) (fun u hu hbu => ?_) (fun u hu => ?_)
        · rw [hc u hu, hbu]
          unfold swG
          rw [if_pos h0]
          rfl
        · refine ⟨_, ?_, hc u hu⟩
          split
          · have := cntB_le (c := c) (sk := fun w => decide (nI w = nI v)) (set := openF c) (t := u) (c 3)
            omega
          · omega
      · rw [if_neg (by rw [jI_eq (by omega) (by decide)]; exact h0)]
        refine Lp_for (c 0) (fun j q => q.1 = nI j ∧ Eo S92 υ q.2 ∧ ∀ u, u < j → gi q.2 92 u = nI (hatO c v (c 3) u)) ⟨rfl, e3', fun u hu => absurd hu (Nat.not_lt_zero _)⟩ ?_ ?_
        · rintro j hj K ⟨x4, φ⟩ ⟨r4, e4, hgj⟩ hK
          dsimp only at r4 e4 hgj hK ⊢
          subst r4
          have hw4 := e92 hw2 e4
          have hn : ¬ c 0 ≤ j := by omega
          unfold w_X0_swayedBy_52
          refine ⟨hw4.kb.2.1.1, ?_⟩
          rw [show gi φ (gr φ 90 3) 8 = nI (c 0) from hw4.kb.2.1.f (k := 0) (by decide), if_neg (by rw [jI_le (by omega) (by omega)]; exact hn)]
          refine t_hatredOf hw4.kb.2.1 ok hj ?_
          have hh := hw4.kb.2.1.hate hv hj
          have hl := hatO_eq (c := c) (v := v) (t := j) (c 3)
          rw [if_pos hv] at hl
          rw [N12, jI_mul, jI_add, tn_nI (by omega), tn_nI (by omega), hh, jI_sub (by omega), N1, jI_add]
          refine ⟨hw4.kb.2.1.1, vp_nI (by omega) (by decide), vp_nI (by omega) (by decide), ?_⟩
          rintro y rfl
          refine hK _ ⟨rfl, e4.tr (Eo.si rfl), fun u hu => ?_⟩
          dsimp only
          by_cases huj : u = j
          · subst huj
            rw [gi_si_s]
            congr 1
            omega
          · rw [gi_si_k huj]; exact hgj u (by omega)
        · rintro K ⟨x4, φ⟩ ⟨r4, e4, hgj⟩
          dsimp only at r4 e4 hgj ⊢
          subst r4
          have hw4 := e92 hw2 e4
          unfold w_X0_swayedBy_52
          refine ⟨hw4.kb.2.1.1, ?_⟩
          rw [show gi φ (gr φ 90 3) 8 = nI (c 0) from hw4.kb.2.1.f (k := 0) (by decide), if_pos (by rw [jI_le (by omega) (by omega)]; exact Nat.le_refl _)]
          refine fin φ e4 (fun u hu hbu => ?_) (fun u hu => ⟨_, Nat.le_trans (hatO_le ok (by omega)) (by decide), hgj u hu⟩)
          rw [hgj u hu]
          unfold swG
          rw [if_neg h0]
    rw [N0]
    by_cases h0 : c 4 = 0
    · rw [if_pos (by rw [h0])]
      have : swK (c 4) = 1 := by unfold swK; rw [if_pos h0]
      rw [this] at go
      exact go
    · rw [if_neg (by rw [jI_eq (by omega) (by decide)]; exact h0)]
      have : swK (c 4) = 9 := by unfold swK; rw [if_neg h0]
      rw [this] at go
      exact go
  · rw [if_neg (by decide)]
    have e1 : swayA c x = (-1, 2) := ifD_neg hx (by omega)
    rw [e1] at k
    exact k _ stq h.st gi_si_s
