/-! ===== the closure is the least; to unmake what does not stand changes nothing ===== -/
def clo (c : Nat → Nat) (g mk s : Nat) : Prop := ∀ m, m < c 1 → mk.testBit m = true → sub (c (36 + m)) s → g.testBit (c (20 + m)) = false → s.testBit (c (20 + m)) = true
def baseF (c : Nat → Nat) (g : Nat) : Nat := sd (sd (allF (c 0)) (madeF c)) g
theorem step_fix {c : Nat → Nat} {g mk s : Nat} (h : passF c g mk s = s) : ∀ m, m < c 1 → stepF c g mk s m = s := by
  have key : ∀ d n, n + d = c 1 → foldN (stepF c g mk) s n = s := by
    intro d
    induction d with
    | zero => intro n hn; have : n = c 1 := by omega
              rw [this]; exact h
    | succ d ih =>
      intro n hn
      have h1 := ih (n + 1) (by omega)
      have h2 : sub (foldN (stepF c g mk) s n) (foldN (stepF c g mk) s (n + 1)) := stepF_sub
      rw [h1] at h2
      exact sub.asym h2 (foldN_sub (fun _ _ => stepF_sub) n)
  intro m hm
  have h1 := key (c 1 - m) m (by omega)
  have h2 := key (c 1 - (m + 1)) (m + 1) (by omega)
  have h3 : foldN (stepF c g mk) s (m + 1) = stepF c g mk (foldN (stepF c g mk) s m) m := rfl
  rw [h1] at h3
  rw [← h3]
  exact h2
theorem stF_clo {c : Nat → Nat} (ok : OK c) {g mk : Nat} : clo c g mk (stF c g mk) := fun m hm hk hs hg => by
  have h1 := step_fix (stF_pass ok (g := g) (mk := mk)) m hm
  unfold stepF at h1
  rw [hk, sd_zero.mpr hs, hg, if_pos (by rfl)] at h1
  rw [← h1, Nat.testBit_or, two_bit]
  simp
theorem stF_base {c : Nat → Nat} {g mk : Nat} : sub (baseF c g) (stF c g mk) := by
  have : ∀ r, sub (baseF c g) (stI c g mk r) := fun r => by
    induction r with
    | zero => exact sub.rf
    | succ r ih => exact ih.tr passF_sub
  exact this 13
theorem stepF_in {c : Nat → Nat} {g mk s U m : Nat} (hU : clo c g mk U) (hm : m < c 1) (hs : sub s U) : sub (stepF c g mk s m) U := by
  unfold stepF
  by_cases hc : (mk.testBit m && (sd (c (36 + m)) s == 0) && !g.testBit (c (20 + m))) = true
  · rw [if_pos hc]
    simp only [Bool.and_eq_true, beq_iff_eq, Bool.not_eq_true'] at hc
    have h1 := hU m hm hc.1.1 ((sd_zero.mp hc.1.2).tr hs) hc.2
    intro k hk
    rw [Nat.testBit_or, two_bit, Bool.or_eq_true] at hk
    rcases hk with hk | hk
    · exact hs k hk
    · have : c (20 + m) = k := by simpa using hk
      rw [← this]; exact h1
  · rw [if_neg hc]; exact hs
theorem stF_least {c : Nat → Nat} {g mk U : Nat} (hb : sub (baseF c g) U) (hU : clo c g mk U) : sub (stF c g mk) U := by
  have : ∀ r, sub (stI c g mk r) U := fun r => by
    induction r with
    | zero => exact hb
    | succ r ih => exact foldN_inv2 (f := stepF c g mk) (c 1) (fun _ x => sub x U) ih (fun m x hm hx => stepF_in hU hm hx) (c 1) (Nat.le_refl _)
  exact this 13
theorem sd_sub_sd {a b b' : Nat} (h : sub b b') : sub (sd a b') (sd a b) := fun k hk => by
  rw [sd_bit, Bool.and_eq_true] at hk ⊢
  refine ⟨hk.1, ?_⟩
  cases hb : b.testBit k with
  | false => rfl
  | true => rw [h k hb] at hk; simp at hk
theorem stF_anti {c : Nat → Nat} (ok : OK c) {g g' mk : Nat} (h : sub g g') : sub (stF c g' mk) (stF c g mk) :=
  stF_least ((sd_sub_sd h).tr stF_base) (fun m hm hk hs hg => stF_clo ok m hm hk hs (by
    cases hb : g.testBit (c (20 + m)) with
    | false => rfl
    | true => rw [h _ hb] at hg; cases hg))
theorem stF_mk {c : Nat → Nat} (ok : OK c) {g mk mk' : Nat} (h : sub mk mk') : sub (stF c g mk) (stF c g mk') :=
  stF_least stF_base (fun m hm hk hs hg => stF_clo ok m hm (h m hk) hs hg)
theorem upF_anti {c : Nat → Nat} (ok : OK c) {g g' : Nat} (h : sub g g') : sub (upF c g') (upF c g) := stF_anti ok h
theorem or_sub {a b d : Nat} (h : sub a d) (g : sub b d) : sub (a ||| b) d := fun k hk => by
  rw [Nat.testBit_or, Bool.or_eq_true] at hk
  exact hk.elim (h k) (g k)
theorem or_r {a b : Nat} : sub b (a ||| b) := fun k hk => by rw [Nat.testBit_or, hk]; simp
theorem upF_and {c : Nat → Nat} (ok : OK c) {g s : Nat} : upF c (g ||| s) = upF c (g ||| (s &&& upF c g)) := by
  have hsub : sub (g ||| (s &&& upF c g)) (g ||| s) := or_sub sub_or (and_sub.tr or_r)
  refine sub.asym (upF_anti ok hsub) ?_
  have hin : sub (upF c (g ||| s)) (upF c g) := upF_anti ok sub_or
  refine stF_least (fun k hk => ?_) (fun m hm hmk hs hg => ?_)
  · have hk0 := hk
    unfold baseF at hk
    rw [sd_bit, Nat.testBit_or, Nat.testBit_and] at hk
    have hbk : (sd (allF (c 0)) (madeF c)).testBit k = true := by
      rw [Bool.and_eq_true] at hk; exact hk.1
    have hgk : g.testBit k = false := by
      cases hq : g.testBit k with
      | false => rfl
      | true => rw [hq] at hk; simp at hk
    have hup : (upF c g).testBit k = true := stF_base k (by unfold baseF; rw [sd_bit, hbk, hgk]; rfl)
    refine stF_base (g := g ||| s) k ?_
    unfold baseF
    rw [sd_bit, Nat.testBit_or, hbk, hgk]
    cases hs : s.testBit k with
    | false => rfl
    | true => rw [hs, hup, hgk, hbk] at hk; simp at hk
  · rw [Nat.testBit_or, Nat.testBit_and, Bool.or_eq_false_iff] at hg
    cases hs2 : s.testBit (c (20 + m)) with
    | false =>
      exact stF_clo ok m hm hmk hs (by rw [Nat.testBit_or, hg.1, hs2]; rfl)
    | true =>
      have h2 := stF_clo ok m hm hmk (hs.tr hin) hg.1
      have h3 : (upF c g).testBit (c (20 + m)) = true := h2
      rw [hs2, h3] at hg
      cases hg.2
/-! == the vote: what nobody hates has no part in it == -/
def alike (c : Nat → Nat) (o o' : Nat) : Prop := ∀ t, t < c 0 → 0 < hatF c (c 3) t → o.testBit t = o'.testBit t
theorem hate_le {c : Nat → Nat} {v t : Nat} : ∀ n, v < n → hateF c v t ≤ hatF c n t
  | 0, h => absurd h (Nat.not_lt_zero _)
  | n + 1, h => by
    show hateF c v t ≤ hatF c n t + hateF c n t
    by_cases hv : v = n
    · rw [hv]; exact Nat.le_add_left _ _
    · exact Nat.le_trans (hate_le n (by omega)) (Nat.le_add_right _ _)
theorem fav_alike {c : Nat → Nat} {o o' v : Nat} (h : alike c o o') (hv : v < c 3) : favF c o v = favF c o' v := by
  unfold favF
  rw [foldN_congr (f := favS c o v) (g := favS c o' v) (c 0) (fun t ht p => by
    unfold favS
    by_cases hp : p.2 < hateF c v t
    · have := hate_le (c := c) (t := t) (c 3) hv
      rw [h t ht (by omega)]
    · simp [hp])]
theorem counts_alike {c : Nat → Nat} {o o' : Nat} (h : alike c o o') : countsF c o = countsF c o' := by
  funext t
  unfold countsF cntF
  exact foldN_congr (c 3) (fun v hv s => by rw [fav_alike h hv])
theorem fav_pos {c : Nat → Nat} {o v b : Nat} (hf : favF c o v = b + 1) : 0 < hateF c v b := by
  have hI : ∀ n, (foldN (favS c o v) (0, 0) n).1 = b + 1 → 0 < hateF c v b := fun n => foldN_inv (f := favS c o v) (a := (0, 0)) (fun _ p => p.1 = b + 1 → 0 < hateF c v b) (fun h => by cases h) (fun k p hp => by
    unfold favS; split
    · rename_i hh
      intro e5
      have : k = b := by simpa using e5
      subst this
      simp at hh
      omega
    · exact hp) n
  exact hI _ hf
theorem counts_pos {c : Nat → Nat} {o t : Nat} (h : 0 < countsF c o t) : 0 < hatF c (c 3) t := by
  refine Classical.byContradiction (fun hq => ?_)
  have : ∀ n, n ≤ c 3 → cntF c o n t = 0 := fun n hn => foldN_inv2 (f := fun s v => if favF c o v = t + 1 then s + 1 else s) (a := 0) (c 3) (fun _ s => s = 0) rfl (fun v s hv hs => by
    rw [if_neg (fun e => by
      have h1 := fav_pos e
      have h2 := hate_le (c := c) (t := t) (c 3) hv
      omega)]
    exact hs) n hn
  have h2 := this (c 3) (Nat.le_refl _)
  unfold countsF at h
  omega
theorem hold_alike {c : Nat → Nat} {o o' : Nat} (h : alike c o o') : holdF c o (countsF c o) = holdF c o' (countsF c o') := by
  unfold holdF
  rw [counts_alike h]
  refine foldN_congr (c 0) (fun t ht p => ?_)
  unfold holdS
  by_cases hp : 0 < countsF c o' t
  · rw [h t ht (counts_pos hp)]
  · simp [hp]
theorem l2_alike {c : Nat → Nat} : ∀ n o o' got got', alike c o o' → (l2F c n o got).1 = (l2F c n o' got').1
  | 0, _, _, _, _, _ => rfl
  | n + 1, o, o', got, got', h => by
    unfold l2F
    rw [hold_alike h]
    by_cases hc : (holdF c o' (countsF c o')).1 < 2
    · rw [if_pos hc, if_pos hc]
    · rw [if_neg hc, if_neg hc]
      exact l2_alike n _ _ _ _ (fun t ht hp => by rw [sd_bit, sd_bit, h t ht hp])
theorem name_alike {c : Nat → Nat} {law o o' : Nat} (h : alike c o o') : nameF c law o = nameF c law o' := by
  unfold nameF
  by_cases h2 : law = 2
  · rw [if_pos h2, if_pos h2]
    exact l2_alike _ _ _ _ _ h
  · rw [if_neg h2, if_neg h2]
    refine mostF_like rfl (fun t ht => ?_)
    unfold gotF
    rw [if_neg h2, if_neg h2]
    by_cases h1 : law = 1
    · rw [if_pos h1, if_pos h1]
      unfold sumF sumN
      by_cases hp : 0 < hatF c (c 3) t
      · rw [h t ht hp]
      · have : hatF c (c 3) t = 0 := by omega
        rw [this]
        simp
    · rw [if_neg h1, if_neg h1, counts_alike h]
/-! == the years to come, with more exempt == -/
def fromF (c : Nat → Nat) : Nat := foldN (fun s t => if (openF c).testBit t = true ∧ 0 < hatF c (c 3) t then s ||| 2 ^ t else s) 0 (c 0)
theorem from_bitn {c : Nat → Nat} {t : Nat} : ∀ n, (foldN (fun s t => if (openF c).testBit t = true ∧ 0 < hatF c (c 3) t then s ||| 2 ^ t else s) 0 n).testBit t = (decide (t < n) && (openF c).testBit t && decide (0 < hatF c (c 3) t))
  | 0 => by
    show (0 : Nat).testBit t = _
    simp
  | n + 1 => by
    have ih := from_bitn (c := c) (t := t) n
    show (if (openF c).testBit n = true ∧ 0 < hatF c (c 3) n then foldN (fun s t => if (openF c).testBit t = true ∧ 0 < hatF c (c 3) t then s ||| 2 ^ t else s) 0 n ||| 2 ^ n else foldN (fun s t => if (openF c).testBit t = true ∧ 0 < hatF c (c 3) t then s ||| 2 ^ t else s) 0 n).testBit t = _
    generalize foldN (fun s t => if (openF c).testBit t = true ∧ 0 < hatF c (c 3) t then s ||| 2 ^ t else s) 0 n = a at ih ⊢
    by_cases htn : n = t
    · subst htn
      have i0 : a.testBit n = false := by rw [ih]; simp
      by_cases hc : (openF c).testBit n = true ∧ 0 < hatF c (c 3) n
      · rw [if_pos hc, Nat.testBit_or, two_bit, hc.1]
        simp [hc.2]
      · rw [if_neg hc, i0]
        cases h1 : (openF c).testBit n <;> by_cases h2 : 0 < hatF c (c 3) n <;> simp_all
    · have e1 : (if (openF c).testBit n = true ∧ 0 < hatF c (c 3) n then a ||| 2 ^ n else a).testBit t = a.testBit t := by
        split
        · rw [Nat.testBit_or, two_bit]; simp [htn]
        · rfl
      rw [e1, ih]
      have : decide (t < n + 1) = decide (t < n) := by
        by_cases h : t < n
        · simp [h]; omega
        · have : ¬ t < n + 1 := by omega
          simp [h, this]
      rw [this]
theorem gN_sub {c : Nat → Nat} {g x : Nat} : ∀ n, sub g (gN c g x n)
  | 0 => sub.rf
  | n + 1 => (gN_sub n).tr (by
    show sub _ (nextF c _ x)
    unfold nextF
    split
    · exact sub.rf
    · exact sub_or)
theorem gN_from {c : Nat → Nat} (ok : OK c) {s : Nat} : ∀ n, gN c (c 6) (c 7 ||| s) n = gN c (c 6) (c 7 ||| (s &&& fromF c)) n
  | 0 => rfl
  | n + 1 => by
    show nextF c (gN c (c 6) (c 7 ||| s) n) _ = nextF c (gN c (c 6) (c 7 ||| (s &&& fromF c)) n) _
    rw [gN_from ok n]
    have hsub := gN_sub (c := c) (g := c 6) (x := c 7 ||| (s &&& fromF c)) n
    generalize gN c (c 6) (c 7 ||| (s &&& fromF c)) n = g at hsub ⊢
    have : votedF c g (c 7 ||| s) = votedF c g (c 7 ||| (s &&& fromF c)) := name_alike (fun t ht hp => by
      rw [sd_bit, sd_bit, Nat.testBit_or, Nat.testBit_or, Nat.testBit_and]
      cases hu : (upF c g).testBit t with
      | false => rfl
      | true =>
        have hn : (nowF c).testBit t = true := upF_anti ok hsub t hu
        cases h7 : (c 7).testBit t with
        | true => rfl
        | false =>
          have : (fromF c).testBit t = true := by
            have ho : (openF c).testBit t = true := by unfold openF; rw [sd_bit, hn, h7]; rfl
            unfold fromF
            rw [from_bitn, ho]
            simp [ht, hp]
          rw [this]
          simp)
    unfold nextF
    rw [this]
/-- stands all these years, of a set, with so much exempt -/
def ktF (c : Nat → Nat) (want x : Nat) : Nat → Nat → Bool
  | 0, g => decide (sd want (upF c g) = 0)
  | n + 1, g => decide (sd want (upF c g) = 0) && ktF c want x n (nextF c g x)
theorem ktF_gN {c : Nat → Nat} {want x : Nat} : ∀ n g, ktF c want x n g = true ↔ ∀ j, j ≤ n → sd want (upF c (gN c g x j)) = 0
  | 0, g => by
    show decide _ = true ↔ _
    rw [decide_eq_true_eq]
    exact ⟨fun h j hj => by rw [show j = 0 by omega]; exact h, fun h => h 0 (Nat.le_refl _)⟩
  | n + 1, g => by
    have shift : ∀ j, gN c (nextF c g x) x j = gN c g x (j + 1) := fun j => by
      induction j with
      | zero => rfl
      | succ j ih => show nextF c (gN c (nextF c g x) x j) x = nextF c (gN c g x (j + 1)) x; rw [ih]
    show (decide _ && ktF c want x n (nextF c g x)) = true ↔ _
    rw [Bool.and_eq_true, decide_eq_true_eq, ktF_gN n]
    constructor
    · rintro ⟨h1, h2⟩ j hj
      cases j with
      | zero => exact h1
      | succ j => rw [← shift]; exact h2 j (by omega)
    · intro h
      exact ⟨h 0 (Nat.zero_le _), fun j hj => by rw [shift]; exact h (j + 1) (by omega)⟩
theorem ktF_from {c : Nat → Nat} (ok : OK c) {want s n : Nat} : ktF c want (c 7 ||| s) n (c 6) = ktF c want (c 7 ||| (s &&& fromF c)) n (c 6) := by
  rw [Bool.eq_iff_iff, ktF_gN, ktF_gN]
  constructor <;> intro h j hj
  · rw [← gN_from ok]; exact h j hj
  · rw [gN_from ok]; exact h j hj
theorem ktF_const {c : Nat → Nat} {want x g : Nat} (h : nextF c g x = g) (hs : sd want (upF c g) = 0) : ∀ n, ktF c want x n g = true
  | 0 => decide_eq_true hs
  | n + 1 => by
    show (decide _ && ktF c want x n (nextF c g x)) = true
    rw [decide_eq_true hs, h, ktF_const h hs n]
    rfl
