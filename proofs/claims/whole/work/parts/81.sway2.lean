/-! ===== promise 28: sway; the model ===== -/
/-- a voter's numbers: 9 at one thing, 0 at the others -/
def giveC (c : Nat → Nat) (v t : Nat) : Nat → Nat := fun i => if 58 + 12 * v ≤ i ∧ i < 58 + 12 * v + 12 then (if i = 58 + 12 * v + t then 9 else 0) else c i
theorem give_n {c : Nat → Nat} {v t i : Nat} (h : i < 58 + 12 * v ∨ 58 + 12 * v + 12 ≤ i) : giveC c v t i = c i := if_neg (fun q => by omega)
theorem give_h {c : Nat → Nat} {v t w u : Nat} (hu : u < 12) : hateF (giveC c v t) w u = if w = v then (if u = t then 9 else 0) else hateF c w u := by
  unfold hateF giveC
  by_cases hw : w = v
  · subst hw
    rw [if_pos rfl, if_pos (by omega)]
    by_cases hut : u = t
    · rw [if_pos hut, if_pos (by omega)]
    · rw [if_neg hut, if_neg (by omega)]
  · rw [if_neg hw, if_neg (by omega)]
theorem give_ok {c : Nat → Nat} (ok : OK c) {v t : Nat} (hv : v < c 3) : OK (giveC c v t) := by
  have := ok.n0
  have := ok.n1
  have := ok.n2
  have := ok.n3
  have u : ∀ i, i < 58 → giveC c v t i = c i := fun i hi => give_n (by omega)
  have u2 : ∀ i, 130 ≤ i → giveC c v t i = c i := fun i hi => give_n (by omega)
  rw [OK, u 0 (by omega), u 1 (by omega), u 2 (by omega), u 3 (by omega), u 4 (by omega), u 5 (by omega), u 6 (by omega), u 7 (by omega)]
  refine ⟨ok.n0, ok.n1, ok.n2, ok.n3, ok.n4, ok.n5, ok.n6, ok.n7, fun t ht => ?_, fun t ht => ?_, fun t ht => ?_, fun t ht => ?_, fun t ht => ?_, fun w hw t ht => ?_, fun t ht => ?_, fun t ht => ?_⟩
  · rw [u _ (by omega)]; exact ok.worth t ht
  · rw [u _ (by omega)]; exact ok.made t ht
  · rw [u _ (by omega)]; exact ok.parts t ht
  · rw [u _ (by omega), u _ (by omega)]; exact ok.2.2.2.2.2.2.2.2.2.2.2.1 t ht
  · rw [u _ (by omega)]; exact ok.needs t ht
  · have h1 := ok.hates w hw t ht
    have h2 := give_h (c := c) (v := v) (t := t) (w := w) ht
    unfold hateF at h2
    rw [show 58 + 12 * w + t = 58 + 12 * w + t from rfl] at *
    unfold giveC
    split
    · split <;> omega
    · exact h1
  · rw [u2 _ (by omega)]; exact ok.ahead t ht
  · rw [u2 _ (by omega)]; exact ok.aheadn t ht
theorem give_fav {c : Nat → Nat} {v t op : Nat} (h0 : c 0 ≤ 12) (ht : t < c 0) : favF (giveC c v t) op v = if op.testBit t = true then t + 1 else 0 := by
  have key : ∀ n, n ≤ c 0 → foldN (favS (giveC c v t) op v) (0, 0) n = if t < n ∧ op.testBit t = true then (t + 1, 9) else (0, 0) := fun n => by
    induction n with
    | zero => intro _; rw [if_neg (fun q => absurd q.1 (Nat.not_lt_zero _))]; rfl
    | succ n ih =>
      intro hn
      show favS (giveC c v t) op v (foldN (favS (giveC c v t) op v) (0, 0) n) n = _
      rw [ih (by omega)]
      unfold favS
      rw [give_h (by omega), if_pos rfl]
      by_cases hnt : n = t
      · subst hnt
        simp only [Nat.lt_irrefl, false_and, ↓reduceIte]
        cases hb : op.testBit n
        · simp
        · simp
      · rw [if_neg hnt]
        have e1 : (t < n + 1 ∧ op.testBit t = true) ↔ (t < n ∧ op.testBit t = true) := by
          constructor <;> rintro ⟨a, b⟩ <;> exact ⟨by omega, b⟩
        simp only [e1]
        simp
  unfold favF
  rw [show giveC c v t 0 = c 0 from give_n (by omega), key (c 0) (Nat.le_refl _)]
  by_cases hb : op.testBit t = true
  · rw [if_pos ⟨ht, hb⟩, if_pos hb]
  · rw [if_neg (fun q => hb q.2), if_neg hb]
theorem give_fav2 {c : Nat → Nat} {v t op w : Nat} (h0 : c 0 ≤ 12) (hw : w ≠ v) : favF (giveC c v t) op w = favF c op w := by
  unfold favF
  rw [show giveC c v t 0 = c 0 from give_n (by omega)]
  rw [foldN_congr (f := favS (giveC c v t) op w) (g := favS c op w) (c 0) (fun u hu p => by unfold favS; rw [give_h (by omega), if_neg hw])]
theorem give_cnt {c : Nat → Nat} {v t op u : Nat} (h0 : c 0 ≤ 12) (h3 : c 3 ≤ 6) (ht : t < c 0) (hv : v < c 3) : ∀ n, n ≤ c 3 → cntF (giveC c v t) op n u = cntB c (fun w => decide (nI w = nI v)) op n u + (if v < n ∧ op.testBit t = true ∧ u = t then 1 else 0)
  | 0, _ => by rw [if_neg (fun q => absurd q.1 (Nat.not_lt_zero _))]; rfl
  | n + 1, hn => by
    have ih := give_cnt (op := op) (u := u) h0 h3 ht hv n (by omega)
    show (if favF (giveC c v t) op n = u + 1 then cntF (giveC c v t) op n u + 1 else cntF (giveC c v t) op n u) = (if decide (nI n = nI v) = false ∧ favF c op n = u + 1 then cntB c (fun w => decide (nI w = nI v)) op n u + 1 else cntB c (fun w => decide (nI w = nI v)) op n u) + _
    rw [ih]
    by_cases hnv : n = v
    · subst hnv
      have e1 : ¬ (decide (nI n = nI n) = false ∧ favF c op n = u + 1) := fun q => by simp at q
      rw [if_neg e1, give_fav h0 ht]
      cases hb : op.testBit t
      · simp
      · simp only [↓reduceIte, true_and]
        by_cases hut : u = t
        · subst hut
          rw [if_pos rfl, if_neg (by omega), if_pos ⟨by omega, rfl⟩]
        · rw [if_neg (by omega), if_neg (fun q => hut q.2), if_neg (fun q => hut q.2)]
    · have e1 : decide (nI n = nI v) = false := decide_eq_false (by rw [jI_eq (by omega) (by omega)]; exact hnv)
      rw [give_fav2 h0 hnv, e1]
      have e2 : (v < n + 1 ∧ op.testBit t = true ∧ u = t) ↔ (v < n ∧ op.testBit t = true ∧ u = t) := by
        constructor <;> rintro ⟨a, b⟩ <;> exact ⟨by omega, b⟩
      simp only [e2, true_and]
      split <;> split <;> omega
theorem give_hat {c : Nat → Nat} {v t u : Nat} (hu : u < 12) : ∀ n, hatF (giveC c v t) n u = hatO c v n u + (if v < n ∧ u = t then 9 else 0)
  | 0 => by rw [if_neg (fun q => absurd q.1 (Nat.not_lt_zero _))]; rfl
  | n + 1 => by
    have ih := give_hat (c := c) (v := v) (t := t) hu n
    show hatF (giveC c v t) n u + hateF (giveC c v t) n u = (if n = v then hatO c v n u else hatO c v n u + hateF c n u) + _
    rw [ih, give_h hu]
    by_cases hnv : n = v
    · subst hnv
      rw [if_pos rfl, if_pos rfl]
      by_cases hut : u = t
      · rw [if_pos hut, if_neg (by omega), if_pos ⟨by omega, hut⟩]
      · rw [if_neg hut, if_neg (fun q => hut q.2), if_neg (fun q => hut q.2)]
    · rw [if_neg hnv, if_neg hnv]
      by_cases hut : u = t
      · by_cases hvn : v < n
        · rw [if_pos ⟨hvn, hut⟩, if_pos ⟨by omega, hut⟩]; omega
        · rw [if_neg (fun q => hvn q.1), if_neg (by omega)]; omega
      · rw [if_neg (fun q => hut q.2), if_neg (fun q => hut q.2)]; omega
theorem cntB_out {c : Nat → Nat} {sk : Nat → Bool} {op u : Nat} (h : op.testBit u = false) : ∀ n, cntB c sk op n u = 0
  | 0 => rfl
  | n + 1 => by
    show (if sk n = false ∧ favF c op n = u + 1 then cntB c sk op n u + 1 else cntB c sk op n u) = 0
    rw [if_neg (fun q => by rw [fav_in q.2] at h; cases h)]
    exact cntB_out h n
theorem give_name {c : Nat → Nat} (ok : OK c) {v t op : Nat} (hv : v < c 3) (ht : t < c 0) (hl : c 4 ≠ 2) : nameF (giveC c v t) (c 4) op = mostF c (swW c v (c 4) op t) := by
  have h0 := ok.n0
  have h3 := ok.n3
  unfold nameF
  rw [if_neg hl]
  refine mostF_like (give_n (by omega)) (fun u hu => ?_)
  unfold gotF swW swG swK
  rw [if_neg hl]
  have e3 : giveC c v t 3 = c 3 := give_n (by omega)
  by_cases h1 : c 4 = 1
  · have h40 : ¬ c 4 = 0 := by omega
    rw [if_pos h1, if_neg h40, if_neg h40]
    unfold sumF sumN
    rw [e3]
    cases hb : op.testBit u
    · rfl
    · rw [if_pos rfl, if_pos rfl, give_hat (by omega)]
      congr 1
      by_cases hut : u = t
      · rw [if_pos ⟨hv, hut⟩, if_pos hut]
      · rw [if_neg (fun q => hut q.2), if_neg hut]
  · have h40 : c 4 = 0 := by have := ok.n4; omega
    rw [if_neg h1, if_pos h40, if_pos h40]
    unfold countsF
    rw [e3, give_cnt h0 h3 ht hv (c 3) (Nat.le_refl _)]
    cases hb : op.testBit u
    · rw [cntB_out hb]
      have : ¬ (v < c 3 ∧ op.testBit t = true ∧ u = t) := fun q => by rw [q.2.2] at hb; rw [hb] at q; cases q.2.1
      rw [if_neg this]
      rfl
    · rw [if_pos rfl]
      congr 1
      by_cases hut : u = t
      · subst hut
        rw [if_pos ⟨hv, hb, rfl⟩, if_pos rfl]
      · rw [if_neg (fun q => hut q.2.2), if_neg hut]
def SMS (a k : Nat) : Prop := SM a k ∨ a = 111 ∨ (a = 106 ∧ 58 ≤ k ∧ k < 130)
/-- what sway writes: its own row, counts, and the voter's numbers -/
def SW (v a k : Nat) : Prop := a = 109 ∨ a = 110 ∨ a = 111 ∨ (a = 106 ∧ 58 + 12 * v ≤ k ∧ k < 58 + 12 * v + 12)
theorem m_sway {σ : Sto} {c : Nat → Nat} {P : Int32 → Sto → Prop} (h : MR σ c) (ok : OK c) {x : Int32} (k : ∀ τ, Eo SMS σ τ → MR τ c → gi τ 101 0 = (swayA c x).2 → P (swayA c x).1 τ) : w_X12_sway x σ P := by
  have := ok.n0
  have := ok.n3
  have := ok.n4
  have hs : MR (si (si σ 101 1 0) 101 0 0) c := h.sm sm10
  have hst0 : gi (si (si σ 101 1 0) 101 0 0) 101 0 = 0 := gi_si_s
  have he : Eo SMS σ (si (si σ 101 1 0) 101 0 0) := sm10.mo (fun _ _ => Or.inl)
  unfold w_X12_sway
  generalize si (si σ 101 1 0) 101 0 0 = υ at hs hst0 he ⊢
  refine t_isVoterAt hs ok (fun hx => ?_) (fun hx => ?_)
  · rw [if_neg (by decide)]
    obtain ⟨v, hv, rfl⟩ := hx
    have e1 : swayA c (nI v) = if c 4 = 2 then (-1, 9) else (nI (swF c v), 0) := by
      unfold swayA
      rw [ifD_pos hv (by omega), tn_nI (by omega)]
    rw [e1] at k
    rw [hs 4 (by decide), N2]
    by_cases h2 : c 4 = 2
    · rw [if_pos h2] at k
      rw [if_pos (by rw [h2])]
      exact k _ (he.tr (Eo.si (Or.inl (Or.inl ⟨rfl, Or.inl rfl⟩)))) (hs.sm sm0) gi_si_s
    rw [if_neg h2] at k
    rw [if_neg (by rw [jI_eq (by omega) (by decide)]; exact h2)]
    refine t_inVote hs ok ?_
    have hcell : ∀ j, (58 : Int32) + 12 * nI v + nI j = nI (58 + 12 * v + j) := fun j => by rw [N58, N12, jI_mul, jI_add, jI_add]
    -- the voter's numbers are kept aside
    refine Lp_for 12 (fun j q => q.1 = nI j ∧ Eo (SW v) υ q.2 ∧ MR q.2 c ∧ ∀ u, u < j → gi q.2 111 u = nI (c (58 + 12 * v + u))) ⟨rfl, Eo.rf, hs, fun u hu => absurd hu (Nat.not_lt_zero _)⟩ ?_ ?_
    · rintro j hj K ⟨x3, τ⟩ ⟨r3, e, hm, hg⟩ hK
      dsimp only at r3 e hm hg hK ⊢
      subst r3
      unfold w_X12_sway_48
      rw [if_neg (by rw [N12, jI_le (by omega) (by omega)]; omega), hcell, tn_nI (by omega), tn_nI (by omega), hm _ (by omega), N1, jI_add]
      refine ⟨vp_nI (by omega) (by decide), vp_nI (by omega) (by decide), ?_⟩
      rintro y rfl
      refine hK _ ⟨rfl, e.tr (Eo.si (by unfold SW; omega)), hm.eo (S := fun a _ => a = 111) (Eo.si rfl) (fun k q => by omega), fun u hu => ?_⟩
      dsimp only
      by_cases huj : u = j
      · subst huj; exact gi_si_s
      · rw [gi_si_k huj]; exact hg u (by omega)
    · rintro K ⟨x3, τ⟩ ⟨r3, e, hm, hg⟩
      dsimp only at r3 e hm hg ⊢
      subst r3
      unfold w_X12_sway_48
      rw [if_pos (by decide)]
      -- one thing after another
      refine Lp_for (c 0) (fun j q => q.1 = nI (foldN (fun s t => if mostF c (swW c v (c 4) (openF c) t) = t + 1 then s ||| 2 ^ t else s) 0 j) ∧ q.2.1 = nI j ∧ Eo (SW v) υ q.2.2 ∧ (∀ i, i < 421 → ¬ (58 + 12 * v ≤ i ∧ i < 58 + 12 * v + 12) → gi q.2.2 106 i = nI (c i)) ∧ ∀ u, u < 12 → gi q.2.2 111 u = nI (c (58 + 12 * v + u))) ⟨rfl, rfl, e, fun i hi _ => hm i hi, hg⟩ ?_ ?_
      · rintro j hj K2 ⟨x3, x4, φ⟩ ⟨r3, r4, e2, hc, hg2⟩ hK2
        dsimp only at r3 r4 e2 hc hg2 hK2 ⊢
        subst r3 r4
        have hn : ¬ c 0 ≤ j := by omega
        have hst : foldN (fun s t => if mostF c (swW c v (c 4) (openF c) t) = t + 1 then s ||| 2 ^ t else s) 0 (j + 1) = if mostF c (swW c v (c 4) (openF c) j) = j + 1 then foldN (fun s t => if mostF c (swW c v (c 4) (openF c) t) = t + 1 then s ||| 2 ^ t else s) 0 j ||| 2 ^ j else foldN (fun s t => if mostF c (swW c v (c 4) (openF c) t) = t + 1 then s ||| 2 ^ t else s) 0 j := rfl
        rw [hst] at hK2
        generalize foldN (fun s t => if mostF c (swW c v (c 4) (openF c) t) = t + 1 then s ||| 2 ^ t else s) 0 j = s at hK2 ⊢
        unfold w_X12_sway_85
        rw [hc 0 (by decide) (by omega), if_neg (by rw [jI_le (by omega) (by omega)]; exact hn)]
        refine Lp_for 12 (fun i q => q.1 = nI i ∧ Eo (SW v) υ q.2 ∧ (∀ l, l < 421 → ¬ (58 + 12 * v ≤ l ∧ l < 58 + 12 * v + 12) → gi q.2 106 l = nI (c l)) ∧ (∀ u, u < 12 → gi q.2 111 u = nI (c (58 + 12 * v + u))) ∧ ∀ u, u < i → gi q.2 106 (58 + 12 * v + u) = nI (if u = j then 9 else 0)) ⟨rfl, e2, hc, hg2, fun u hu => absurd hu (Nat.not_lt_zero _)⟩ ?_ ?_
        · rintro i hi K3 ⟨x5, ψ⟩ ⟨r5, e3, hc3, hg3, hv3⟩ hK3
          dsimp only at r5 e3 hc3 hg3 hv3 hK3 ⊢
          subst r5
          have fin : ∀ z : Nat, z = (if i = j then 9 else 0) → K3 (nI (i + 1), si ψ 106 (58 + 12 * v + i) (nI z)) := fun z hz => hK3 _ ⟨rfl, e3.tr (Eo.si (by unfold SW; omega)), fun l hl hnl => by dsimp only; rw [gi_si_k (by omega)]; exact hc3 l hl hnl, fun u hu => by dsimp only; rw [gi_si_a (by decide)]; exact hg3 u hu, fun u hu => by
            dsimp only
            by_cases hui : u = i
            · subst hui; rw [gi_si_s, hz]
            · rw [gi_si_k (by omega)]; exact hv3 u (by omega)⟩
          unfold w_X12_sway_99
          rw [if_neg (by rw [N12, jI_le (by omega) (by omega)]; omega), hcell, tn_nI (by omega), N1, jI_add]
          by_cases hij : i = j
          · rw [if_pos (by rw [hij])]
            refine ⟨vp_nI (by omega) (by decide), ?_⟩
            rintro y rfl
            exact fin 9 (by rw [if_pos hij])
          · rw [if_neg (by rw [jI_eq (by omega) (by omega)]; exact hij)]
            refine ⟨vp_nI (by omega) (by decide), ?_⟩
            rintro y rfl
            exact fin 0 (by rw [if_neg hij])
        · rintro K3 ⟨x5, ψ⟩ ⟨r5, e3, hc3, hg3, hv3⟩
          dsimp only at r5 e3 hc3 hg3 hv3 ⊢
          subst r5
          have hm3 : MR ψ (giveC c v j) := fun i hi => by
            by_cases hq : 58 + 12 * v ≤ i ∧ i < 58 + 12 * v + 12
            · have h5 := hv3 (i - (58 + 12 * v)) (by omega)
              rw [show 58 + 12 * v + (i - (58 + 12 * v)) = i by omega] at h5
              rw [h5]
              unfold giveC
              rw [if_pos hq]
              congr 1
              by_cases hij : i = 58 + 12 * v + j
              · rw [if_pos hij, if_pos (by omega)]
              · rw [if_neg hij, if_neg (by omega)]
            · rw [hc3 i hi hq, give_n (by omega)]
          have ok3 := give_ok ok (v := v) (t := j) hv
          unfold w_X12_sway_99
          rw [if_pos (by decide), show gi ψ 106 4 = nI (c 4) from hc3 4 (by decide) (by omega)]
          have hop3 : openF c < 2 ^ giveC c v j 0 := by rw [give_n (by omega)]; exact openF_lt ok
          refine t_namedBy hm3 ok3 ok.n4 hop3 (fun χ e4 _ => ?_)
          rw [give_name ok hv hj h2]
          have hle : mostF c (swW c v (c 4) (openF c) j) ≤ c 0 := mostF_le (c := c)
          have e5 : Eo (SW v) υ χ := e3.tr (e4.mo (fun a k q => by unfold S109 at q; unfold SW; omega))
          have hc5 : ∀ i, i < 421 → ¬ (58 + 12 * v ≤ i ∧ i < 58 + 12 * v + 12) → gi χ 106 i = nI (c i) := fun i hi hq => by rw [e4.1 106 i (by unfold S109; decide)]; exact hc3 i hi hq
          have hg5 : ∀ u, u < 12 → gi χ 111 u = nI (c (58 + 12 * v + u)) := fun u hu => by rw [e4.1 111 u (by unfold S109; decide)]; exact hg3 u hu
          rw [bit1 (by omega), N0, jI_or, jI_or, Nat.or_zero, N1, jI_add]
          by_cases hq : mostF c (swW c v (c 4) (openF c) j) = j + 1
          · rw [if_pos hq] at hK2
            rw [hq, if_pos (show oI (j + 1) = nI j from rfl)]
            rintro y rfl
            rintro z rfl
            exact hK2 _ ⟨rfl, rfl, e5, hc5, hg5⟩
          · rw [if_neg hq] at hK2
            rw [if_neg (fun z => hq (by
              generalize mostF c (swW c v (c 4) (openF c) j) = m at hle z ⊢
              cases m with
              | zero => exact absurd z.symm (jI_none (by omega))
              | succ m => rw [(jI_eq (by omega) (by omega)).mp (show nI m = nI j from z)]))]
            rintro y rfl
            rintro z rfl
            exact hK2 _ ⟨rfl, rfl, e5, hc5, hg5⟩
      · rintro K2 ⟨x3, x4, φ⟩ ⟨r3, r4, e2, hc, hg2⟩
        dsimp only at r3 r4 e2 hc hg2 ⊢
        subst r3 r4
        have hfs : foldN (fun s t => if mostF c (swW c v (c 4) (openF c) t) = t + 1 then s ||| 2 ^ t else s) 0 (c 0) = swF c v := rfl
        rw [hfs]
        unfold w_X12_sway_85
        rw [hc 0 (by decide) (by omega), if_pos (by rw [jI_le (by omega) (by omega)]; exact Nat.le_refl _)]
        refine Lp_for 12 (fun i q => q.1 = nI i ∧ Eo (SW v) υ q.2 ∧ (∀ u, u < 12 → gi q.2 111 u = nI (c (58 + 12 * v + u))) ∧ ∀ u, u < i → gi q.2 106 (58 + 12 * v + u) = nI (c (58 + 12 * v + u))) ⟨rfl, e2, hg2, fun u hu => absurd hu (Nat.not_lt_zero _)⟩ ?_ ?_
        · rintro i hi K3 ⟨x4, ψ⟩ ⟨r4, e3, hg3, hv3⟩ hK3
          dsimp only at r4 e3 hg3 hv3 hK3 ⊢
          subst r4
          unfold w_X12_sway_176
          rw [if_neg (by rw [N12, jI_le (by omega) (by omega)]; omega), hcell, tn_nI (by omega), tn_nI (by omega), hg3 i hi, N1, jI_add]
          refine ⟨vp_nI (by omega) (by decide), vp_nI (by omega) (by decide), ?_⟩
          rintro y rfl
          refine hK3 _ ⟨rfl, e3.tr (Eo.si (by unfold SW; omega)), fun u hu => by dsimp only; rw [gi_si_a (by decide)]; exact hg3 u hu, fun u hu => ?_⟩
          dsimp only
          by_cases hui : u = i
          · subst hui; exact gi_si_s
          · rw [gi_si_k (by omega)]; exact hv3 u (by omega)
        · rintro K3 ⟨x4, ψ⟩ ⟨r4, e3, hg3, hv3⟩
          dsimp only at r4 e3 hg3 hv3 ⊢
          subst r4
          unfold w_X12_sway_176
          rw [if_pos (by decide)]
          refine k ψ (he.tr (e3.mo (fun a i q => by unfold SW at q; unfold SMS SM; omega))) (fun i hi => ?_) (by rw [e3.1 101 0 (by unfold SW; omega)]; exact hst0)
          by_cases hq : 58 + 12 * v ≤ i ∧ i < 58 + 12 * v + 12
          · have h5 := hv3 (i - (58 + 12 * v)) (by omega)
            rw [show 58 + 12 * v + (i - (58 + 12 * v)) = i by omega] at h5
            exact h5
          · rw [e3.1 106 i (by unfold SW; omega)]
            exact hs i hi
  · rw [if_pos rfl]
    have e1 : swayA c x = (-1, 2) := ifD_neg hx (by omega)
    rw [e1] at k
    exact k _ (he.tr (Eo.si (Or.inl (Or.inl ⟨rfl, Or.inl rfl⟩)))) (hs.sm sm0) gi_si_s
