/-! ===== centuries lived: single steps ===== -/
theorem name_in {c : Nat → Nat} {law s b : Nat} (h : nameF c law s = b + 1) : s.testBit b = true := by
  have hm : ∀ g : Nat → Nat, (∀ t, s.testBit t = false → g t = 0) → mostF c g = b + 1 → s.testBit b = true := fun g hg hb => by
    have h1 := (most_top.mp hb).2.1
    cases hq : s.testBit b with
    | true => rfl
    | false => rw [hg b hq] at h1; omega
  have hl : ∀ n s' got, sub s' s → (l2F c n s' got).1 = b + 1 → s.testBit b = true := fun n => by
    induction n with
    | zero => intro s' got _ e; cases e
    | succ n ih =>
      intro s' got hs e
      unfold l2F at e
      by_cases hc : (holdF c s' (countsF c s')).1 < 2
      · rw [if_pos hc] at e
        have e' : (holdF c s' (countsF c s')).2 = b + 1 := e
        have h1 := hold_bit (s := s') (cnt := countsF c s') (n := c 0) (by show (holdF c s' (countsF c s')).2 ≠ 0; omega)
        have h2 : (foldN (holdS s' (countsF c s')) (0, 0) (c 0)).2 - 1 = b := by show (holdF c s' (countsF c s')).2 - 1 = b; omega
        rw [h2] at h1
        exact hs b h1
      · rw [if_neg hc] at e
        exact ih _ _ (sub_sd.tr hs) e
  unfold nameF at h
  by_cases h2 : law = 2
  · rw [if_pos h2] at h
    exact hl _ _ _ sub.rf h
  · rw [if_neg h2] at h
    unfold gotF at h
    rw [if_neg h2] at h
    by_cases h1 : law = 1
    · rw [if_pos h1] at h
      exact hm _ (fun t ht => by unfold sumF sumN; rw [ht]; rfl) h
    · rw [if_neg h1] at h
      exact hm _ (fun t ht => counts_out ht) h
theorem next_same {c : Nat → Nat} {g x : Nat} : nextF c g x = g ↔ votedF c g x = 0 := by
  unfold nextF
  by_cases h : votedF c g x = 0
  · rw [if_pos h]
    exact ⟨fun _ => h, fun _ => rfl⟩
  · rw [if_neg h]
    constructor
    · intro e
      obtain ⟨b, hb⟩ : ∃ b, votedF c g x = b + 1 := ⟨votedF c g x - 1, by omega⟩
      have h1 := name_in (law := c 4) hb
      rw [sd_bit, Bool.and_eq_true] at h1
      have h2 := up_not h1.1
      rw [hb, Nat.add_sub_cancel] at e
      exact absurd e (or_two_ne h2)
    · intro e
      exact absurd e h
/-- draws, missed, years, unmade, jokes -/
abbrev LQ : Type := Nat × Nat × Nat × Nat × Nat
def misN (c : Nat → Nat) (n : Nat) : Nat := foldN (fun s j => if votedF c (gN c (c 6) (c 7) j) (c 7) = 0 then s + 1 else s) 0 n
theorem misN_s {c : Nat → Nat} {n : Nat} : misN c (n + 1) = if votedF c (gN c (c 6) (c 7) n) (c 7) = 0 then misN c n + 1 else misN c n := rfl
theorem misN_le {c : Nat → Nat} : ∀ n, misN c n ≤ n
  | 0 => Nat.le_refl _
  | n + 1 => by
    have := misN_le (c := c) n
    rw [misN_s]
    split <;> omega
def missQ (q : LQ) (d : Nat) : LQ := (q.1, q.2.1 + d, q.2.2)
def unmQ (q : LQ) : LQ := (q.1, q.2.1, q.2.2.1, q.2.2.2.1 + 1, q.2.2.2.2)
def goF (n : Nat) (c : Nat → Nat) (q : LQ) : (Nat → Nat) × LQ := if c 5 + n ≤ 9999 then (yearsC c n, (q.1, q.2.1 + misN c n, q.2.2.1 + n, q.2.2.2.1 + (n - misN c n), q.2.2.2.2)) else (c, missQ q 1)
def unmF (t : Nat) (c : Nat → Nat) (q : LQ) : (Nat → Nat) × LQ := if (c 6 ||| c 7).testBit t = true then (c, missQ q 1) else (updC c 6 (c 6 ||| 2 ^ t), unmQ q)
def remF (t : Nat) (c : Nat → Nat) (q : LQ) : (Nat → Nat) × LQ := if (c 6).testBit t = true then (updC c 6 (sd (c 6) (2 ^ t)), q) else (c, missQ q 1)
def spF (t : Nat) (c : Nat → Nat) (q : LQ) : (Nat → Nat) × LQ := (updC c 7 (c 7 ^^^ 2 ^ t), q)
def rndF (r : Nat) : Nat := (r * 2971 + 10663) % 65536
def nthF (op n : Nat) : Nat := foldN (fun r t => if op.testBit t = true ∧ cardN t op = n then t else r) 0 12
def jkF (c : Nat → Nat) (q : LQ) : (Nat → Nat) × LQ := if openF c = 0 then (c, missQ q 1) else (updC c 6 (c 6 ||| 2 ^ nthF (openF c) (rndF q.1 / 8 % card (openF c))), (rndF q.1, q.2.1, q.2.2.1, q.2.2.2.1 + 1, q.2.2.2.2 + 1))
/-- the class, living -/
def LR (N : Nat) (σ : Sto) (c : Nat → Nat) (q : LQ) : Prop := KW N σ c ∧ OK c ∧ gi σ 97 5 = nI q.1 ∧ q.1 ≤ 65535 ∧ gi σ 98 0 = nI q.2.1 ∧ gi σ 98 1 = nI q.2.2.1 ∧ gi σ 98 2 = nI q.2.2.2.1 ∧ gi σ 98 3 = nI q.2.2.2.2
def SLa (A a k : Nat) : Prop := a = 89 ∨ a = 91 ∨ a = 92 ∨ (a = 98 ∧ k < 4) ∨ (a = 97 ∧ k = 5) ∨ (a = A ∧ 13 ≤ k ∧ k ≤ 15)
theorem KW.r97 {N : Nat} {σ : Sto} {c : Nat → Nat} (h : KW N σ c) : gr σ 97 4 = gr σ 1 11 := h.2.2.2.2.2.1
theorem c_miss {σ : Sto} {c : Nat → Nat} {q : LQ} {N : Nat} (h : LR N σ c q) : Eo (SLa (gr σ 1 11)) σ (si σ 98 0 (gi σ 98 0 + 1)) ∧ LR N (si σ 98 0 (gi σ 98 0 + 1)) c (missQ q 1) := by
  obtain ⟨h1, h2, h3, h4, h5, h6, h7, h8⟩ := h
  refine ⟨Eo.si (by unfold SLa; omega), h1.ex (Eo.si (by unfold SX; omega)), h2, by rw [gi_si_a (by decide)]; exact h3, h4, ?_, by rw [gi_si_k (by decide)]; exact h6, by rw [gi_si_k (by decide)]; exact h7, by rw [gi_si_k (by decide)]; exact h8⟩
  rw [gi_si_s, h5, N1, jI_add]
  rfl
theorem c_passYears {σ : Sto} {c : Nat → Nat} {q : LQ} {P : Sto → Prop} {N : Nat} (h : LR N σ c q) (hN : N ≤ 2000) {n : Nat} (hn : n ≤ 9) (k : ∀ τ, Eo (SLa (gr σ 1 11)) σ τ → LR N τ (goF n c q).1 (goF n c q).2 → P τ) : w_X3_passYears (nI n) σ P := by
  have h0 := h
  obtain ⟨hw, ok, h3, h4, h5, h6, h7, h8⟩ := h
  have n5 := ok.n5
  unfold goF at k
  unfold w_X3_passYears
  rw [hw.r97, show gi σ (gr σ 1 11) 13 = nI (c 5) from hw.f (k := 5) (by decide), jI_add, N9999]
  refine ⟨hw.1, ?_⟩
  by_cases hd : c 5 + n ≤ 9999
  · rw [if_pos hd] at k
    rw [if_pos ((jI_le (by omega) (by decide)).mpr hd)]
    -- the city's YEAR comes at the end
    refine Lp_for n (fun j s => s.1 = nI j ∧ Eo (SLa (gr σ 1 11)) σ s.2 ∧ KW N s.2 (updC c 6 (gN c (c 6) (c 7) j)) ∧ gi s.2 97 5 = nI q.1 ∧ gi s.2 98 0 = nI (q.2.1 + misN c j) ∧ gi s.2 98 1 = nI q.2.2.1 ∧ gi s.2 98 2 = nI (q.2.2.2.1 + (j - misN c j)) ∧ gi s.2 98 3 = nI q.2.2.2.2) ⟨rfl, Eo.rf, ?_, h3, h5, h6, h7, h8⟩ ?_ ?_
    · have e : updC c 6 (gN c (c 6) (c 7) 0) = c := by
        funext i
        by_cases hi : i = 6
        · subst hi; rw [updC_s]; rfl
        · rw [updC_n hi]
      rw [e]
      exact hw
    · rintro j hj K ⟨x2, τ⟩ ⟨r2, e, hw2, g1, g2, g3, g4, g5⟩ hK
      dsimp only at r2 e hw2 g1 g2 g3 g4 g5 hK ⊢
      subst r2
      have g11 : gr τ 1 11 = gr σ 1 11 := e.2.2 1 11
      have hA := hw.1.rg
      have hlt := gN_lt (x := c 7) ok.n6 j
      have ok2 : OK (updC c 6 (gN c (c 6) (c 7) j)) := ok.put (Or.inr (Or.inl ⟨rfl, hlt⟩))
      have ls : likeS c (updC c 6 (gN c (c 6) (c 7) j)) := likeS_upd ok (by decide) (by decide) (by decide)
      have lv : likeV c (updC c 6 (gN c (c 6) (c 7) j)) := likeV_upd (by decide) (by decide) (by decide) ok
      have hnx : nextF (updC c 6 (gN c (c 6) (c 7) j)) (gN c (c 6) (c 7) j) (c 7) = gN c (c 6) (c 7) (j + 1) := nextF_like ls lv (updC_n (by decide))
      unfold w_X3_passYears_28
      rw [if_neg (by rw [jI_le (by omega) (by omega)]; omega), hw2.r97]
      refine ⟨hw2.1, ?_⟩
      rw [show gi τ (gr τ 1 11) 14 = nI (gN c (c 6) (c 7) j) from by rw [hw2.f (k := 6) (by decide), updC_s], show gi τ (gr τ 1 11) 15 = nI (c 7) from by rw [hw2.f (k := 7) (by decide), updC_n (by decide)]]
      have hlt2 : gN c (c 6) (c 7) j < 2 ^ updC c 6 (gN c (c 6) (c 7) j) 0 := by rw [updC_n (by decide)]; exact hlt
      refine t_goneNext hw2.kb ok2 hN hlt2 (fun υ e2 hb2 => ?_)
      have hw3 : KW N υ (updC c 6 (gN c (c 6) (c 7) j)) := hw2.mk e2 hb2
      have u11 : gr υ 1 11 = gr σ 1 11 := by rw [e2.2.2 1 11, g11]
      rw [hw3.r97, hnx, show gi υ (gr υ 1 11) 14 = nI (gN c (c 6) (c 7) j) from by rw [hw3.f (k := 6) (by decide), updC_s]]
      refine ⟨hw3.1, ?_⟩
      have hl12 := p12 hlt ok.n0
      have hl12' := p12 (gN_lt (x := c 7) ok.n6 (j + 1)) ok.n0
      have f98 : ∀ i, gi υ 98 i = gi τ 98 i := fun i => e2.1 98 i (by unfold S3; omega)
      have f97 : gi υ 97 5 = nI q.1 := by rw [e2.1 97 5 (by unfold S3; omega)]; exact g1
      have eu : Eo (SLa (gr σ 1 11)) σ υ := e.tr (e2.mo (fun a k z => by unfold S3 at z; unfold SLa; omega))
      have fin : ∀ z v, z < 4 → ∀ φ, φ = si (si υ 98 z v) (gr υ 1 11) 14 (nI (gN c (c 6) (c 7) (j + 1))) → gi φ 98 0 = nI (q.2.1 + misN c (j + 1)) → gi φ 98 2 = nI (q.2.2.2.1 + (j + 1 - misN c (j + 1))) → (z = 0 ∨ z = 2) → K (nI (j + 1), φ) := fun z v hz φ hφ p1 p2 hz2 => by
        refine hK _ ⟨rfl, ?_, ?_, ?_, p1, ?_, p2, ?_⟩
        · rw [hφ, u11]
          exact eu.tr ((Eo.si (Or.inr (Or.inr (Or.inr (Or.inl ⟨rfl, hz⟩))))).tr (Eo.si (by unfold SLa; omega)))
        · dsimp only
          have hx := hw3.ex (τ := si υ 98 z v) (Eo.si (by unfold SX; omega))
          have hp := hx.put ok2 (k := 6) (v := gN c (c 6) (c 7) (j + 1)) (Or.inr (Or.inl rfl))
          have eq1 : updC (updC c 6 (gN c (c 6) (c 7) j)) 6 (gN c (c 6) (c 7) (j + 1)) = updC c 6 (gN c (c 6) (c 7) (j + 1)) := by
            funext i
            by_cases hi : i = 6
            · subst hi; rw [updC_s, updC_s]
            · rw [updC_n hi, updC_n hi, updC_n hi]
          rw [eq1] at hp
          rw [hφ]
          exact hp
        · dsimp only; rw [hφ, gi_si_a (by omega), gi_si_a (by decide)]; exact f97
        · dsimp only; rw [hφ, gi_si_a (by omega), gi_si_k (by omega), f98]; exact g3
        · dsimp only; rw [hφ, gi_si_a (by omega), gi_si_k (by omega), f98]; exact g5
      have hml := misN_le (c := c) j
      by_cases hv : votedF c (gN c (c 6) (c 7) j) (c 7) = 0
      · have hs : gN c (c 6) (c 7) (j + 1) = gN c (c 6) (c 7) j := next_same.mpr hv
        have hmi : misN c (j + 1) = misN c j + 1 := by rw [misN_s, if_pos hv]
        rw [if_pos (by rw [hs])]
        unfold w_X3_passYears_75
        rw [show tn 0 = 0 from rfl, f98, g2, N1, jI_add]
        refine ⟨vp_nI (a := 0) (n := 5) (by decide) (by decide), ?_⟩
        rintro _ rfl
        refine ⟨by rw [gr_si, hw3.r97]; exact hw3.1, ?_⟩
        rw [jI_add]
        rintro y rfl
        refine fin 0 _ (by decide) _ (by rw [gr_si, hw3.r97]) ?_ ?_ (Or.inl rfl)
        · rw [gr_si, hw3.r97, gi_si_a (by omega), gi_si_s, hmi]
          rfl
        · rw [gr_si, hw3.r97, gi_si_a (by omega), gi_si_k (by decide), f98, g4, hmi]
          congr 1
          omega
      · have hs : gN c (c 6) (c 7) (j + 1) ≠ gN c (c 6) (c 7) j := fun z => hv (next_same.mp z)
        have hmi : misN c (j + 1) = misN c j := by rw [misN_s, if_neg hv]
        rw [if_neg (by rw [jI_eq (by omega) (by omega)]; exact hs)]
        unfold w_X3_passYears_75
        rw [show tn 2 = 2 from rfl, f98, g4, N1, jI_add]
        refine ⟨vp_nI (a := 2) (n := 5) (by decide) (by decide), ?_⟩
        rintro _ rfl
        refine ⟨by rw [gr_si, hw3.r97]; exact hw3.1, ?_⟩
        rw [jI_add]
        rintro y rfl
        refine fin 2 _ (by decide) _ (by rw [gr_si, hw3.r97]) ?_ ?_ (Or.inr rfl)
        · rw [gr_si, hw3.r97, gi_si_a (by omega), gi_si_k (by decide), f98, g2, hmi]
        · rw [gr_si, hw3.r97, gi_si_a (by omega), gi_si_s, hmi]
          congr 1
          omega
    · rintro K ⟨x2, τ⟩ ⟨r2, e, hw2, g1, g2, g3, g4, g5⟩
      dsimp only at r2 e hw2 g1 g2 g3 g4 g5 ⊢
      subst r2
      have hA := hw.1.rg
      have g11 : gr τ 1 11 = gr σ 1 11 := e.2.2 1 11
      have ok2 : OK (updC c 6 (gN c (c 6) (c 7) n)) := ok.put (Or.inr (Or.inl ⟨rfl, gN_lt ok.n6 n⟩))
      unfold w_X3_passYears_28
      rw [if_pos (by rw [jI_le (by omega) (by omega)]; exact Nat.le_refl _), hw2.r97, show gi τ (gr τ 1 11) 13 = nI (c 5) from by rw [hw2.f (k := 5) (by decide), updC_n (by decide)], jI_add]
      refine ⟨hw2.1, ?_⟩
      rintro _ rfl
      have hp := hw2.put ok2 (k := 5) (v := c 5 + n) (Or.inl rfl)
      have h98 : gi (si τ (gr τ 1 11) 13 (nI (c 5 + n))) 98 1 = nI q.2.2.1 := by rw [gi_si_a (by omega)]; exact g3
      rw [h98, jI_add]
      refine k _ (e.tr ((Eo.si (by unfold SLa; omega)).tr (Eo.si (by unfold SLa; omega)))) ⟨hp.ex (Eo.si (by unfold SX; omega)), yearsC_OK ok hd, ?_, h4, ?_, gi_si_s, ?_, ?_⟩
      · rw [gi_si_a (by decide), gi_si_a (by omega)]; exact g1
      · rw [gi_si_k (by decide), gi_si_a (by omega)]; exact g2
      · rw [gi_si_k (by decide), gi_si_a (by omega)]; exact g4
      · rw [gi_si_k (by decide), gi_si_a (by omega)]; exact g5
  · rw [if_neg hd] at k
    rw [if_neg (fun z => hd ((jI_le (by omega) (by decide)).mp z))]
    exact k _ (c_miss h0).1 (c_miss h0).2
