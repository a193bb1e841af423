/-! ===== centuries lived: how they run ===== -/
/-- a loop that ends within so many rounds -/
def LpB {S : Type} (body : (S → Prop) → S → Prop) (B : Nat) (s : S) : Prop := ∀ m, B ≤ m → Lpn body m s
theorem LpB.go {S : Type} {body : (S → Prop) → S → Prop} {B : Nat} {s : S} (h : ∀ K : S → Prop, (∀ s', LpB body B s' → K s') → body K s) : LpB body (B + 1) s := fun m hm => by
  obtain ⟨m', rfl⟩ : ∃ m', m = m' + 1 := ⟨m - 1, by omega⟩
  exact h (Lpn body m') (fun s' hs => hs m' (by omega))
theorem LpB.lp {S : Type} {body : (S → Prop) → S → Prop} {B : Nat} {s : S} (h : LpB body B s) : Lp body s := ⟨B, h B (Nat.le_refl _)⟩
/-- the city, the tallies, how many steps, whether it is over, whether some are left -/
abbrev LTv : Type := (Nat → Nat) × LQ × Nat × Nat × Nat
def Sm (c0 c : Nat → Nat) : Prop := ∀ k, k ≠ 5 → k ≠ 6 → k ≠ 7 → c k = c0 k
theorem Sm.put {c0 c : Nat → Nat} {k v : Nat} (h : Sm c0 c) (hk : k = 5 ∨ k = 6 ∨ k = 7) : Sm c0 (updC c k v) := fun i h5 h6 h7 => by
  rw [updC_n (by omega)]; exact h i h5 h6 h7
theorem Sm.act {c0 c : Nat → Nat} {q : LQ} {s : Nat} (h : Sm c0 c) : Sm c0 (actF s c q).1 := by
  unfold actF goF jkF spF unmF remF yearsC
  split
  · split
    · exact (h.put (Or.inr (Or.inl rfl))).put (Or.inl rfl)
    · exact h
  · split
    · split
      · exact h
      · exact h.put (Or.inr (Or.inl rfl))
    · split
      · exact h.put (Or.inr (Or.inr rfl))
      · split
        · split
          · exact h
          · exact h.put (Or.inr (Or.inl rfl))
        · split
          · exact h.put (Or.inr (Or.inl rfl))
          · exact h
def incS (x : LTv) : LTv := (x.1, x.2.1, x.2.2.1 + 1, x.2.2.2)
def actS (s : Nat) (x : LTv) : LTv := ((actF s x.1 x.2.1).1, (actF s x.1 x.2.1).2, x.2.2)
def oneF (c0 : Nat → Nat) (r : Nat → Nat → LTv → LTv) (s : Nat) (x : LTv) : LTv := if x.2.2.1 = 300 then (x.1, x.2.1, 300, 1, 1) else if c0 (144 + 9 * s) ≤ 4 then actS s (incS x) else if c0 (144 + 9 * s) = 5 then (if soF x.1 (c0 (150 + 9 * s)) (c0 (145 + 9 * s)) (c0 (146 + 9 * s)) (c0 (151 + 9 * s)) = true then r (s + 1) (c0 (152 + 9 * s)) (incS x) else incS x) else if c0 (144 + 9 * s) = 6 then foldN (fun y _ => r (s + 1) (c0 (152 + 9 * s)) y) (incS x) (c0 (145 + 9 * s)) else (x.1, x.2.1, x.2.2.1 + 1, 1, x.2.2.2.2)
def lvF (c0 : Nat → Nat) : Nat → Nat → Nat → LTv → LTv
  | 0, _, _, x => x
  | n + 1, s, e, x => if e ≤ s ∨ x.2.2.2.1 ≠ 0 then x else lvF c0 n (c0 (152 + 9 * s)) e (oneF c0 (lvF c0 n) s x)
theorem lv_over {c0 : Nat → Nat} {n s e : Nat} {x : LTv} (h : x.2.2.2.1 ≠ 0) : lvF c0 n s e x = x := by
  cases n
  · rfl
  · exact if_pos (Or.inr h)
theorem fold_over {f : LTv → LTv} {x : LTv} {j : Nat} (hf : ∀ y : LTv, y.2.2.2.1 ≠ 0 → f y = y) (h : (foldN (fun y _ => f y) x j).2.2.2.1 ≠ 0) : ∀ i, foldN (fun y _ => f y) x (j + i) = foldN (fun y _ => f y) x j
  | 0 => rfl
  | i + 1 => by
    show f (foldN (fun y _ => f y) x (j + i)) = _
    rw [fold_over hf h i, hf _ h]
def SML (a k : Nat) : Prop := SM a k ∨ (a = 101 ∧ 40 ≤ k ∧ k ≤ 47) ∨ (a = 106 ∧ 5 ≤ k ∧ k ≤ 7)
def MX (c0 : Nat → Nat) (σ0 σ : Sto) (x : LTv) : Prop := Eo SML σ0 σ ∧ gi σ 101 0 = gi σ0 101 0 ∧ ML σ x.1 x.2.1 ∧ Sm c0 x.1 ∧ gi σ 101 42 = nI x.2.2.1 ∧ x.2.2.1 ≤ 300 ∧ gi σ 101 40 = nI x.2.2.2.1 ∧ x.2.2.2.1 ≤ 1 ∧ gi σ 101 47 = nI x.2.2.2.2
theorem m_one {c0 : Nat → Nat} {σ0 σ : Sto} {x : LTv} {rec : Int32 → Int32 → Sto → (Sto → Prop) → Prop} {r : Nat → Nat → LTv → LTv} {V O G U : Nat → Int32} {s L : Nat} {P : Sto → Prop} (h : MX c0 σ0 σ x) (hz : x.2.2.2.1 = 0) (st : stOK c0 V O G U s L) (hs : s < 30) (hr : blk c0 s → ∀ σ y Q, MX c0 σ0 σ y → (∀ τ, MX c0 σ0 τ (r (s + 1) (c0 (152 + 9 * s)) y) → Q τ) → rec (nI (s + 1)) (nI (c0 (152 + 9 * s))) σ Q) (ho : ∀ y : LTv, y.2.2.2.1 ≠ 0 → r (s + 1) (c0 (152 + 9 * s)) y = y) (k : ∀ τ, MX c0 σ0 τ (oneF c0 r s x) → P τ) : w_X12_doOne_e rec (nI s) σ P := by
  obtain ⟨he, h0, hm, sm, h42, hd, h40, hv, h47⟩ := h
  obtain ⟨c, q, d, ov, lf⟩ := x
  dsimp only at he h0 hm sm h42 hd h40 hv h47 hz k
  subst hz
  unfold oneF at k
  dsimp only at k
  unfold w_X12_doOne_e
  rw [h42, show (300 : Int32) = nI 300 from rfl]
  by_cases h3 : d = 300
  · rw [if_pos h3] at k
    rw [if_pos (by rw [h3])]
    obtain ⟨m1, m2, m3, m4, m5, m6, m7, m8⟩ := hm
    refine k _ ⟨he.tr (Eo.tr (S := SML) (Eo.si (by unfold SML; omega)) (Eo.si (by unfold SML; omega))), ?_, ⟨(m1.vv rfl).vv rfl, m2, ?_, m4, ?_, ?_, ?_, ?_⟩, sm, ?_, Nat.le_refl 300, ?_, Nat.le_refl 1, gi_si_s⟩
    · rw [gi_si_k (by decide), gi_si_k (by decide)]; exact h0
    · rw [gi_si_k (by decide), gi_si_k (by decide)]; exact m3
    · rw [gi_si_k (by decide), gi_si_k (by decide)]; exact m5
    · rw [gi_si_k (by decide), gi_si_k (by decide)]; exact m6
    · rw [gi_si_k (by decide), gi_si_k (by decide)]; exact m7
    · rw [gi_si_k (by decide), gi_si_k (by decide)]; exact m8
    · rw [gi_si_k (by decide), gi_si_k (by decide), h42, h3]
    · rw [gi_si_k (by decide), gi_si_s]; rfl
  rw [if_neg h3] at k
  rw [if_neg (by rw [jI_eq (by omega) (by decide)]; exact h3)]
  have ea : (144 : Int32) + 9 * nI s = nI (144 + 9 * s) := by
    rw [show (9 : Int32) = nI 9 from rfl, show (144 : Int32) = nI 144 from rfl, jI_mul, jI_add]
  rw [ea]
  rintro _ rfl
  refine ⟨vp_nI (by omega) (by decide), ?_⟩
  have e42 : nI d + 1 = nI (d + 1) := jI_add (b := 1)
  rw [e42]
  rintro _ rfl
  have e1 : Eo SML σ (si σ 101 42 (nI (d + 1))) := Eo.si (by unfold SML; omega)
  have hx : MX c0 σ0 (si σ 101 42 (nI (d + 1))) (incS (c, q, d, 0, lf)) := by
    obtain ⟨m1, m2, m3, m4, m5, m6, m7, m8⟩ := hm
    refine ⟨he.tr e1, ?_, ⟨m1.vv rfl, m2, ?_, m4, ?_, ?_, ?_, ?_⟩, sm, gi_si_s, by show d + 1 ≤ 300; omega, ?_, by show 0 ≤ 1; omega, ?_⟩
    · rw [gi_si_k (by decide)]; exact h0
    · rw [gi_si_k (by decide)]; exact m3
    · rw [gi_si_k (by decide)]; exact m5
    · rw [gi_si_k (by decide)]; exact m6
    · rw [gi_si_k (by decide)]; exact m7
    · rw [gi_si_k (by decide)]; exact m8
    · rw [gi_si_k (by decide)]; exact h40
    · rw [gi_si_k (by decide)]; exact h47
  generalize si σ 101 42 (nI (d + 1)) = σ1 at hx ⊢
  clear hm h0 he e1
  have hx0 := hx
  obtain ⟨he, h0, hm, sm', h42', hd', h40', hv', h47'⟩ := hx
  dsimp only [incS] at hm h42' hd' h40' h47'
  have hc : ∀ i, 8 ≤ i → i < 421 → gi σ1 106 i = nI (c0 i) := fun i hi hi' => by rw [hm.1 i hi', sm i (by omega) (by omega) (by omega)]
  rw [tn_nI (by omega), hc _ (by omega) (by omega)]
  rintro _ rfl
  obtain ⟨s1, s2, s3, s4, s5, s6⟩ := st
  have a8 : nI (144 + 9 * s) + 8 = nI (152 + 9 * s) := (jI_add (b := 8)).trans (by congr 1; omega)
  have as1 : nI s + 1 = nI (s + 1) := jI_add (b := 1)
  rw [show (5 : Int32) = nI 5 from rfl]
  have e0 : c 0 = c0 0 := sm 0 (by decide) (by decide) (by decide)
  have e2 : c 2 = c0 2 := sm 2 (by decide) (by decide) (by decide)
  have ei : ∀ i, 8 ≤ i → c i = c0 i := fun i hi => sm i (by omega) (by omega) (by omega)
  by_cases k4 : c0 (144 + 9 * s) ≤ 4
  · rw [if_pos k4] at k
    rw [if_neg (by rw [jI_le (by decide) (by omega)]; omega)]
    refine m_does hm hs (by rw [ei _ (by omega)]; exact k4) (fun q0 => by rw [ei _ (by omega)]; exact (s3 (by rw [← ei _ (by omega)]; exact q0)).2.2) (fun q0 => by rw [ei _ (by omega), e0]; exact (s4 (by rw [← ei _ (by omega)]; exact q0)).2) (fun τ dd hk => ?_)
    obtain ⟨p1, p2, p3, p4, p5, p6, p7, p8, p9, p10⟩ := hk
    have h43 : gi σ1 101 43 = nI q.2.1 := hm.2.2.2.2.1
    have ev : Eo SML σ1 τ := p1.mo (fun a i z => by
      unfold SMv at z; unfold SML
      rcases z with z | z
      · exact Or.inl z
      · omega)
    have f42 : ∀ i, i = 42 ∨ i = 40 ∨ i = 47 → gi τ 101 i = gi σ1 101 i := fun i hi => p1.1 101 i (by unfold SMv SM; omega)
    rw [h43, jI_add, ← p7]
    refine k _ ⟨(he.tr ev).tr (Eo.si (by unfold SML; omega)), ?_, ⟨p3.vv rfl, p4, ?_, p6, gi_si_s, ?_, ?_, ?_⟩, sm.act, ?_, hd', ?_, hv', ?_⟩
    · rw [gi_si_k (by decide), p2]; exact h0
    · rw [gi_si_k (by decide)]; exact p5
    · rw [gi_si_k (by decide)]; exact p8
    · rw [gi_si_k (by decide)]; exact p9
    · rw [gi_si_k (by decide)]; exact p10
    · rw [gi_si_k (by decide), f42 42 (by decide)]; exact h42'
    · rw [gi_si_k (by decide), f42 40 (by decide)]; exact h40'
    · rw [gi_si_k (by decide), f42 47 (by decide)]; exact h47'
  rw [if_neg k4] at k
  rw [if_pos (by rw [jI_le (by decide) (by omega)]; omega)]
  by_cases k5 : c0 (144 + 9 * s) = 5
  · rw [if_pos k5] at k
    rw [if_pos (by rw [k5])]
    obtain ⟨w1, w2, w3, w4, w5⟩ := s5 k5
    refine m_isSo hm.1 hm.2.1 hs (by rw [ei _ (by omega)]; exact w1) (by rw [ei _ (by omega), ei _ (by omega), e2]; exact w3) (by rw [ei _ (by omega), ei _ (by omega), e0]; exact w4) (fun q0 => ?_) (fun τ ev => ?_)
    · rw [ei _ (by omega)] at q0
      rw [ei _ (by omega), ei _ (by omega)]
      exact ⟨(w5 q0).2.1, (w5 q0).2.2.2⟩
    · have hx2 : MX c0 σ0 τ (incS (c, q, d, 0, lf)) := by
        have f : ∀ i, gi τ 101 i = gi σ1 101 i := fun i => ev.1 101 i (fun q => absurd (show (101 : Nat) = 109 from q) (by decide))
        have g : ∀ i, gi τ 106 i = gi σ1 106 i := fun i => ev.1 106 i (fun q => absurd (show (106 : Nat) = 109 from q) (by decide))
        obtain ⟨m1, m2, m3, m4, m5, m6, m7, m8⟩ := hm
        exact ⟨he.tr (ev.mo (fun a i z => Or.inl (by unfold SM; omega))), by rw [f]; exact h0, ⟨fun i hi => by rw [g]; exact m1 i hi, m2, by rw [f]; exact m3, m4, by rw [f]; exact m5, by rw [f]; exact m6, by rw [f]; exact m7, by rw [f]; exact m8⟩, sm, by rw [f]; exact h42', hd', by rw [f]; exact h40', hv', by rw [f]; exact h47'⟩
      rw [ei _ (by omega), ei _ (by omega), ei _ (by omega), ei _ (by omega)]
      cases hb : soF c (c0 (150 + 9 * s)) (c0 (145 + 9 * s)) (c0 (146 + 9 * s)) (c0 (151 + 9 * s))
      · rw [hb, if_neg (by decide)] at k
        rw [if_pos (show bI false = 0 from rfl)]
        unfold w_X12_doOne_101
        rw [show (6 : Int32) = nI 6 from rfl, if_neg (by rw [jI_eq (by omega) (by decide)]; omega), if_pos (by rw [jI_le (by omega) (by decide)]; omega)]
        exact k τ hx2
      · rw [hb, if_pos rfl] at k
        rw [if_neg (show ¬ bI true = 0 by decide), a8, as1, tn_nI (by omega), ev.1 106 (152 + 9 * s) (fun q => absurd (show (106 : Nat) = 109 from q) (by decide)), hc _ (by omega) (by omega)]
        exact ⟨vp_nI (by omega) (by decide), hr (Or.inl k5) τ _ _ hx2 k⟩
  rw [if_neg k5] at k
  rw [if_neg (by rw [jI_eq (by omega) (by decide)]; exact k5)]
  unfold w_X12_doOne_101
  rw [show (6 : Int32) = nI 6 from rfl]
  by_cases k6 : c0 (144 + 9 * s) = 6
  · rw [if_pos k6] at k
    rw [if_pos (by rw [k6])]
    obtain ⟨u1, u2, u3⟩ := s6 k6
    have lp : ∀ i j υ, j + i = c0 (145 + 9 * s) → MX c0 σ0 υ (foldN (fun y _ => r (s + 1) (c0 (152 + 9 * s)) y) (incS (c, q, d, 0, lf)) j) → LpB (fun (K : Int32 × Sto → Prop) z => w_X12_doOne_110 rec K (nI s) (nI (144 + 9 * s)) z.1 z.2 P) (i + 1) (nI j, υ) := by
      intro i
      induction i with
      | zero =>
        intro j υ hj hxu
        refine LpB.go (fun K hK => ?_)
        have g : gi υ 106 (145 + 9 * s) = nI (c0 (145 + 9 * s)) := by rw [hxu.2.2.1.1 _ (by omega), hxu.2.2.2.1 _ (by omega) (by omega) (by omega)]
        dsimp only
        unfold w_X12_doOne_110
        rw [show nI (144 + 9 * s) + 1 = nI (145 + 9 * s) from (jI_add (b := 1)).trans (by congr 1; omega), tn_nI (by omega), g, if_pos (by rw [jI_le (by omega) (by omega)]; omega)]
        refine ⟨vp_nI (by omega) (by decide), k υ ?_⟩
        rw [← hj]; exact hxu
      | succ i ih =>
        intro j υ hj hxu
        refine LpB.go (fun K hK => ?_)
        have g : ∀ i, 8 ≤ i → i < 421 → gi υ 106 i = nI (c0 i) := fun i hi hi' => by rw [hxu.2.2.1.1 _ hi', hxu.2.2.2.1 _ (by omega) (by omega) (by omega)]
        dsimp only
        unfold w_X12_doOne_110
        rw [show nI (144 + 9 * s) + 1 = nI (145 + 9 * s) from (jI_add (b := 1)).trans (by congr 1; omega), tn_nI (by omega), g _ (by omega) (by omega), if_neg (by rw [jI_le (by omega) (by omega)]; omega)]
        refine ⟨vp_nI (by omega) (by decide), ?_⟩
        rw [hxu.2.2.2.2.2.2.1, N0]
        by_cases hov : (foldN (fun y _ => r (s + 1) (c0 (152 + 9 * s)) y) (incS (c, q, d, 0, lf)) j).2.2.2.1 = 0
        · rw [if_pos (by rw [hov]), a8, as1, tn_nI (by omega), g _ (by omega) (by omega)]
          refine ⟨vp_nI (by omega) (by decide), hr (Or.inr k6) υ _ _ hxu (fun τ hxt => ?_)⟩
          rintro _ rfl
          exact hK _ (by rw [show nI j + 1 = nI (j + 1) from jI_add (b := 1)]; exact ih (j + 1) τ (by omega) hxt)
        · rw [if_neg (by rw [jI_eq (by have := hxu.2.2.2.2.2.2.2.1; omega) (by decide)]; exact hov)]
          refine k υ ?_
          rw [← hj, fold_over ho hov]
          exact hxu
    exact (lp (c0 (145 + 9 * s)) 0 σ1 (by omega) hx0).lp
  · rw [if_neg k6] at k
    rw [if_neg (by rw [jI_eq (by omega) (by decide)]; exact k6), if_neg (by rw [jI_le (by omega) (by decide)]; omega)]
    obtain ⟨m1, m2, m3, m4, m5, m6, m7, m8⟩ := hm
    refine k _ ⟨he.tr (Eo.si (by unfold SML; omega)), ?_, ⟨m1.vv rfl, m2, ?_, m4, ?_, ?_, ?_, ?_⟩, sm, ?_, hd', gi_si_s, Nat.le_refl 1, ?_⟩
    · rw [gi_si_k (by decide)]; exact h0
    · rw [gi_si_k (by decide)]; exact m3
    · rw [gi_si_k (by decide)]; exact m5
    · rw [gi_si_k (by decide)]; exact m6
    · rw [gi_si_k (by decide)]; exact m7
    · rw [gi_si_k (by decide)]; exact m8
    · rw [gi_si_k (by decide)]; exact h42'
    · rw [gi_si_k (by decide)]; exact h47'
/-- a row of steps in the model -/
theorem m_all {c0 : Nat → Nat} {σ0 : Sto} {V O G U T : Nat → Int32} : ∀ n d s e L M fuel σ (x : LTv) (P : Sto → Prop), Lay c0 V O G U T n d s e L M → d < fuel → e ≤ 30 → MX c0 σ0 σ x → (∀ τ, MX c0 σ0 τ (lvF c0 n s e x) → P τ) → LpB (fun (K : Int32 × Sto → Prop) z => w_X12_doAll_2 (w_X12_doOne fuel) K (nI e) z.1 z.2 P) (n + 1) (nI s, σ)
  | 0, d, s, e, L, M, fuel, σ, x, P, hl, hf, he, hx, k => by
    refine LpB.go (fun K hK => ?_)
    have hl' : s = e ∧ L = M := hl
    dsimp only
    unfold w_X12_doAll_2
    rw [if_pos (by rw [hl'.1]; exact Int32.le_refl _)]
    exact k σ hx
  | n + 1, d, s, e, L, M, fuel, σ, x, P, hl, hf, he, hx, k => by
    refine LpB.go (fun K hK => ?_)
    dsimp only
    unfold w_X12_doAll_2
    rcases hl with ⟨h1, _⟩ | ⟨h1, h2, st, hl⟩
    · rw [if_pos (by rw [h1]; exact Int32.le_refl _)]
      have : lvF c0 (n + 1) s e x = x := if_pos (Or.inl (by omega))
      rw [this] at k
      exact k σ hx
    · rw [if_neg (by rw [jI_le (by omega) (by omega)]; omega), hx.2.2.2.2.2.2.1, N0]
      by_cases hov : x.2.2.2.1 = 0
      · have hlv : lvF c0 (n + 1) s e x = lvF c0 n (c0 (152 + 9 * s)) e (oneF c0 (lvF c0 n) s x) := if_neg (fun q => by rcases q with q | q <;> omega)
        rw [hlv] at k
        rw [if_pos (by rw [hov])]
        obtain ⟨f', rfl⟩ : ∃ f', fuel = f' + 1 := ⟨fuel - 1, by omega⟩
        show w_X12_doOne_e (w_X12_doAll_e (w_X12_doOne f')) (nI s) σ _
        have a8 : (144 : Int32) + 9 * nI s + 8 = nI (152 + 9 * s) := by
          rw [show (9 : Int32) = nI 9 from rfl, show (144 : Int32) = nI 144 from rfl, show (8 : Int32) = nI 8 from rfl, jI_mul, jI_add, jI_add]
          congr 1; omega
        rw [a8]
        have fin : ∀ (m : Nat), Lay c0 V O G U T n d (c0 (152 + 9 * s)) e m M → c0 (152 + 9 * s) ≤ e → ∀ τ, MX c0 σ0 τ (oneF c0 (lvF c0 n) s x) → vp_in (nI (152 + 9 * s)) 2105 ∧ ∀ x3 : Int32, x3 = gi τ 106 (tn (nI (152 + 9 * s))) → K (x3, τ) := by
          intro m hlm hle τ hxt
          refine ⟨vp_nI (by omega) (by decide), ?_⟩
          rw [tn_nI (by omega), hxt.2.2.1.1 _ (by omega), hxt.2.2.2.1 _ (by omega) (by omega) (by omega)]
          rintro _ rfl
          exact hK _ (m_all n d _ e m M (f' + 1) τ _ P hlm hf he hxt k)
        rcases hl with ⟨nb, hs1, hlr⟩ | ⟨hb, h3, h4, d', m, rfl, hm, hli, _, _, _, hlr⟩
        · refine m_one (r := lvF c0 n) hx hov st (by omega) (fun hb => absurd hb nb) (fun y hy => lv_over hy) (fun τ hxt => ?_)
          exact fin (L + 1) (by rw [hs1]; exact hlr) (by omega) τ hxt
        · refine m_one (r := lvF c0 n) hx hov st (by omega) (fun _ υ y Q hy hk => ?_) (fun y hy => lv_over hy) (fun τ hxt => ?_)
          · unfold w_X12_doAll_e
            exact (m_all n d' (s + 1) _ (L + 1) m f' υ y Q hli (by omega) (by omega) hy hk).lp
          · exact fin (m + 1) hlr h4 τ hxt
      · have hlv : lvF c0 (n + 1) s e x = x := if_pos (Or.inr hov)
        rw [hlv] at k
        rw [if_neg (by rw [jI_eq (by have := hx.2.2.2.2.2.2.2.1; omega) (by decide)]; exact hov)]
        exact k σ hx
