/-! ===== promises 35 to 38: the model's least sets ===== -/
theorem S109M {c : Nat → Nat} {σ τ : Sto} (h : MR σ c) (e : Eo S109 σ τ) : MR τ c := h.sm (e.mo (fun _ _ => S109m))
theorem m_isKeptBy {σ : Sto} {c : Nat → Nat} {P : Int32 → Sto → Prop} (h : MR σ c) (ok : OK c) {want x years : Nat} (hwl : want < 4096) (hy : years ≤ 12) (k : ∀ τ, Eo S109 σ τ → P (bI (ktF c want x years (c 6))) τ) : w_X12_isKeptBy (nI want) (nI years) (nI x) σ P := by
  have := ok.n0
  unfold w_X12_isKeptBy
  rw [h 6 (by decide)]
  rintro x4 rfl
  refine Lp_for (years + 1) (fun j q => (∃ g, q.1 = nI g ∧ g < 2 ^ c 0 ∧ ((j ≤ years ∧ ktF c want x (years - j) g = ktF c want x years (c 6)) ∨ (j = years + 1 ∧ ktF c want x years (c 6) = true))) ∧ q.2.1 = nI j ∧ Eo S109 σ q.2.2) ⟨⟨c 6, rfl, ok.n6, Or.inl ⟨Nat.zero_le _, by rw [Nat.sub_zero]⟩⟩, rfl, Eo.rf⟩ ?_ ?_
  · rintro j hj K ⟨x4, x5, τ⟩ ⟨⟨g, r4, hg, hkt⟩, r5, e1⟩ hK
    dsimp only at r4 r5 e1 hK ⊢
    subst r4 r5
    have hkt2 : ktF c want x (years - j) g = ktF c want x years (c 6) := by
      rcases hkt with q | q
      · exact q.2
      · omega
    have hm := S109M h e1
    have hs := sd_12' (b := upF c g) hwl
    unfold w_X12_isKeptBy_12
    rw [if_neg (by rw [jI_lt (by omega) (by omega)]; omega)]
    refine t_standing hm ok ?_
    rw [jI_andn, N0, N1, jI_add]
    by_cases hd : sd want (upF c g) = 0
    · rw [if_pos (by rw [hd])]
      by_cases hjy : years ≤ j
      · rw [if_pos (by rw [jI_le (by omega) (by omega)]; exact hjy)]
        rintro y rfl
        refine hK _ ⟨⟨g, rfl, hg, Or.inr ⟨by omega, ?_⟩⟩, rfl, e1⟩
        rw [show years - j = 0 by omega] at hkt2
        rw [← hkt2]
        exact decide_eq_true hd
      · rw [if_neg (by rw [jI_le (by omega) (by omega)]; exact hjy)]
        refine t_after hm ok (fun φ e3 => ?_)
        rintro y rfl
        refine hK _ ⟨⟨_, rfl, nextF_lt hg, Or.inl ⟨by omega, ?_⟩⟩, rfl, e1.tr e3⟩
        rw [← hkt2, show years - j = years - (j + 1) + 1 by omega]
        show _ = (decide _ && _)
        rw [decide_eq_true hd]
        rfl
    · rw [if_neg (by rw [jI_eq (by omega) (by decide)]; exact hd)]
      have h4 := ktF_no (want := want) (x := x) hd (years - j)
      rw [hkt2] at h4
      have hk := k τ e1
      rw [h4] at hk
      exact hk
  · rintro K ⟨x4, x5, τ⟩ ⟨⟨g, r4, hg, hkt⟩, r5, e1⟩
    dsimp only at r4 r5 e1 ⊢
    subst r4 r5
    unfold w_X12_isKeptBy_12
    rw [if_pos (by rw [jI_lt (by omega) (by omega)]; omega)]
    have hk := k τ e1
    rcases hkt with q | q
    · omega
    · rw [q.2] at hk
      exact hk
theorem lsS_le {free : Nat} {T : Nat → Bool} {n : Nat} : foldN (lsS free T) 0 n ≤ n :=
  foldN_inv (f := lsS free T) (a := 0) (fun j b => b ≤ j) (Nat.le_refl _) (fun k b hb => by
    unfold lsS; split
    · exact Nat.le_refl _
    · omega) n
theorem m_keeping {σ : Sto} {c : Nat → Nat} {P : Int32 → Sto → Prop} (h : MR σ c) (ok : OK c) {w years : Nat} (hw : w < c 2) (hy : years ≤ 12) (k : ∀ τ, Eo S109 σ τ → P (oI (keepF c (c (52 + w)) years)) τ) : w_X12_keeping (nI w) (nI years) σ P := by
  have := ok.n0
  have := ok.n2
  have hf := p12 (freeF_lt (c := c)) ok.n0
  have hwl := p12 (ok.needs w hw) ok.n0
  unfold w_X12_keeping
  rw [t_allThings h ok, h 7 (by decide), jI_andn, show sd (allF (c 0)) (c 7) = freeF c from rfl]
  rintro x3 rfl
  unfold keepF at k
  generalize hT : (fun s => ktF c (c (52 + w)) (c 7 ||| s) years (c 6)) = T at k
  have hTs : ∀ s, ktF c (c (52 + w)) (c 7 ||| s) years (c 6) = T s := fun s => by rw [← hT]
  refine Lp_for (freeF c + 1) (fun s q => q.1 = oI (foldN (lsS (freeF c) T) 0 s) ∧ q.2.1 = nI s ∧ Eo S109 σ q.2.2) ⟨rfl, rfl, Eo.rf⟩ ?_ ?_
  · rintro s hs K ⟨x4, x5, τ⟩ ⟨r4, r5, e1⟩ hK
    dsimp only at r4 r5 e1 hK ⊢
    subst r4 r5
    have hm := S109M h e1
    have hb := lsS_le (free := freeF c) (T := T) (n := s)
    have hst : foldN (lsS (freeF c) T) 0 (s + 1) = lsS (freeF c) T (foldN (lsS (freeF c) T) 0 s) s := rfl
    rw [hst] at hK
    generalize foldN (lsS (freeF c) T) 0 s = b at hb hK ⊢
    have hsd := sd_12' (a := s) (b := freeF c) (by omega)
    have skip : ∀ φ, Eo S109 σ φ → ¬ (sd s (freeF c) = 0 ∧ (b = 0 ∨ card s < card (b - 1)) ∧ T s = true) → K (oI b, nI (s + 1), φ) := fun φ e hno => hK _ ⟨by
      unfold lsS
      rw [if_neg hno], rfl, e⟩
    have take : sd s (freeF c) = 0 → (b = 0 ∨ card s < card (b - 1)) → w_X12_keeping_57 K (nI w) (nI years) (nI (freeF c)) (oI b) (nI s) τ P := fun h1 h2 => by
      unfold w_X12_keeping_57
      rw [N52, jI_add, tn_nI (by omega), hm _ (by omega), hm 7 (by decide), jI_or]
      refine ⟨vp_nI (by omega) (by decide), m_isKeptBy hm ok hwl hy (fun φ e2 => ?_)⟩
      rw [hTs]
      cases ht : T s
      · rw [if_pos (show bI false = 0 from rfl), N1, jI_add]
        rintro y rfl
        exact skip φ (e1.tr e2) (fun q => by rw [ht] at q; cases q.2.2)
      · rw [if_neg (show ¬ bI true = 0 by decide), N1, jI_add]
        rintro y rfl
        exact hK _ ⟨by
          unfold lsS
          rw [if_pos ⟨h1, h2, ht⟩]
          rfl, rfl, e1.tr e2⟩
    unfold w_X12_keeping_21
    rw [if_neg (by rw [jI_lt (by omega) (by omega)]; omega), jI_andn, N0]
    by_cases hd : sd s (freeF c) = 0
    · rw [if_pos (by rw [hd])]
      by_cases hb0 : b = 0
      · rw [if_pos (show oI b < nI 0 from (oI_neg (by omega)).mpr hb0)]
        exact take hd (Or.inl hb0)
      · rw [if_neg (show ¬ oI b < nI 0 from fun q => hb0 ((oI_neg (by omega)).mp q))]
        obtain ⟨b', rfl⟩ : ∃ b', b = b' + 1 := ⟨b - 1, by omega⟩
        have hc1 := card_le (a := s)
        have hc2 := card_le (a := b')
        refine t_sizeOf12 (by omega) ?_
        rw [show oI (b' + 1) = nI b' from rfl]
        refine t_sizeOf12 (by omega) ?_
        by_cases hl : card s < card b'
        · rw [if_pos ((jI_lt (by omega) (by omega)).mpr hl)]
          exact take hd (Or.inr hl)
        · rw [if_neg (fun q => hl ((jI_lt (by omega) (by omega)).mp q)), N1, jI_add]
          rintro y rfl
          exact skip τ e1 (fun q => q.2.1.elim (fun z => by omega) hl)
    · rw [if_neg (by rw [jI_eq (by omega) (by decide)]; exact hd), N1, jI_add]
      rintro y rfl
      exact skip τ e1 (fun q => hd q.1)
  · rintro K ⟨x4, x5, τ⟩ ⟨r4, r5, e1⟩
    dsimp only at r4 r5 e1 ⊢
    subst r4 r5
    unfold w_X12_keeping_21
    rw [if_pos (by rw [jI_lt (by omega) (by omega)]; omega)]
    exact k τ e1
theorem m_striking {σ : Sto} {c : Nat → Nat} {P : Int32 → Sto → Prop} (h : MR σ c) (ok : OK c) {w : Nat} (hw : w < c 2) (k : P (oI (strikeF c (c (52 + w)))) σ) : w_X12_striking (nI w) σ P := by
  have := ok.n0
  have := ok.n2
  have hf := p12 (freeF_lt (c := c)) ok.n0
  have hwl := p12 (ok.needs w hw) ok.n0
  unfold w_X12_striking
  rw [t_allThings h ok, h 7 (by decide), jI_andn, show sd (allF (c 0)) (c 7) = freeF c from rfl]
  rintro x3 rfl
  unfold strikeF at k
  generalize hT : (fun s => decide (sd (c (52 + w)) (upF c (c 6 ||| s)) ≠ 0)) = T at k
  have hTs : ∀ s, T s = decide (sd (c (52 + w)) (upF c (c 6 ||| s)) ≠ 0) := fun s => by rw [← hT]
  refine Lp_for (freeF c + 1) (fun s q => q.1 = oI (foldN (lsS (freeF c) T) 0 s) ∧ q.2.1 = nI s ∧ q.2.2 = σ) ⟨rfl, rfl, rfl⟩ ?_ ?_
  · rintro s hs K ⟨x4, x5, τ⟩ ⟨r4, r5, e1⟩ hK
    dsimp only at r4 r5 e1 hK ⊢
    subst r4 r5 e1
    have hb := lsS_le (free := freeF c) (T := T) (n := s)
    have hst : foldN (lsS (freeF c) T) 0 (s + 1) = lsS (freeF c) T (foldN (lsS (freeF c) T) 0 s) s := rfl
    rw [hst] at hK
    generalize foldN (lsS (freeF c) T) 0 s = b at hb hK ⊢
    have hsd := sd_12' (a := s) (b := freeF c) (by omega)
    have skip : ¬ (sd s (freeF c) = 0 ∧ (b = 0 ∨ card s < card (b - 1)) ∧ T s = true) → K (oI b, nI (s + 1), τ) := fun hno => hK _ ⟨by
      unfold lsS
      rw [if_neg hno], rfl, rfl⟩
    have take : sd s (freeF c) = 0 → (b = 0 ∨ card s < card (b - 1)) → w_X12_striking_54 K (nI w) (nI (freeF c)) (oI b) (nI s) τ P := fun h1 h2 => by
      have h3 := sd_12' (b := upF c (c 6 ||| s)) hwl
      unfold w_X12_striking_54
      rw [N52, jI_add, tn_nI (by omega), h 6 (by decide), h _ (by omega), jI_or]
      refine ⟨vp_nI (by omega) (by decide), t_standing h ok ?_⟩
      rw [jI_andn, N0, N1, jI_add]
      by_cases hd : sd (c (52 + w)) (upF c (c 6 ||| s)) = 0
      · rw [if_pos (by rw [hd])]
        rintro y rfl
        exact skip (fun q => by rw [hTs] at q; exact (of_decide_eq_true q.2.2) hd)
      · rw [if_neg (by rw [jI_eq (by omega) (by decide)]; exact hd)]
        rintro y rfl
        exact hK _ ⟨by
          unfold lsS
          rw [if_pos ⟨h1, h2, by rw [hTs]; exact decide_eq_true hd⟩]
          rfl, rfl, rfl⟩
    unfold w_X12_striking_20
    rw [if_neg (by rw [jI_lt (by omega) (by omega)]; omega), jI_andn, N0]
    by_cases hd : sd s (freeF c) = 0
    · rw [if_pos (by rw [hd])]
      by_cases hb0 : b = 0
      · rw [if_pos (show oI b < nI 0 from (oI_neg (by omega)).mpr hb0)]
        exact take hd (Or.inl hb0)
      · rw [if_neg (show ¬ oI b < nI 0 from fun q => hb0 ((oI_neg (by omega)).mp q))]
        obtain ⟨b', rfl⟩ : ∃ b', b = b' + 1 := ⟨b - 1, by omega⟩
        have hc1 := card_le (a := s)
        have hc2 := card_le (a := b')
        refine t_sizeOf12 (by omega) ?_
        rw [show oI (b' + 1) = nI b' from rfl]
        refine t_sizeOf12 (by omega) ?_
        by_cases hl : card s < card b'
        · rw [if_pos ((jI_lt (by omega) (by omega)).mpr hl)]
          exact take hd (Or.inr hl)
        · rw [if_neg (fun q => hl ((jI_lt (by omega) (by omega)).mp q)), N1, jI_add]
          rintro y rfl
          exact skip (fun q => q.2.1.elim (fun z => by omega) hl)
    · rw [if_neg (by rw [jI_eq (by omega) (by decide)]; exact hd), N1, jI_add]
      rintro y rfl
      exact skip (fun q => hd q.1)
  · rintro K ⟨x4, x5, τ⟩ ⟨r4, r5, e1⟩
    dsimp only at r4 r5 e1 ⊢
    subst r4 r5 e1
    unfold w_X12_striking_20
    rw [if_pos (by rw [jI_lt (by omega) (by omega)]; omega)]
    exact k
theorem m_siz {σ τ : Sto} {P : Int32 → Sto → Prop} {m : Nat} (hm : m < 2147483648) (e : Eo SM σ τ) (h0 : gi τ 101 0 = 0) (k : ∀ τ, Eo SM σ τ → gi τ 101 0 = (sizA (orM m)).2 → P (sizA (orM m)).1 τ) : (if 0 ≤ oI m then w_X12_sizeOf (oI m) τ (fun r s => P r s) else w_X12_refuse 8 τ (fun r σ => P r σ)) := by
  unfold orM sizA at k
  by_cases hz : m = 0
  · subst hz
    rw [if_neg (by decide)]
    exact k _ (e.tr sm0) gi_si_s
  · rw [if_pos ((oI_ge hm).mpr hz)]
    obtain ⟨m', rfl⟩ : ∃ m', m = m' + 1 := ⟨m - 1, by omega⟩
    rw [show oI (m' + 1) = nI m' from rfl]
    refine t_sizeOf ?_
    have e1 : szO (m' + 1) = pop m' + 1 := by unfold szO; rw [if_neg (by omega), Nat.add_sub_cancel]
    have hk := k τ e (by rw [h0]; show (0 : Int32) = if m' + 1 = 0 then 8 else 0; rw [if_neg hz])
    dsimp only at hk
    rw [e1] at hk
    exact hk
theorem t_whyKeep {σ : Sto} {c : Nat → Nat} {P : Int32 → Sto → Prop} (h : MR σ c) (ok : OK c) {x y : Int32} (k2 : keepM c x y = (0, 2) → P 2 σ) (k5 : keepM c x y = (0, 5) → P 5 σ) (k0 : ∀ w n, w < c 2 → n ≤ 12 → x = nI w → y = nI n → keepM c x y = orM (keepF c (c (52 + w)) n) → P 0 σ) : w_X12_whyNoKeep x y σ P := by
  have := ok.n2
  unfold w_X12_whyNoKeep
  refine t_isWorkAt h ok (fun hx => ?_) (fun hx => ?_)
  · rw [if_neg (by decide)]
    obtain ⟨w, hw, rfl⟩ := hx
    refine t_isInK (N := 12) (by decide) (by decide) (fun hy => ?_) (fun hy => ?_)
    · rw [if_neg (by decide)]
      obtain ⟨n, hn, rfl⟩ := hy
      refine k0 w n hw (by omega) rfl rfl ?_
      unfold keepM
      rw [ifD_pos hw (by omega), ifD_pos (N := 13) hn (by omega), tn_nI (by omega), tn_nI (by omega)]
    · rw [if_pos rfl]
      refine k5 ?_
      unfold keepM
      rw [ifD_pos hw (by omega), ifD_neg (N := 13) hy (by decide)]
  · rw [if_pos rfl]
    exact k2 (ifD_neg hx (by omega))
theorem st2 {σ τ : Sto} {S : Nat → Nat → Prop} {v : Int32} (e : Eo S (si σ 101 0 v) τ) (hs : ¬ S 101 0) : gi τ 101 0 = v := by
  rw [e.1 101 0 hs]
  exact gi_si_s
theorem n109 : ¬ S109 101 0 := by unfold S109; decide
theorem m_keepSet {σ : Sto} {c : Nat → Nat} {P : Int32 → Sto → Prop} (h : MR σ c) (ok : OK c) {x y : Int32} (k : ∀ τ, Eo SM σ τ → gi τ 101 0 = (setA (keepM c x y)).2 → P (setA (keepM c x y)).1 τ) : w_X12_keepSet x y σ P := by
  unfold w_X12_keepSet
  refine t_whyKeep (h.sm sm1) ok (fun e => ?_) (fun e => ?_) (fun w n hw hn hx hy e => ?_)
  · rw [e] at k
    rintro σ3 rfl
    rw [gi_si_s, if_neg (by decide)]
    exact k _ sm10 gi_si_s
  · rw [e] at k
    rintro σ3 rfl
    rw [gi_si_s, if_neg (by decide)]
    exact k _ sm10 gi_si_s
  · rw [e] at k
    subst hx hy
    rintro σ3 rfl
    rw [gi_si_s, if_pos (by decide)]
    refine m_keeping (h.sm sm10) ok hw hn (fun τ e1 => ?_)
    have hl := lsF_12 ok (T := fun s => ktF c (c (52 + w)) (c 7 ||| s) n (c 6))
    exact m_or2 (m := keepF c (c (52 + w)) n) (by unfold keepF; omega) (sm10.tr (e1.mo (fun _ _ => S109m))) (st2 e1 n109) k
theorem m_keep {σ : Sto} {c : Nat → Nat} {P : Int32 → Sto → Prop} (h : MR σ c) (ok : OK c) {x y : Int32} (k : ∀ τ, Eo SM σ τ → gi τ 101 0 = (sizA (keepM c x y)).2 → P (sizA (keepM c x y)).1 τ) : w_X12_keep x y σ P := by
  unfold w_X12_keep
  refine t_whyKeep (h.sm sm1) ok (fun e => ?_) (fun e => ?_) (fun w n hw hn hx hy e => ?_)
  · rw [e] at k
    rintro σ3 rfl
    rw [gi_si_s, if_neg (by decide)]
    exact k _ sm10 gi_si_s
  · rw [e] at k
    rintro σ3 rfl
    rw [gi_si_s, if_neg (by decide)]
    exact k _ sm10 gi_si_s
  · rw [e] at k
    subst hx hy
    rintro σ3 rfl
    rw [gi_si_s, if_pos (by decide)]
    refine m_keeping (h.sm sm10) ok hw hn (fun τ e1 => ?_)
    have hl := lsF_12 ok (T := fun s => ktF c (c (52 + w)) (c 7 ||| s) n (c 6))
    exact m_siz (m := keepF c (c (52 + w)) n) (by unfold keepF; omega) (sm10.tr (e1.mo (fun _ _ => S109m))) (st2 e1 n109) k
theorem m_strikeSet {σ : Sto} {c : Nat → Nat} {P : Int32 → Sto → Prop} (h : MR σ c) (ok : OK c) {x : Int32} (k : ∀ τ, Eo SM σ τ → gi τ 101 0 = (setA (strikeM c x)).2 → P (setA (strikeM c x)).1 τ) : w_X12_strikeSet x σ P := by
  have := ok.n2
  unfold w_X12_strikeSet
  refine t_isWorkAt (h.sm sm10) ok (fun hx => ?_) (fun hx => ?_)
  · rw [if_neg (by decide)]
    obtain ⟨w, hw, rfl⟩ := hx
    have e1 : strikeM c (nI w) = orM (strikeF c (c (52 + w))) := by
      unfold strikeM
      rw [ifD_pos hw (by omega), tn_nI (by omega)]
    rw [e1] at k
    refine m_striking (h.sm sm10) ok hw ?_
    have hl := lsF_12 ok (T := fun s => decide (sd (c (52 + w)) (upF c (c 6 ||| s)) ≠ 0))
    exact m_or2 (m := strikeF c (c (52 + w))) (by unfold strikeF; omega) sm10 gi_si_s k
  · rw [if_pos rfl]
    have e1 : strikeM c x = (0, 2) := ifD_neg hx (by omega)
    rw [e1] at k
    exact k _ (sm10.tr sm0) gi_si_s
theorem m_strike {σ : Sto} {c : Nat → Nat} {P : Int32 → Sto → Prop} (h : MR σ c) (ok : OK c) {x : Int32} (k : ∀ τ, Eo SM σ τ → gi τ 101 0 = (sizA (strikeM c x)).2 → P (sizA (strikeM c x)).1 τ) : w_X12_strike x σ P := by
  have := ok.n2
  unfold w_X12_strike
  refine t_isWorkAt (h.sm sm10) ok (fun hx => ?_) (fun hx => ?_)
  · rw [if_neg (by decide)]
    obtain ⟨w, hw, rfl⟩ := hx
    have e1 : strikeM c (nI w) = orM (strikeF c (c (52 + w))) := by
      unfold strikeM
      rw [ifD_pos hw (by omega), tn_nI (by omega)]
    rw [e1] at k
    refine m_striking (h.sm sm10) ok hw ?_
    have hl := lsF_12 ok (T := fun s => decide (sd (c (52 + w)) (upF c (c 6 ||| s)) ≠ 0))
    exact m_siz (m := strikeF c (c (52 + w))) (by unfold strikeF; omega) sm10 gi_si_s k
  · rw [if_pos rfl]
    have e1 : strikeM c x = (0, 2) := ifD_neg hx (by omega)
    rw [e1] at k
    exact k _ (sm10.tr sm0) gi_si_s
