/-! ===== promises 43, 44: again; answers, the model ===== -/
def againM (c : Nat → Nat) (x : Int32) : Nat × Int32 := if ¬ x < 0 ∧ x < nI (c 0) then orM (againF c (tn x)) else (0, 2)
theorem lgF_le {T : Nat → Bool} {n : Nat} : lgF T n ≤ n := by
  rcases lgF_in (T := T) n with ⟨h, -⟩ | ⟨s, h, hs, -⟩ <;> omega
theorem againF_le {c : Nat → Nat} (ok : OK c) {t : Nat} : againF c t ≤ 65536 := by
  have h1 := lgF_le (T := agaT c t) (n := 2 ^ c 1)
  have h2 := pw16 ok
  unfold againF
  omega
theorem c_againM {σ : Sto} {c : Nat → Nat} {P : Int32 → Sto → Prop} {N : Nat} (h : KW N σ c) (ok : OK c) (hN : N ≤ 2000) {x : Int32} (k : ∀ τ, Eo SQ σ τ → KW N τ c → gi τ 1 15 = (againM c x).2 → (againM c x).1 ≤ 65536 → P (oI (againM c x).1) τ) : w_X11_againSet x σ P := by
  have := ok.n0
  unfold w_X11_againSet
  refine t_noThing h ok (fun hx => ?_) (fun hx => ?_)
  · obtain ⟨t, ht, rfl⟩ := hx
    rw [if_pos rfl]
    have e1 : againM c (nI t) = orM (againF c t) := by
      unfold againM
      rw [ifD_pos ht (by omega), tn_nI (by omega)]
    rw [e1] at k
    have hl := againF_le ok (t := t)
    refine c_leastMaking h ok hN ht (fun τ e hw2 => ?_)
    refine t_fineOrNone (by omega) ?_
    exact k _ (e.tr stq) hw2.st gi_si_s hl
  · rw [if_neg (by decide)]
    have e1 : againM c x = (0, 2) := ifD_neg hx (by omega)
    rw [e1] at k
    exact k _ stq h.st gi_si_s (by decide)
theorem c_againSet {σ : Sto} {c : Nat → Nat} {P : Int32 → Sto → Prop} {N : Nat} (h : KW N σ c) (ok : OK c) (hN : N ≤ 2000) {x : Int32} (k : ∀ τ, Eo SQ σ τ → KW N τ c → gi τ 1 15 = (setA (againM c x)).2 → P (setA (againM c x)).1 τ) : w_X11_againSet x σ P :=
  c_againM h ok hN (fun τ e hw hs _ => k τ e hw hs)
theorem c_again {σ : Sto} {c : Nat → Nat} {P : Int32 → Sto → Prop} {N : Nat} (h : KW N σ c) (ok : OK c) (hN : N ≤ 2000) {x : Int32} (k : ∀ τ, Eo SQ σ τ → KW N τ c → gi τ 1 15 = (sizA (againM c x)).2 → P (sizA (againM c x)).1 τ) : w_X11_again x σ P :=
  c_againM h ok hN (fun τ e hw hs hl => t_szC hl (k τ e hw hs))
theorem m_makingsFor {σ : Sto} {c : Nat → Nat} {P : Int32 → Sto → Prop} (h : MR σ c) (ok : OK c) {t : Nat} (ht : t < c 0) (k : P (oI (againF c t)) σ) : w_X12_makingsFor (nI t) σ P := by
  have := ok.n0
  have := ok.n1
  have hp := pw16 ok
  unfold w_X12_makingsFor
  rw [h 6 (by decide), t_has (by omega)]
  cases h6 : (c 6).testBit t
  · rw [if_pos (show bI false = 0 from rfl)]
    refine Lp_for (2 ^ c 1) (fun s q => q.1 = oI (lgF (agaT c t) s) ∧ q.2.1 = nI s ∧ q.2.2 = σ) ⟨rfl, rfl, rfl⟩ ?_ ?_
    · rintro s hs K ⟨x2, x3, τ⟩ ⟨r2, r3, e⟩ hK
      dsimp only at r2 r3 e hK ⊢
      subst r2 r3 e
      have hb := lgF_le (T := agaT c t) (n := s)
      have hst : lgF (agaT c t) (s + 1) = lgS (agaT c t) (lgF (agaT c t) s) s := rfl
      rw [hst] at hK
      generalize lgF (agaT c t) s = b at hb hK ⊢
      have skip : ¬ ((b = 0 ∨ pop s < pop (b - 1)) ∧ agaT c t s = true) → K (oI b, nI (s + 1), τ) := fun hno => hK _ ⟨by
        unfold lgS
        rw [if_neg hno], rfl, rfl⟩
      have take : (b = 0 ∨ pop s < pop (b - 1)) → w_X12_makingsFor_50 K (nI t) (oI b) (nI s) τ P := fun h1 => by
        unfold w_X12_makingsFor_50
        rw [h 6 (by decide)]
        refine t_standingBy h ok ?_
        rw [t_has (by omega), N1, jI_add]
        cases hT : (stF c (c 6) s).testBit t
        · rw [if_pos (show bI false = 0 from rfl)]
          rintro y rfl
          exact skip (fun q => by have : agaT c t s = false := hT; rw [this] at q; cases q.2)
        · rw [if_neg (show ¬ bI true = 0 by decide)]
          rintro y rfl
          exact hK _ ⟨by
            unfold lgS
            rw [if_pos ⟨h1, hT⟩]
            rfl, rfl, rfl⟩
      unfold w_X12_makingsFor_20
      rw [h 1 (by decide), bit1 (by omega), if_neg (by rw [jI_le (by omega) (by omega)]; omega)]
      by_cases hb0 : b = 0
      · rw [if_pos ((oI_neg (by omega)).mpr hb0)]
        exact take (Or.inl hb0)
      · rw [if_neg (fun q => hb0 ((oI_neg (by omega)).mp q))]
        obtain ⟨b', rfl⟩ : ∃ b', b = b' + 1 := ⟨b - 1, by omega⟩
        have hc1 := pop_le (a := s)
        have hc2 := pop_le (a := b')
        refine t_sizeOf ?_
        rw [show oI (b' + 1) = nI b' from rfl]
        refine t_sizeOf ?_
        by_cases hl : pop s < pop b'
        · rw [if_pos ((jI_lt (by omega) (by omega)).mpr hl)]
          exact take (Or.inr hl)
        · rw [if_neg (fun q => hl ((jI_lt (by omega) (by omega)).mp q)), N1, jI_add]
          rintro y rfl
          exact skip (fun q => q.1.elim (fun z => by omega) hl)
    · rintro K ⟨x2, x3, τ⟩ ⟨r2, r3, e⟩
      dsimp only at r2 r3 e ⊢
      subst r2 r3 e
      unfold w_X12_makingsFor_20
      rw [h 1 (by decide), bit1 (by omega), if_pos (by rw [jI_le (by omega) (by omega)]; exact Nat.le_refl _)]
      exact k
  · rw [if_neg (show ¬ bI true = 0 by decide)]
    have hno : (nowF c).testBit t = false := by
      cases hq : (nowF c).testBit t with
      | false => rfl
      | true => rw [up_not hq] at h6; cases h6
    rw [aga_none ok hno] at k
    exact k
theorem m_againSet {σ : Sto} {c : Nat → Nat} {P : Int32 → Sto → Prop} (h : MR σ c) (ok : OK c) {x : Int32} (k : ∀ τ, Eo SM σ τ → gi τ 101 0 = (setA (againM c x)).2 → P (setA (againM c x)).1 τ) : w_X12_againSet x σ P := by
  have := ok.n0
  unfold w_X12_againSet
  refine t_isThingAt (h.sm sm10) ok (fun hx => ?_) (fun hx => ?_)
  · rw [if_neg (by decide)]
    obtain ⟨t, ht, rfl⟩ := hx
    have e1 : againM c (nI t) = orM (againF c t) := by
      unfold againM
      rw [ifD_pos ht (by omega), tn_nI (by omega)]
    rw [e1] at k
    refine m_makingsFor (h.sm sm10) ok ht ?_
    have hl := againF_le ok (t := t)
    exact m_or2 (by omega) sm10 gi_si_s k
  · rw [if_pos rfl]
    have e1 : againM c x = (0, 2) := ifD_neg hx (by omega)
    rw [e1] at k
    exact k _ (sm10.tr sm0) gi_si_s
theorem m_again {σ : Sto} {c : Nat → Nat} {P : Int32 → Sto → Prop} (h : MR σ c) (ok : OK c) {x : Int32} (k : ∀ τ, Eo SM σ τ → gi τ 101 0 = (sizA (againM c x)).2 → P (sizA (againM c x)).1 τ) : w_X12_again x σ P := by
  have := ok.n0
  unfold w_X12_again
  refine t_isThingAt (h.sm sm10) ok (fun hx => ?_) (fun hx => ?_)
  · rw [if_neg (by decide)]
    obtain ⟨t, ht, rfl⟩ := hx
    have e1 : againM c (nI t) = orM (againF c t) := by
      unfold againM
      rw [ifD_pos ht (by omega), tn_nI (by omega)]
    rw [e1] at k
    refine m_makingsFor (h.sm sm10) ok ht ?_
    have hl := againF_le ok (t := t)
    exact m_siz (by omega) sm10 gi_si_s k
  · rw [if_pos rfl]
    have e1 : againM c x = (0, 2) := ifD_neg hx (by omega)
    rw [e1] at k
    exact k _ (sm10.tr sm0) gi_si_s
