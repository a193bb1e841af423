/-! ===== promises 13 to 15, 25 to 27: many, thing, making, vote, votes, voteBy ===== -/
def makF (c : Nat → Nat) (x : Int32) : Nat := foldN (fun s m => if nI (c (20 + m)) = x then s ||| 2 ^ m else s) 0 (c 1)
def voteA (c : Nat → Nat) : Int32 × Int32 := orA (votedF c (c 6) (c 7))
theorem voted_open {c : Nat → Nat} : votedF c (c 6) (c 7) = nameF c (c 4) (openF c) := rfl
theorem c_vote {σ : Sto} {c : Nat → Nat} {P : Int32 → Sto → Prop} {N : Nat} (h : KW N σ c) (ok : OK c) (hN : N ≤ 2000) (k : ∀ τ, Eo SQ σ τ → KW N τ c → gi τ 1 15 = (voteA c).2 → P (voteA c).1 τ) : w_X11_vote σ P := by
  have := ok.n0
  unfold w_X11_vote
  refine t_openNow h.kb ok hN (fun τ e hk => ?_)
  have hw := h.mk e hk
  refine ⟨hw.1, ?_⟩
  rw [show gi τ (gr τ 1 11) 12 = nI (c 4) from hw.f (k := 4) (by decide)]
  refine t_count hk.2.1 ok ok.n4 (openF_lt ok) (fun υ e2 hg => ?_)
  have hle := nameF_le (c := c) (law := c 4) (s := openF c)
  have e2' : Eo SQ τ υ := e2.mo (fun a k q => Or.inr (Or.inr (Or.inl q)))
  have hw2 : KW N υ c := hw.mk e2 ⟨hk.1.eo e2 (fun a k (q : a = 92) => by omega), hk.2.eo e2 NoC92 (fun q => absurd (show (90 : Nat) = 92 from q) (by decide)) (fun k q => absurd (show (91 : Nat) = 92 from q) (by decide))⟩
  refine t_fineOrNone (by omega) ?_
  exact k _ (((e.mo (fun _ _ => S89q)).tr e2').tr stq) hw2.st gi_si_s
theorem m_vote {σ : Sto} {c : Nat → Nat} {P : Int32 → Sto → Prop} (h : MR σ c) (ok : OK c) (k : ∀ τ, Eo SM σ τ → gi τ 101 0 = (voteA c).2 → P (voteA c).1 τ) : w_X12_vote σ P := by
  have := ok.n0
  have hs : MR (si (si σ 101 1 0) 101 0 0) c := h.sm sm10
  unfold w_X12_vote
  rintro σ1 rfl
  rw [hs 6 (by decide), hs 7 (by decide)]
  refine t_voted hs ok (fun τ e => ?_)
  have hle := votedF_le (c := c) (g := c 6) (x := c 7)
  exact m_or (by omega) e k
def votesA (c : Nat → Nat) (x : Int32) : Int32 × Int32 := if ¬ x < 0 ∧ x < nI (c 0) then (nI (gotF c (c 4) (openF c) (tn x)), 0) else (-1, 2)
theorem c_votes {σ : Sto} {c : Nat → Nat} {P : Int32 → Sto → Prop} {N : Nat} (h : KW N σ c) (ok : OK c) (hN : N ≤ 2000) {x : Int32} (k : ∀ τ, Eo SQ σ τ → KW N τ c → gi τ 1 15 = (votesA c x).2 → P (votesA c x).1 τ) : w_X11_votes x σ P := by
  have := ok.n0
  unfold w_X11_votes
  refine t_noThing h ok (fun hx => ?_) (fun hx => ?_)
  · rw [if_pos rfl]
    obtain ⟨t, ht, rfl⟩ := hx
    have e1 : votesA c (nI t) = (nI (gotF c (c 4) (openF c) t), 0) := by unfold votesA; rw [ifD_pos ht (by omega), tn_nI (by omega)]
    rw [e1] at k
    refine t_openNow h.kb ok hN (fun τ e hk => ?_)
    have hw := h.mk e hk
    refine ⟨hw.1, ?_⟩
    rw [show gi τ (gr τ 1 11) 12 = nI (c 4) from hw.f (k := 4) (by decide)]
    refine t_count hk.2.1 ok ok.n4 (openF_lt ok) (fun υ e2 hg => ?_)
    have e2' : Eo SQ τ υ := e2.mo (fun a k q => Or.inr (Or.inr (Or.inl q)))
    have hw2 : KW N υ c := hw.mk e2 ⟨hk.1.eo e2 (fun a k (q : a = 92) => by omega), hk.2.eo e2 NoC92 (fun q => absurd (show (90 : Nat) = 92 from q) (by decide)) (fun k q => absurd (show (91 : Nat) = 92 from q) (by decide))⟩
    refine ⟨vp_nI (by omega) (by decide), ?_⟩
    rw [tn_nI (by omega), hg t ht]
    exact k _ (((e.mo (fun _ _ => S89q)).tr e2').tr stq) hw2.st gi_si_s
  · rw [if_neg (by decide)]
    have e1 : votesA c x = (-1, 2) := ifD_neg hx (by omega)
    rw [e1] at k
    exact k _ stq h.st gi_si_s
theorem m_votes {σ : Sto} {c : Nat → Nat} {P : Int32 → Sto → Prop} (h : MR σ c) (ok : OK c) {x : Int32} (k : ∀ τ, Eo SM σ τ → gi τ 101 0 = (votesA c x).2 → P (votesA c x).1 τ) : w_X12_votes x σ P := by
  have := ok.n0
  have hs : MR (si (si σ 101 1 0) 101 0 0) c := h.sm sm10
  unfold w_X12_votes
  refine t_isThingAt hs ok (fun hx => ?_) (fun hx => ?_)
  · rw [if_neg (by decide)]
    obtain ⟨t, ht, rfl⟩ := hx
    have e1 : votesA c (nI t) = (nI (gotF c (c 4) (openF c) t), 0) := by unfold votesA; rw [ifD_pos ht (by omega), tn_nI (by omega)]
    rw [e1] at k
    refine t_inVote hs ok ?_
    rw [hs 4 (by decide)]
    refine t_namedBy hs ok ok.n4 (openF_lt ok) (fun τ e hg => ?_)
    refine ⟨vp_nI (by omega) (by decide), ?_⟩
    rw [tn_nI (by omega), hg t (by omega)]
    exact k _ (sm109 e) (st109 e)
  · rw [if_pos rfl]
    have e1 : votesA c x = (-1, 2) := ifD_neg hx (by omega)
    rw [e1] at k
    exact k _ (sm10.tr sm0) gi_si_s
def voteByA (c : Nat → Nat) (x : Int32) : Int32 × Int32 := if ¬ x < 0 ∧ x < nI 3 then orA (nameF c (tn x) (openF c)) else (-1, 5)
theorem le_lt {x : Int32} {n : Nat} {l : Int32} (hn : n < 2147483646) (hl : l.toInt = n) : x ≤ l ↔ x < nI (n + 1) := by
  rw [Int32.lt_iff_toInt_lt, jI_toInt (by omega), Int32.le_iff_toInt_le, hl]
  omega
theorem c_voteBy {σ : Sto} {c : Nat → Nat} {P : Int32 → Sto → Prop} {N : Nat} (h : KW N σ c) (ok : OK c) (hN : N ≤ 2000) {x : Int32} (k : ∀ τ, Eo SQ σ τ → KW N τ c → gi τ 1 15 = (voteByA c x).2 → P (voteByA c x).1 τ) : w_X11_voteBy x σ P := by
  have := ok.n0
  have hd := inD_iff (x := x) (N := 3) (by decide)
  have hle3 := le_lt (x := x) (n := 2) (l := 2) (by decide) (by decide)
  have out : ¬ inD x 3 → w_X11_voteBy_9 σ P := fun hx => by
    have e1 : voteByA c x = (-1, 5) := ifD_neg hx (by decide)
    rw [e1] at k
    exact k _ stq h.st gi_si_s
  unfold w_X11_voteBy
  by_cases h1 : x < 0
  · rw [if_pos h1]; exact out (fun q => (hd.mp q).1 h1)
  · rw [if_neg h1]
    by_cases h2 : x ≤ 2
    · rw [if_pos h2]
      obtain ⟨n, hn, rfl⟩ := hd.mpr ⟨h1, hle3.mp h2⟩
      have e1 : voteByA c (nI n) = orA (nameF c n (openF c)) := by unfold voteByA; rw [ifD_pos hn (by decide), tn_nI (by omega)]
      rw [e1] at k
      refine t_openNow h.kb ok hN (fun τ e hk => ?_)
      have hw := h.mk e hk
      refine t_count hk.2.1 ok (by omega) (openF_lt ok) (fun υ e2 hg => ?_)
      have hle := nameF_le (c := c) (law := n) (s := openF c)
      have e2' : Eo SQ τ υ := e2.mo (fun a k q => Or.inr (Or.inr (Or.inl q)))
      have hw2 : KW N υ c := hw.mk e2 ⟨hk.1.eo e2 (fun a k (q : a = 92) => by omega), hk.2.eo e2 NoC92 (fun q => absurd (show (90 : Nat) = 92 from q) (by decide)) (fun k q => absurd (show (91 : Nat) = 92 from q) (by decide))⟩
      refine t_fineOrNone (by omega) ?_
      exact k _ (((e.mo (fun _ _ => S89q)).tr e2').tr stq) hw2.st gi_si_s
    · rw [if_neg h2]
      exact out (fun q => h2 (hle3.mpr (hd.mp q).2))
theorem m_voteBy {σ : Sto} {c : Nat → Nat} {P : Int32 → Sto → Prop} (h : MR σ c) (ok : OK c) {x : Int32} (k : ∀ τ, Eo SM σ τ → gi τ 101 0 = (voteByA c x).2 → P (voteByA c x).1 τ) : w_X12_voteBy x σ P := by
  have := ok.n0
  have hs : MR (si (si σ 101 1 0) 101 0 0) c := h.sm sm10
  unfold w_X12_voteBy
  refine t_isInK (N := 2) (by decide) (by decide) (fun hx => ?_) (fun hx => ?_)
  · rw [if_neg (by decide)]
    obtain ⟨n, hn, rfl⟩ := hx
    have e1 : voteByA c (nI n) = orA (nameF c n (openF c)) := by unfold voteByA; rw [ifD_pos hn (by decide), tn_nI (by omega)]
    rw [e1] at k
    refine t_inVote hs ok ?_
    refine t_namedBy hs ok (by omega) (openF_lt ok) (fun τ e hg => ?_)
    have hle := nameF_le (c := c) (law := n) (s := openF c)
    exact m_or (by omega) e k
  · rw [if_pos rfl]
    have e1 : voteByA c x = (-1, 5) := ifD_neg hx (by decide)
    rw [e1] at k
    exact k _ (sm10.tr sm0) gi_si_s
def makingA (c : Nat → Nat) (x y : Int32) : Int32 × Int32 := if ¬ x < 0 ∧ x < nI (c 1) then (if y = 0 then (nI (c (20 + tn x)), 0) else if y = 1 then (nI (c (36 + tn x)), 0) else (-1, 5)) else (-1, 2)
theorem c_making {σ : Sto} {c : Nat → Nat} {P : Int32 → Sto → Prop} {N : Nat} (h : KW N σ c) (ok : OK c) {x y : Int32} (k : ∀ τ, Eo SQ σ τ → KW N τ c → gi τ 1 15 = (makingA c x y).2 → P (makingA c x y).1 τ) : w_X11_making x y σ P := by
  have := ok.n1
  have hd := inD_iff (x := x) (N := c 1) (by omega)
  have out : ¬ inD x (c 1) → w_X11_making_15 σ P := fun hx => by
    have e1 : makingA c x y = (-1, 2) := ifD_neg hx (by omega)
    rw [e1] at k
    exact k _ stq h.st gi_si_s
  unfold w_X11_making
  by_cases h1 : x < 0
  · rw [if_pos h1]; exact out (fun q => (hd.mp q).1 h1)
  · rw [if_neg h1]
    refine ⟨h.1, ?_⟩
    rw [show gi σ (gr σ 1 11) 9 = nI (c 1) from h.f (k := 1) (by decide)]
    by_cases h2 : x < nI (c 1)
    · rw [if_pos h2]
      obtain ⟨n, hn, rfl⟩ := hd.mpr ⟨h1, h2⟩
      have e1 : makingA c (nI n) y = (if y = 0 then (nI (c (20 + n)), 0) else if y = 1 then (nI (c (36 + n)), 0) else (-1, 5)) := by unfold makingA; rw [ifD_pos hn (by omega), tn_nI (by omega)]
      rw [e1] at k
      intro sw hsw
      rw [hsw]
      clear hsw sw
      by_cases hy0 : y = 0
      · rw [if_pos hy0] at k ⊢
        refine ⟨vp_nI (by omega) (by decide), ?_⟩
        rw [tn_nI (by omega), h.cr.2.2.1 n hn]
        exact k _ stq h.st gi_si_s
      · rw [if_neg hy0] at k ⊢
        by_cases hy1 : y = 1
        · rw [if_pos hy1] at k ⊢
          refine ⟨vp_nI (by omega) (by decide), ?_⟩
          rw [tn_nI (by omega), h.cr.2.2.2.1 n hn]
          exact k _ stq h.st gi_si_s
        · rw [if_neg hy1] at k ⊢
          exact k _ stq h.st gi_si_s
    · rw [if_neg h2]; exact out (fun q => h2 (hd.mp q).2)
theorem m_making {σ : Sto} {c : Nat → Nat} {P : Int32 → Sto → Prop} (h : MR σ c) (ok : OK c) {x y : Int32} (k : ∀ τ, Eo SM σ τ → gi τ 101 0 = (makingA c x y).2 → P (makingA c x y).1 τ) : w_X12_making x y σ P := by
  have := ok.n1
  have hs : MR (si (si σ 101 1 0) 101 0 0) c := h.sm sm10
  unfold w_X12_making
  rintro σ1 rfl
  rw [t_isIn, hs 1 (by decide)]
  by_cases hx : inD x (c 1)
  · rw [decide_eq_true ((rangeI (by omega)).mpr hx)]
    rw [if_neg (by decide)]
    obtain ⟨n, hn, rfl⟩ := hx
    have e1 : makingA c (nI n) y = (if y = 0 then (nI (c (20 + n)), 0) else if y = 1 then (nI (c (36 + n)), 0) else (-1, 5)) := by unfold makingA; rw [ifD_pos hn (by omega), tn_nI (by omega)]
    rw [e1] at k
    by_cases hy0 : y = 0
    · rw [if_pos hy0] at k ⊢
      rw [show (20 : Int32) = nI 20 from rfl, jI_add]
      refine ⟨vp_nI (by omega) (by decide), ?_⟩
      rw [tn_nI (by omega), hs _ (by omega)]
      exact k _ sm10 gi_si_s
    · rw [if_neg hy0] at k ⊢
      by_cases hy1 : y = 1
      · rw [if_pos hy1] at k ⊢
        rw [show (36 : Int32) = nI 36 from rfl, jI_add]
        refine ⟨vp_nI (by omega) (by decide), ?_⟩
        rw [tn_nI (by omega), hs _ (by omega)]
        exact k _ sm10 gi_si_s
      · rw [if_neg hy1] at k ⊢
        exact k _ (sm10.tr sm0) gi_si_s
  · rw [decide_eq_false (fun q => hx ((rangeI (by omega)).mp q))]
    rw [if_pos (by decide)]
    have e1 : makingA c x y = (-1, 2) := ifD_neg hx (by omega)
    rw [e1] at k
    exact k _ (sm10.tr sm0) gi_si_s
