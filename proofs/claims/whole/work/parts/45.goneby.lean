/-! ===== promises 32 to 34: gone by, ends, later ===== -/
def gN (c : Nat → Nat) (g x : Nat) : Nat → Nat
  | 0 => g
  | n + 1 => nextF c (gN c g x n) x
theorem gN_lt {c : Nat → Nat} {g x : Nat} (hg : g < 2 ^ c 0) : ∀ n, gN c g x n < 2 ^ c 0
  | 0 => hg
  | n + 1 => nextF_lt (gN_lt hg n)
def yrF (c : Nat → Nat) (want : Nat) : Nat → Nat → Nat
  | 0, _ => 0
  | f + 1, n => if sd want (upF c (gN c (c 6) (c 7) n)) = 0 then yrF c want f (n + 1) else n + 1
theorem yrF_le {c : Nat → Nat} {want : Nat} : ∀ f n, yrF c want f n ≤ f + n
  | 0, _ => Nat.zero_le _
  | f + 1, n => by
    have := yrF_le (c := c) (want := want) f (n + 1)
    unfold yrF
    split <;> omega
theorem KW.e3 {N : Nat} {σ τ : Sto} {c : Nat → Nat} (h : KW N σ c) (e : Eo S3 σ τ) (hk : KB N τ c) : KW N τ c := h.mk e hk
theorem c_years {σ : Sto} {c : Nat → Nat} {P : Int32 → Sto → Prop} {N : Nat} (h : KW N σ c) (ok : OK c) (hN : N ≤ 2000) {want : Nat} (hwl : want < 4096) (k : ∀ τ, Eo S3 σ τ → KW N τ c → P (oI (yrF c want 100 0)) τ) : w_X5_yearsTillWithout (nI want) σ P := by
  have := ok.n0
  have h5 : ∀ τ, KW N τ c → gr τ 93 5 = gr τ 1 11 := fun τ hτ => hτ.2.2.2.1
  unfold w_X5_yearsTillWithout
  refine ⟨by rw [h5 σ h]; exact h.1, ?_⟩
  rw [h5 σ h, show gi σ (gr σ 1 11) 14 = nI (c 6) from h.f (k := 6) (by decide)]
  rintro x2 rfl
  generalize hR : yrF c want 100 0 = R at k
  refine Lp_for 100 (fun j q => q.1 = nI (gN c (c 6) (c 7) j) ∧ q.2.1 = nI j ∧ Eo S3 σ q.2.2 ∧ KW N q.2.2 c ∧ yrF c want (100 - j) j = R) ⟨rfl, rfl, Eo.rf, h, hR⟩ ?_ ?_
  · rintro j hj K ⟨x2, x3, τ⟩ ⟨r2, r3, e, hw, hy⟩ hK
    dsimp only at r2 r3 e hw hK ⊢
    subst r2 r3
    have hg := gN_lt (x := c 7) ok.n6 j
    have hyj : yrF c want ((99 - j) + 1) j = R := by rw [← hy]; congr 1; omega
    have hsd : sd want (upF c (gN c (c 6) (c 7) j)) < 4096 := sub_lt (n := 12) sub_sd hwl
    unfold w_X5_yearsTillWithout_10
    rw [if_neg (by rw [show (99 : Int32) = nI 99 from rfl, jI_lt (by decide) (by omega)]; omega)]
    refine t_without hw.kb.1 ok hN (p12 hg ok.n0) (fun υ e2 h2 => ?_)
    have hw2 := hw.e89 e2 h2
    have e2' := e.tr (e2.mo (fun a k q => (Or.inl q : S3 a k)))
    rw [jI_andn]
    unfold yrF at hyj
    by_cases hz : sd want (upF c (gN c (c 6) (c 7) j)) = 0
    · rw [if_pos (by rw [hz]; rfl)]
      rw [if_pos hz] at hyj
      refine ⟨by rw [h5 υ hw2]; exact hw2.1, ?_⟩
      rw [h5 υ hw2, show gi υ (gr υ 1 11) 15 = nI (c 7) from hw2.f (k := 7) (by decide)]
      refine t_goneNext hw2.kb ok hN hg (fun φ e3 h3 => ?_)
      rintro x rfl
      refine hK _ ⟨rfl, jI_add, e2'.tr e3, hw2.e3 e3 h3, ?_⟩
      rw [show 100 - (j + 1) = 99 - j by omega]
      exact hyj
    · rw [if_neg (by rw [show (0 : Int32) = nI 0 from rfl, jI_eq (by omega) (by decide)]; exact hz)]
      rw [if_neg hz] at hyj
      subst hyj
      exact k υ e2' hw2
  · rintro K ⟨x2, x3, τ⟩ ⟨r2, r3, e, hw, hy⟩
    dsimp only at r2 r3 e hw ⊢
    subst r2 r3
    unfold w_X5_yearsTillWithout_10
    rw [if_pos (by decide)]
    have hy0 : R = 0 := hy.symm
    subst hy0
    exact k τ e hw
theorem t_after {σ : Sto} {c : Nat → Nat} {P : Int32 → Sto → Prop} (h : MR σ c) (ok : OK c) {g x : Nat} (k : ∀ τ, Eo S109 σ τ → P (nI (nextF c g x)) τ) : w_X12_after (nI g) (nI x) σ P := by
  have := ok.n0
  unfold w_X12_after
  refine t_voted h ok (fun τ e => ?_)
  have hle := votedF_le (c := c) (g := g) (x := x)
  have k' := k τ e
  unfold nextF at k'
  generalize votedF c g x = m at hle k' ⊢
  cases m with
  | zero => rw [if_neg (by decide)]; exact k'
  | succ t =>
    rw [if_neg (by omega), Nat.add_sub_cancel] at k'
    have e2 : nI g ||| (1 : Int32) <<< (nI t &&& 31) = nI (g ||| 2 ^ t) := by
      rw [jI_31 (by omega), show (1 : Int32) = nI 1 from rfl, jI_shl (by omega), Nat.one_shiftLeft, jI_or]
    rw [show oI (t + 1) = nI t from rfl, if_pos (by rw [show (0 : Int32) = nI 0 from rfl, jI_le (by decide) (by omega)]; exact Nat.zero_le _), e2]
    exact k'
theorem m_years {σ : Sto} {c : Nat → Nat} {P : Int32 → Sto → Prop} (h : MR σ c) (ok : OK c) {want : Nat} (hwl : want < 4096) (k : ∀ τ, Eo S109 σ τ → P (oI (yrF c want 100 0)) τ) : w_X12_yearWithout (nI want) σ P := by
  have := ok.n0
  unfold w_X12_yearWithout
  rw [h 6 (by decide)]
  rintro x2 rfl
  generalize hR : yrF c want 100 0 = R at k
  refine Lp_for 100 (fun j q => q.1 = nI (gN c (c 6) (c 7) j) ∧ q.2.1 = nI j ∧ Eo S109 σ q.2.2 ∧ yrF c want (100 - j) j = R) ⟨rfl, rfl, Eo.rf, hR⟩ ?_ ?_
  · rintro j hj K ⟨x2, x3, τ⟩ ⟨r2, r3, e, hy⟩ hK
    dsimp only at r2 r3 e hK ⊢
    subst r2 r3
    have hτ : MR τ c := h.sm (e.mo (fun _ _ => S109m))
    have hyj : yrF c want ((99 - j) + 1) j = R := by rw [← hy]; congr 1; omega
    have hsd : sd want (upF c (gN c (c 6) (c 7) j)) < 4096 := sub_lt (n := 12) sub_sd hwl
    unfold w_X12_yearWithout_10
    rw [if_neg (by rw [show (99 : Int32) = nI 99 from rfl, jI_lt (by decide) (by omega)]; omega)]
    refine t_standing hτ ok ?_
    rw [jI_andn]
    unfold yrF at hyj
    by_cases hz : sd want (upF c (gN c (c 6) (c 7) j)) = 0
    · rw [if_pos (by rw [hz]; rfl)]
      rw [if_pos hz] at hyj
      rw [hτ 7 (by decide)]
      refine t_after hτ ok (fun φ e3 => ?_)
      rintro x rfl
      refine hK _ ⟨rfl, jI_add, e.tr e3, ?_⟩
      rw [show 100 - (j + 1) = 99 - j by omega]
      exact hyj
    · rw [if_neg (by rw [show (0 : Int32) = nI 0 from rfl, jI_eq (by omega) (by decide)]; exact hz)]
      rw [if_neg hz] at hyj
      subst hyj
      exact k τ e
  · rintro K ⟨x2, x3, τ⟩ ⟨r2, r3, e, hy⟩
    dsimp only at r2 r3 e ⊢
    subst r2 r3
    unfold w_X12_yearWithout_10
    rw [if_pos (by decide)]
    have hy0 : R = 0 := hy.symm
    subst hy0
    exact k τ e
/-- an answer or none, with its STATUS -/
def orA (m : Nat) : Int32 × Int32 := (oI m, if m = 0 then 8 else 0)
theorem oI_ge {m : Nat} (hm : m < 2147483648) : (0 : Int32) ≤ oI m ↔ m ≠ 0 := by
  cases m with
  | zero => decide
  | succ t => rw [show oI (t + 1) = nI t from rfl, show (0 : Int32) = nI 0 from rfl, jI_le (by decide) (by omega)]; simp
def goneByA (c : Nat → Nat) (x : Int32) : Int32 × Int32 := if ¬ x < 0 ∧ x < nI (c 0) then orA (yrF c (2 ^ tn x) 100 0) else (-1, 2)
def endsA (c : Nat → Nat) (x : Int32) : Int32 × Int32 := if ¬ x < 0 ∧ x < nI (c 2) then orA (yrF c (c (52 + tn x)) 100 0) else (-1, 2)
theorem c_goneBy {σ : Sto} {c : Nat → Nat} {P : Int32 → Sto → Prop} {N : Nat} (h : KW N σ c) (ok : OK c) (hN : N ≤ 2000) {x : Int32} (k : ∀ τ, Eo SQ σ τ → KW N τ c → gi τ 1 15 = (goneByA c x).2 → P (goneByA c x).1 τ) : w_X11_goneBy x σ P := by
  have := ok.n0
  unfold w_X11_goneBy
  refine t_noThing h ok (fun hx => ?_) (fun hx => ?_)
  · rw [if_pos rfl]
    obtain ⟨t, ht, rfl⟩ := hx
    have e1 : goneByA c (nI t) = orA (yrF c (2 ^ t) 100 0) := by unfold goneByA; rw [ifD_pos ht (by omega), tn_nI (by omega)]
    rw [e1] at k
    rw [jI_31 (by omega), show (1 : Int32) = nI 1 from rfl, jI_shl (by omega), Nat.one_shiftLeft]
    refine c_years h ok hN (p12 (two_lt ht) ok.n0) (fun τ e hw => ?_)
    have := yrF_le (c := c) (want := 2 ^ t) 100 0
    refine t_fineOrNone (by omega) ?_
    exact k _ ((e.mo (fun _ _ => S3q)).tr stq) hw.st gi_si_s
  · rw [if_neg (by decide)]
    have e1 : goneByA c x = (-1, 2) := ifD_neg hx (by omega)
    rw [e1] at k
    exact k _ stq h.st gi_si_s
theorem m_goneBy {σ : Sto} {c : Nat → Nat} {P : Int32 → Sto → Prop} (h : MR σ c) (ok : OK c) {x : Int32} (k : ∀ τ, Eo SM σ τ → gi τ 101 0 = (goneByA c x).2 → P (goneByA c x).1 τ) : w_X12_goneBy x σ P := by
  have := ok.n0
  have hs : MR (si (si σ 101 1 0) 101 0 0) c := h.sm sm10
  unfold w_X12_goneBy
  refine t_isThingAt hs ok (fun hx => ?_) (fun hx => ?_)
  · rw [if_neg (by decide)]
    obtain ⟨t, ht, rfl⟩ := hx
    have e1 : goneByA c (nI t) = orA (yrF c (2 ^ t) 100 0) := by unfold goneByA; rw [ifD_pos ht (by omega), tn_nI (by omega)]
    rw [e1] at k
    rw [jI_31 (by omega), show (1 : Int32) = nI 1 from rfl, jI_shl (by omega), Nat.one_shiftLeft]
    refine m_years hs ok (p12 (two_lt ht) ok.n0) (fun τ e => ?_)
    have hy := yrF_le (c := c) (want := 2 ^ t) 100 0
    have e' : Eo SM σ τ := sm10.tr (e.mo (fun _ _ => S109m))
    unfold orA at k
    generalize yrF c (2 ^ t) 100 0 = m at hy k ⊢
    by_cases hm : m = 0
    · subst hm
      rw [if_neg (by decide)]
      exact k _ (e'.tr sm0) gi_si_s
    · rw [if_pos ((oI_ge (by omega)).mpr hm)]
      refine k _ e' ?_
      rw [e.1 _ _ (by intro q; rcases q with q | q <;> cases q), gi_si_s]
      simp [hm]
  · rw [if_pos rfl]
    have e1 : goneByA c x = (-1, 2) := ifD_neg hx (by omega)
    rw [e1] at k
    exact k _ (sm10.tr sm0) gi_si_s
