/-! ===== promises 16, 17, 25 to 27, 33, 34: needs, hate, votes, ends, later ===== -/
theorem rangeK {x : Int32} {N : Nat} {hi : Int64} (hN : N < 2147483647) (hh : hi.toInt = N) : ((0 : Int64) ≤ x.toInt64 ∧ x.toInt64 ≤ hi) ↔ inD x (N + 1) := by
  have h3 : (0 : Int32).toInt = 0 := by decide
  have h4 : (0 : Int64).toInt = 0 := by decide
  rw [inD_iff (by omega), Int64.le_iff_toInt_le, Int64.le_iff_toInt_le, i64_int, hh, h4, Int32.lt_iff_toInt_lt, Int32.lt_iff_toInt_lt, h3, jI_toInt (by omega)]
  omega
theorem t_isInK {σ : Sto} {P : Int32 → Sto → Prop} {x : Int32} {N : Nat} {hi : Int64} (hN : N < 2147483647) (hh : hi.toInt = N) (k1 : inD x (N + 1) → P 1 σ) (k0 : ¬ inD x (N + 1) → P 0 σ) : w_X12_isIn x.toInt64 0 hi σ P := by
  rw [t_isIn]
  by_cases hx : inD x (N + 1)
  · rw [decide_eq_true ((rangeK hN hh).mpr hx)]; exact k1 hx
  · rw [decide_eq_false (fun q => hx ((rangeK hN hh).mp q))]; exact k0 hx
theorem st109 {σ τ : Sto} (e : Eo S109 (si (si σ 101 1 0) 101 0 0) τ) : gi τ 101 0 = 0 := by
  rw [e.1 _ _ (by intro q; rcases q with q | q <;> cases q), gi_si_s]
theorem sm109 {σ τ : Sto} (e : Eo S109 (si (si σ 101 1 0) 101 0 0) τ) : Eo SM σ τ := sm10.tr (e.mo (fun _ _ => S109m))
/-- the model's answer or none -/
theorem m_or {σ τ : Sto} {P : Int32 → Sto → Prop} {m : Nat} (hm : m < 2147483648) (e : Eo S109 (si (si σ 101 1 0) 101 0 0) τ) (k : ∀ τ, Eo SM σ τ → gi τ 101 0 = (orA m).2 → P (orA m).1 τ) : (if 0 ≤ oI m then P (oI m) τ else w_X12_refuse 8 τ (fun r σ => P r σ)) := by
  unfold orA at k
  by_cases h0 : m = 0
  · subst h0
    rw [if_neg (by decide)]
    exact k _ ((sm109 e).tr sm0) gi_si_s
  · rw [if_pos ((oI_ge hm).mpr h0)]
    exact k _ (sm109 e) (by rw [st109 e]; simp [h0])
def needsA (c : Nat → Nat) (x : Int32) : Int32 × Int32 := if ¬ x < 0 ∧ x < nI (c 2) then (nI (c (52 + tn x)), 0) else (-1, 2)
theorem c_needs {σ : Sto} {c : Nat → Nat} {P : Int32 → Sto → Prop} {N : Nat} (h : KW N σ c) (ok : OK c) {x : Int32} (k : ∀ τ, Eo SQ σ τ → KW N τ c → gi τ 1 15 = (needsA c x).2 → P (needsA c x).1 τ) : w_X11_needs x σ P := by
  have := ok.n2
  unfold w_X11_needs
  refine t_noWork h ok (fun hx => ?_) (fun hx => ?_)
  · rw [if_pos rfl]
    obtain ⟨t, ht, rfl⟩ := hx
    have e1 : needsA c (nI t) = (nI (c (52 + t)), 0) := by unfold needsA; rw [ifD_pos ht (by omega), tn_nI (by omega)]
    rw [e1] at k
    refine ⟨h.1, vp_nI (by omega) (by decide), ?_⟩
    rw [tn_nI (by omega), h.cr.2.2.2.2.1 t ht]
    exact k _ stq h.st gi_si_s
  · rw [if_neg (by decide)]
    have e1 : needsA c x = (-1, 2) := ifD_neg hx (by omega)
    rw [e1] at k
    exact k _ stq h.st gi_si_s
theorem m_needs {σ : Sto} {c : Nat → Nat} {P : Int32 → Sto → Prop} (h : MR σ c) (ok : OK c) {x : Int32} (k : ∀ τ, Eo SM σ τ → gi τ 101 0 = (needsA c x).2 → P (needsA c x).1 τ) : w_X12_needs x σ P := by
  have := ok.n2
  have hs : MR (si (si σ 101 1 0) 101 0 0) c := h.sm sm10
  unfold w_X12_needs
  refine t_isWorkAt hs ok (fun hx => ?_) (fun hx => ?_)
  · rw [if_neg (by decide)]
    obtain ⟨t, ht, rfl⟩ := hx
    have e1 : needsA c (nI t) = (nI (c (52 + t)), 0) := by unfold needsA; rw [ifD_pos ht (by omega), tn_nI (by omega)]
    rw [e1] at k
    rw [show (52 : Int32) = nI 52 from rfl, jI_add]
    refine ⟨vp_nI (by omega) (by decide), ?_⟩
    rw [tn_nI (by omega), hs _ (by omega)]
    exact k _ sm10 gi_si_s
  · rw [if_pos rfl]
    have e1 : needsA c x = (-1, 2) := ifD_neg hx (by omega)
    rw [e1] at k
    exact k _ (sm10.tr sm0) gi_si_s
def hateA (c : Nat → Nat) (x y : Int32) : Int32 × Int32 := if ¬ x < 0 ∧ x < nI (c 3) then (if ¬ y < 0 ∧ y < nI (c 0) then (nI (hateF c (tn x) (tn y)), 0) else (-1, 2)) else (-1, 2)
theorem c_hate {σ : Sto} {c : Nat → Nat} {P : Int32 → Sto → Prop} {N : Nat} (h : KW N σ c) (ok : OK c) {x y : Int32} (k : ∀ τ, Eo SQ σ τ → KW N τ c → gi τ 1 15 = (hateA c x y).2 → P (hateA c x y).1 τ) : w_X11_hate x y σ P := by
  have := ok.n3
  have := ok.n0
  unfold w_X11_hate
  refine t_noVoter h ok (fun hx => ?_) (fun hx => ?_)
  · rw [if_pos rfl]
    obtain ⟨v, hv, rfl⟩ := hx
    refine t_noThing h ok (fun hy => ?_) (fun hy => ?_)
    · rw [if_pos rfl]
      obtain ⟨t, ht, rfl⟩ := hy
      have e1 : hateA c (nI v) (nI t) = (nI (hateF c v t), 0) := by unfold hateA; rw [ifD_pos hv (by omega), ifD_pos ht (by omega), tn_nI (by omega), tn_nI (by omega)]
      rw [e1] at k
      rw [show (12 : Int32) = nI 12 from rfl, jI_mul, jI_add]
      refine ⟨h.1, vp_nI (by omega) (by decide), ?_⟩
      rw [tn_nI (by omega), Nat.mul_comm, h.cr.2.2.2.2.2.1 v hv t ht]
      exact k _ stq h.st gi_si_s
    · rw [if_neg (by decide)]
      have e1 : hateA c (nI v) y = (-1, 2) := by unfold hateA; rw [ifD_pos hv (by omega), ifD_neg hy (by omega)]
      rw [e1] at k
      exact k _ stq h.st gi_si_s
  · rw [if_neg (by decide)]
    have e1 : hateA c x y = (-1, 2) := ifD_neg hx (by omega)
    rw [e1] at k
    exact k _ stq h.st gi_si_s
theorem m_hate {σ : Sto} {c : Nat → Nat} {P : Int32 → Sto → Prop} (h : MR σ c) (ok : OK c) {x y : Int32} (k : ∀ τ, Eo SM σ τ → gi τ 101 0 = (hateA c x y).2 → P (hateA c x y).1 τ) : w_X12_hate x y σ P := by
  have := ok.n3
  have := ok.n0
  have hs : MR (si (si σ 101 1 0) 101 0 0) c := h.sm sm10
  unfold w_X12_hate
  refine t_isVoterAt hs ok (fun hx => ?_) (fun hx => ?_)
  · rw [if_neg (by decide)]
    obtain ⟨v, hv, rfl⟩ := hx
    refine t_isThingAt hs ok (fun hy => ?_) (fun hy => ?_)
    · rw [if_neg (by decide)]
      obtain ⟨t, ht, rfl⟩ := hy
      have e1 : hateA c (nI v) (nI t) = (nI (hateF c v t), 0) := by unfold hateA; rw [ifD_pos hv (by omega), ifD_pos ht (by omega), tn_nI (by omega), tn_nI (by omega)]
      rw [e1] at k
      rw [show (12 : Int32) = nI 12 from rfl, show (58 : Int32) = nI 58 from rfl, jI_mul, jI_add, jI_add]
      refine ⟨vp_nI (by omega) (by decide), ?_⟩
      rw [tn_nI (by omega), hs _ (by omega)]
      exact k _ sm10 gi_si_s
    · rw [if_pos rfl]
      have e1 : hateA c (nI v) y = (-1, 2) := by unfold hateA; rw [ifD_pos hv (by omega), ifD_neg hy (by omega)]
      rw [e1] at k
      exact k _ (sm10.tr sm0) gi_si_s
  · rw [if_pos rfl]
    have e1 : hateA c x y = (-1, 2) := ifD_neg hx (by omega)
    rw [e1] at k
    exact k _ (sm10.tr sm0) gi_si_s
theorem c_ends {σ : Sto} {c : Nat → Nat} {P : Int32 → Sto → Prop} {N : Nat} (h : KW N σ c) (ok : OK c) (hN : N ≤ 2000) {x : Int32} (k : ∀ τ, Eo SQ σ τ → KW N τ c → gi τ 1 15 = (endsA c x).2 → P (endsA c x).1 τ) : w_X11_ends x σ P := by
  have := ok.n2
  unfold w_X11_ends
  refine t_noWork h ok (fun hx => ?_) (fun hx => ?_)
  · rw [if_pos rfl]
    obtain ⟨t, ht, rfl⟩ := hx
    have e1 : endsA c (nI t) = orA (yrF c (c (52 + t)) 100 0) := by unfold endsA; rw [ifD_pos ht (by omega), tn_nI (by omega)]
    rw [e1] at k
    refine ⟨h.1, vp_nI (by omega) (by decide), ?_⟩
    rw [tn_nI (by omega), h.cr.2.2.2.2.1 t ht]
    refine c_years h ok hN (p12 (ok.needs t ht) ok.n0) (fun τ e hw => ?_)
    have := yrF_le (c := c) (want := c (52 + t)) 100 0
    refine t_fineOrNone (by omega) ?_
    exact k _ ((e.mo (fun _ _ => S3q)).tr stq) hw.st gi_si_s
  · rw [if_neg (by decide)]
    have e1 : endsA c x = (-1, 2) := ifD_neg hx (by omega)
    rw [e1] at k
    exact k _ stq h.st gi_si_s
theorem m_ends {σ : Sto} {c : Nat → Nat} {P : Int32 → Sto → Prop} (h : MR σ c) (ok : OK c) {x : Int32} (k : ∀ τ, Eo SM σ τ → gi τ 101 0 = (endsA c x).2 → P (endsA c x).1 τ) : w_X12_ends x σ P := by
  have := ok.n2
  have hs : MR (si (si σ 101 1 0) 101 0 0) c := h.sm sm10
  unfold w_X12_ends
  refine t_isWorkAt hs ok (fun hx => ?_) (fun hx => ?_)
  · rw [if_neg (by decide)]
    obtain ⟨t, ht, rfl⟩ := hx
    have e1 : endsA c (nI t) = orA (yrF c (c (52 + t)) 100 0) := by unfold endsA; rw [ifD_pos ht (by omega), tn_nI (by omega)]
    rw [e1] at k
    rw [show (52 : Int32) = nI 52 from rfl, jI_add]
    refine ⟨vp_nI (by omega) (by decide), ?_⟩
    rw [tn_nI (by omega), hs _ (by omega)]
    refine m_years hs ok (p12 (ok.needs t ht) ok.n0) (fun τ e => ?_)
    have := yrF_le (c := c) (want := c (52 + t)) 100 0
    exact m_or (by omega) e k
  · rw [if_pos rfl]
    have e1 : endsA c x = (-1, 2) := ifD_neg hx (by omega)
    rw [e1] at k
    exact k _ (sm10.tr sm0) gi_si_s
def laterA (c : Nat → Nat) (x : Int32) : Int32 × Int32 := if ¬ x < 0 ∧ x < nI 100 then (nI (upF c (gN c (c 6) (c 7) (tn x))), 0) else (-1, 5)
theorem c_later {σ : Sto} {c : Nat → Nat} {P : Int32 → Sto → Prop} {N : Nat} (h : KW N σ c) (ok : OK c) (hN : N ≤ 2000) {x : Int32} (k : ∀ τ, Eo SQ σ τ → KW N τ c → gi τ 1 15 = (laterA c x).2 → P (laterA c x).1 τ) : w_X11_later x σ P := by
  have := ok.n0
  have hd := inD_iff (x := x) (N := 100) (by decide)
  have out : ¬ inD x 100 → w_X11_later_10 σ P := fun hx => by
    have e1 : laterA c x = (-1, 5) := ifD_neg hx (by decide)
    rw [e1] at k
    exact k _ stq h.st gi_si_s
  unfold w_X11_later
  by_cases h1 : x < 0
  · rw [if_pos h1]; exact out (fun q => (hd.mp q).1 h1)
  · rw [if_neg h1]
    by_cases h2 : x ≤ 99
    · have hx : inD x 100 := hd.mpr ⟨h1, by
        rw [Int32.lt_iff_toInt_lt, jI_toInt (by decide)]
        rw [Int32.le_iff_toInt_le] at h2
        have : (99 : Int32).toInt = 99 := by decide
        omega⟩
      rw [if_pos h2]
      obtain ⟨n, hn, rfl⟩ := hx
      have e1 : laterA c (nI n) = (nI (upF c (gN c (c 6) (c 7) n)), 0) := by unfold laterA; rw [ifD_pos hn (by decide), tn_nI (by omega)]
      rw [e1] at k
      refine ⟨h.1, ?_⟩
      rw [show gi σ (gr σ 1 11) 14 = nI (c 6) from h.f (k := 6) (by decide)]
      rintro x2 rfl
      refine Lp_for n (fun j q => q.1 = nI (gN c (c 6) (c 7) j) ∧ q.2.1 = nI j ∧ Eo S3 σ q.2.2 ∧ KW N q.2.2 c) ⟨rfl, rfl, Eo.rf, h⟩ ?_ ?_
      · rintro j hj K ⟨x2, x3, τ⟩ ⟨r2, r3, e, hw⟩ hK
        dsimp only at r2 r3 e hw hK ⊢
        subst r2 r3
        unfold w_X11_later_26
        rw [if_neg (by rw [jI_le (by omega) (by omega)]; omega)]
        refine ⟨hw.1, ?_⟩
        rw [show gi τ (gr τ 1 11) 15 = nI (c 7) from hw.f (k := 7) (by decide)]
        refine t_goneNext hw.kb ok hN (gN_lt ok.n6 j) (fun φ e3 h3 => ?_)
        rintro x rfl
        exact hK _ ⟨rfl, jI_add, e.tr e3, hw.e3 e3 h3⟩
      · rintro K ⟨x2, x3, τ⟩ ⟨r2, r3, e, hw⟩
        dsimp only at r2 r3 e hw ⊢
        subst r2 r3
        unfold w_X11_later_26
        rw [if_pos (by rw [jI_le (by omega) (by omega)]; exact Nat.le_refl _)]
        refine t_without hw.kb.1 ok hN (p12 (gN_lt ok.n6 n) ok.n0) (fun φ e3 h3 => ?_)
        exact k _ (((e.mo (fun _ _ => S3q)).tr (e3.mo (fun _ _ => S89q))).tr stq) (hw.e89 e3 h3).st gi_si_s
    · rw [if_neg h2]
      refine out (fun q => h2 ?_)
      have := (hd.mp q).2
      rw [Int32.lt_iff_toInt_lt, jI_toInt (by decide)] at this
      rw [Int32.le_iff_toInt_le]
      have : (99 : Int32).toInt = 99 := by decide
      omega
theorem m_later {σ : Sto} {c : Nat → Nat} {P : Int32 → Sto → Prop} (h : MR σ c) (ok : OK c) {x : Int32} (k : ∀ τ, Eo SM σ τ → gi τ 101 0 = (laterA c x).2 → P (laterA c x).1 τ) : w_X12_later x σ P := by
  have := ok.n0
  have hs : MR (si (si σ 101 1 0) 101 0 0) c := h.sm sm10
  unfold w_X12_later
  refine t_isInK (N := 99) (by decide) (by decide) (fun hx => ?_) (fun hx => ?_)
  · rw [if_neg (by decide), hs 6 (by decide)]
    obtain ⟨n, hn, rfl⟩ := hx
    have e1 : laterA c (nI n) = (nI (upF c (gN c (c 6) (c 7) n)), 0) := by unfold laterA; rw [ifD_pos hn (by decide), tn_nI (by omega)]
    rw [e1] at k
    rintro x2 rfl
    refine Lp_for n (fun j q => q.1 = nI (gN c (c 6) (c 7) j) ∧ q.2.1 = nI j ∧ Eo S109 (si (si σ 101 1 0) 101 0 0) q.2.2) ⟨rfl, rfl, Eo.rf⟩ ?_ ?_
    · rintro j hj K ⟨x2, x3, τ⟩ ⟨r2, r3, e⟩ hK
      dsimp only at r2 r3 e hK ⊢
      subst r2 r3
      have hτ : MR τ c := hs.sm (e.mo (fun _ _ => S109m))
      unfold w_X12_later_38
      rw [if_neg (by rw [jI_le (by omega) (by omega)]; omega), hτ 7 (by decide)]
      refine t_after hτ ok (fun φ e3 => ?_)
      rintro x rfl
      exact hK _ ⟨rfl, jI_add, e.tr e3⟩
    · rintro K ⟨x2, x3, τ⟩ ⟨r2, r3, e⟩
      dsimp only at r2 r3 e ⊢
      subst r2 r3
      have hτ : MR τ c := hs.sm (e.mo (fun _ _ => S109m))
      unfold w_X12_later_38
      rw [if_pos (by rw [jI_le (by omega) (by omega)]; exact Nat.le_refl _)]
      refine t_standing hτ ok ?_
      exact k _ (sm109 e) (st109 e)
  · rw [if_pos rfl]
    have e1 : laterA c x = (-1, 5) := ifD_neg hx (by decide)
    rw [e1] at k
    exact k _ (sm10.tr sm0) gi_si_s
