/-! ===== promises 13, 14: many, thing ===== -/
def manyF (c : Nat → Nat) (n : Nat) : Nat := if n < 6 then c n else if n = 6 then nowF c else if n = 7 then c 6 else if n = 8 then sd (sd (allF (c 0)) (nowF c)) (c 6) else if n = 9 then c 7 else if n = 10 then doneF c (nowF c) else worthF c (nowF c)
def manyA (c : Nat → Nat) (x : Int32) : Int32 × Int32 := if ¬ x < 0 ∧ x < nI 12 then (nI (manyF c (tn x)), 0) else (-1, 5)
theorem c_many {σ : Sto} {c : Nat → Nat} {P : Int32 → Sto → Prop} {N : Nat} (h : KW N σ c) (ok : OK c) (hN : N ≤ 2000) {x : Int32} (k : ∀ τ, Eo SQ σ τ → KW N τ c → gi τ 1 15 = (manyA c x).2 → P (manyA c x).1 τ) : w_X11_many x σ P := by
  have := ok.n0
  unfold w_X11_many
  refine t_atPresent h.kb.1 ok hN (fun τ e h1 => ?_)
  have hw := h.e89 e h1
  have e' : Eo SQ σ τ := e.mo (fun _ _ => S89q)
  refine ⟨hw.1, ?_⟩
  have f0 : gi τ (gr τ 1 11) 8 = nI (c 0) := hw.f (k := 0) (by decide)
  have f1 : gi τ (gr τ 1 11) 9 = nI (c 1) := hw.f (k := 1) (by decide)
  have f2 : gi τ (gr τ 1 11) 10 = nI (c 2) := hw.f (k := 2) (by decide)
  have f3 : gi τ (gr τ 1 11) 11 = nI (c 3) := hw.f (k := 3) (by decide)
  have f4 : gi τ (gr τ 1 11) 12 = nI (c 4) := hw.f (k := 4) (by decide)
  have f5 : gi τ (gr τ 1 11) 13 = nI (c 5) := hw.f (k := 5) (by decide)
  have f6 : gi τ (gr τ 1 11) 14 = nI (c 6) := hw.f (k := 6) (by decide)
  have f7 : gi τ (gr τ 1 11) 15 = nI (c 7) := hw.f (k := 7) (by decide)
  have eall : (1 : Int32) <<< (nI (c 0) &&& 31) - 1 = nI (allF (c 0)) := by
    rw [jI_31 (by omega), show (1 : Int32) = nI 1 from rfl, jI_shl (by omega), Nat.one_shiftLeft, jI_allF]
    rfl
  rw [f0, f1, f2, f3, f4, f5, f6, f7, eall]
  intro x3 h3
  rw [h3]
  clear h3 x3
  intro sw hsw
  rw [hsw]
  clear hsw sw
  rw [jI_andn, jI_andn]
  by_cases hx : inD x 12
  · obtain ⟨n, hn, rfl⟩ := hx
    have e1 : manyA c (nI n) = (nI (manyF c n), 0) := by unfold manyA; rw [ifD_pos hn (by decide), tn_nI (by omega)]
    rw [e1] at k
    match n, hn with
    | 0, _ => rw [if_pos (by decide)]; exact k _ (e'.tr stq) hw.st gi_si_s
    | 1, _ => rw [if_neg (by decide), if_pos (by decide)]; exact k _ (e'.tr stq) hw.st gi_si_s
    | 2, _ => rw [if_neg (by decide), if_neg (by decide), if_pos (by decide)]; exact k _ (e'.tr stq) hw.st gi_si_s
    | 3, _ => rw [if_neg (by decide), if_neg (by decide), if_neg (by decide), if_pos (by decide)]; exact k _ (e'.tr stq) hw.st gi_si_s
    | 4, _ => rw [if_neg (by decide), if_neg (by decide), if_neg (by decide), if_neg (by decide), if_pos (by decide)]; exact k _ (e'.tr stq) hw.st gi_si_s
    | 5, _ => rw [if_neg (by decide), if_neg (by decide), if_neg (by decide), if_neg (by decide), if_neg (by decide), if_pos (by decide)]; exact k _ (e'.tr stq) hw.st gi_si_s
    | 6, _ => rw [if_neg (by decide), if_neg (by decide), if_neg (by decide), if_neg (by decide), if_neg (by decide), if_neg (by decide), if_pos (by decide)]; exact k _ (e'.tr stq) hw.st gi_si_s
    | 7, _ => rw [if_neg (by decide), if_neg (by decide), if_neg (by decide), if_neg (by decide), if_neg (by decide), if_neg (by decide), if_neg (by decide), if_pos (by decide)]; exact k _ (e'.tr stq) hw.st gi_si_s
    | 8, _ => rw [if_neg (by decide), if_neg (by decide), if_neg (by decide), if_neg (by decide), if_neg (by decide), if_neg (by decide), if_neg (by decide), if_neg (by decide), if_pos (by decide)]; exact k _ (e'.tr stq) hw.st gi_si_s
    | 9, _ => rw [if_neg (by decide), if_neg (by decide), if_neg (by decide), if_neg (by decide), if_neg (by decide), if_neg (by decide), if_neg (by decide), if_neg (by decide), if_neg (by decide), if_pos (by decide)]; exact k _ (e'.tr stq) hw.st gi_si_s
    | 10, _ =>
      rw [if_neg (by decide), if_neg (by decide), if_neg (by decide), if_neg (by decide), if_neg (by decide), if_neg (by decide), if_neg (by decide), if_neg (by decide), if_neg (by decide), if_neg (by decide), if_pos (by decide)]
      refine t_doable h1.1 h1.2.1 ok ?_
      exact k _ (e'.tr stq) hw.st gi_si_s
    | 11, _ =>
      rw [if_neg (by decide), if_neg (by decide), if_neg (by decide), if_neg (by decide), if_neg (by decide), if_neg (by decide), if_neg (by decide), if_neg (by decide), if_neg (by decide), if_neg (by decide), if_neg (by decide), if_pos (by decide)]
      refine t_worthOfC hw.1 hw.cr ok ?_
      exact k _ (e'.tr stq) hw.st gi_si_s
  · have e1 : manyA c x = (-1, 5) := ifD_neg hx (by decide)
    rw [e1] at k
    rw [if_neg (fun q : x = 0 => hx ⟨0, by decide, q⟩), if_neg (fun q : x = 1 => hx ⟨1, by decide, q⟩), if_neg (fun q : x = 2 => hx ⟨2, by decide, q⟩), if_neg (fun q : x = 3 => hx ⟨3, by decide, q⟩), if_neg (fun q : x = 4 => hx ⟨4, by decide, q⟩), if_neg (fun q : x = 5 => hx ⟨5, by decide, q⟩), if_neg (fun q : x = 6 => hx ⟨6, by decide, q⟩), if_neg (fun q : x = 7 => hx ⟨7, by decide, q⟩), if_neg (fun q : x = 8 => hx ⟨8, by decide, q⟩), if_neg (fun q : x = 9 => hx ⟨9, by decide, q⟩), if_neg (fun q : x = 10 => hx ⟨10, by decide, q⟩), if_neg (fun q : x = 11 => hx ⟨11, by decide, q⟩)]
    exact k _ (e'.tr stq) hw.st gi_si_s
theorem m_many {σ : Sto} {c : Nat → Nat} {P : Int32 → Sto → Prop} (h : MR σ c) (ok : OK c) {x : Int32} (k : ∀ τ, Eo SM σ τ → gi τ 101 0 = (manyA c x).2 → P (manyA c x).1 τ) : w_X12_many x σ P := by
  have := ok.n0
  have hs : MR (si (si σ 101 1 0) 101 0 0) c := h.sm sm10
  unfold w_X12_many
  refine t_isInK (N := 11) (by decide) (by decide) (fun hx => ?_) (fun hx => ?_)
  · rw [if_neg (by decide)]
    obtain ⟨n, hn, rfl⟩ := hx
    have e1 : manyA c (nI n) = (nI (manyF c n), 0) := by unfold manyA; rw [ifD_pos hn (by decide), tn_nI (by omega)]
    rw [e1] at k
    have k' := k (si (si σ 101 1 0) 101 0 0) sm10 gi_si_s
    by_cases h6 : 6 ≤ n
    · rw [if_pos (by rw [show (6 : Int32) = nI 6 from rfl, jI_le (by decide) (by omega)]; exact h6)]
      refine t_now hs ok ?_
      rw [hs 6 (by decide), hs 7 (by decide)]
      match n, hn, h6 with
      | 6, _, _ => rw [if_pos (by decide)]; exact k'
      | 7, _, _ => rw [if_neg (by decide), if_pos (by decide)]; exact k'
      | 8, _, _ =>
        rw [if_neg (by decide), if_neg (by decide), if_pos (by decide), t_allThings hs ok, hs 6 (by decide), jI_andn, jI_andn]
        exact k'
      | 9, _, _ => rw [if_neg (by decide), if_neg (by decide), if_neg (by decide), if_pos (by decide)]; exact k'
      | 10, _, _ =>
        rw [if_neg (by decide), if_neg (by decide), if_neg (by decide), if_neg (by decide), if_pos (by decide)]
        exact t_doneBy hs ok k'
      | 11, _, _ =>
        rw [if_neg (by decide), if_neg (by decide), if_neg (by decide), if_neg (by decide), if_neg (by decide)]
        exact t_worthOf hs ok k'
    · rw [if_neg (by rw [show (6 : Int32) = nI 6 from rfl, jI_le (by decide) (by omega)]; exact h6)]
      refine ⟨vp_nI (by omega) (by decide), ?_⟩
      rw [tn_nI (by omega), hs n (by omega)]
      have e2 : manyF c n = c n := if_pos (by omega)
      rw [e2] at k'
      exact k'
  · rw [if_pos rfl]
    have e1 : manyA c x = (-1, 5) := ifD_neg hx (by decide)
    rw [e1] at k
    exact k _ (sm10.tr sm0) gi_si_s
def makingsF (c : Nat → Nat) (t : Nat) : Nat := foldN (fun s m => if c (20 + m) = t then s ||| 2 ^ m else s) 0 (c 1)
theorem t_makingsOf {σ : Sto} {a : Nat} {c : Nat → Nat} {P : Int32 → Sto → Prop} (hc : isCity a) (h : CR σ a c) (ok : OK c) {t : Nat} (ht : t < c 0) (k : P (nI (makingsF c t)) σ) : w_X1_makingsOf a (nI t) σ P := by
  have := ok.n0
  have := ok.n1
  have h9 : gi σ a 9 = nI (c 1) := h.1 1 (by decide)
  have hm := h.2.2.1
  refine Lp_det (c 1) (fun j => (nI (foldN (fun s m => if c (20 + m) = t then s ||| 2 ^ m else s) 0 j), nI j, σ)) rfl (fun j hj K hK => ?_) (fun K => ?_)
  · have hn : ¬ c 1 ≤ j := by omega
    have hmd := ok.made j hj
    dsimp only
    unfold w_X1_makingsOf_4
    refine ⟨hc, ?_⟩
    rw [h9]
    simp (disch := omega) only [hm j hj, N0, N1, N2, N3, N4, N5, N6, N7, N8, N9, N10, N11, N12, N13, N14, N15, N16, N17, N18, N19, N20, N21, N22, N23, N24, N25, N26, N27, N28, N29, N30, N32, N33, N34, N35, N36, N37, N38, N39, N40, N41, N42, N43, N44, N45, N46, N47, N48, N49, N50, N51, N52, N53, N54, N55, N56, N57, N58, N59, N60, N61, N62, N63, N64, N90, N96, N97, N98, N99, N100, N102, N103, N104, N107, N108, N109, N110, N111, N112, N114, N115, N116, N117, N118, N119, N120, N121, N122, N130, N138, N141, N142, N143, N144, N156, N240, N255, N256, N300, N400, N420, N421, N600, N900, N999, N1000, N1684, N2104, N2105, N2971, N4095, N4096, N9999, N10000, N10663, N65536, jI_add, jI_mul, jI_and, jI_or, jI_xor, jI_andn, jI_31, jI_shl, Nat.one_shiftLeft, jI_le, jI_lt, jI_eq, tn_nI, tc_nI, vp_nI, jI_allF, jI_bit, jI_bit0, jI_noneN, bI_N0, bI_N1, forall_eq, true_and, ↓reduceIte, hn]
    simp only [foldN] at hK
    by_cases hd : c (20 + j) = t <;> simp only [hd, ↓reduceIte] at hK ⊢
    · exact hK
    · exact hK
  · dsimp only
    unfold w_X1_makingsOf_4
    refine ⟨hc, ?_⟩
    rw [h9]
    simp (disch := omega) only [jI_le, Nat.le_refl, ↓reduceIte]
    exact k
def thingF (c : Nat → Nat) (t n : Nat) : Nat := if n = 0 then c (8 + t) else if n = 1 then ((nowF c).testBit t).toNat else if n = 2 then makingsF c t else c (130 + t)
def thingA (c : Nat → Nat) (x y : Int32) : Int32 × Int32 := if ¬ x < 0 ∧ x < nI (c 0) then (if ¬ y < 0 ∧ y < nI 4 then (nI (thingF c (tn x) (tn y)), 0) else (-1, 5)) else (-1, 2)
theorem c_thing {σ : Sto} {c : Nat → Nat} {P : Int32 → Sto → Prop} {N : Nat} (h : KW N σ c) (ok : OK c) (hN : N ≤ 2000) {x y : Int32} (k : ∀ τ, Eo SQ σ τ → KW N τ c → gi τ 1 15 = (thingA c x y).2 → P (thingA c x y).1 τ) : w_X11_thing x y σ P := by
  have := ok.n0
  unfold w_X11_thing
  refine t_noThing h ok (fun hx => ?_) (fun hx => ?_)
  · rw [if_pos rfl]
    obtain ⟨t, ht, rfl⟩ := hx
    intro sw hsw
    rw [hsw]
    clear hsw sw
    by_cases hy : inD y 4
    · obtain ⟨n, hn, rfl⟩ := hy
      have e1 : thingA c (nI t) (nI n) = (nI (thingF c t n), 0) := by unfold thingA; rw [ifD_pos ht (by omega), ifD_pos hn (by decide), tn_nI (by omega), tn_nI (by omega)]
      rw [e1] at k
      match n, hn with
      | 0, _ =>
        rw [if_pos (by decide)]
        refine ⟨h.1, vp_nI (by omega) (by decide), ?_⟩
        rw [tn_nI (by omega), h.cr.2.1 t ht]
        exact k _ stq h.st gi_si_s
      | 1, _ =>
        rw [if_neg (by decide), if_pos (by decide)]
        refine t_atPresent h.kb.1 ok hN (fun τ e h1 => ?_)
        rw [jI_31 (by omega), show (1 : Int32) = nI 1 from rfl, jI_bitx (by omega), bI_i]
        exact k _ ((e.mo (fun _ _ => S89q)).tr stq) (h.e89 e h1).st gi_si_s
      | 2, _ =>
        rw [if_neg (by decide), if_neg (by decide), if_pos (by decide)]
        refine ⟨h.1, t_makingsOf h.1 h.cr ok ht ?_⟩
        exact k _ stq h.st gi_si_s
      | 3, _ =>
        rw [if_neg (by decide), if_neg (by decide), if_neg (by decide), if_pos (by decide)]
        refine ⟨h.1, vp_nI (by omega) (by decide), ?_⟩
        rw [tn_nI (by omega), h.cr.2.2.2.2.2.2 t ht]
        exact k _ stq h.st gi_si_s
    · have e1 : thingA c (nI t) y = (-1, 5) := by unfold thingA; rw [ifD_pos ht (by omega), ifD_neg hy (by decide)]
      rw [e1] at k
      rw [if_neg (fun q : y = 0 => hy ⟨0, by decide, q⟩), if_neg (fun q : y = 1 => hy ⟨1, by decide, q⟩), if_neg (fun q : y = 2 => hy ⟨2, by decide, q⟩), if_neg (fun q : y = 3 => hy ⟨3, by decide, q⟩)]
      exact k _ stq h.st gi_si_s
  · rw [if_neg (by decide)]
    have e1 : thingA c x y = (-1, 2) := ifD_neg hx (by omega)
    rw [e1] at k
    exact k _ stq h.st gi_si_s
theorem m_thing {σ : Sto} {c : Nat → Nat} {P : Int32 → Sto → Prop} (h : MR σ c) (ok : OK c) {x y : Int32} (k : ∀ τ, Eo SM σ τ → gi τ 101 0 = (thingA c x y).2 → P (thingA c x y).1 τ) : w_X12_thing x y σ P := by
  have := ok.n0
  have := ok.n1
  have hs : MR (si (si σ 101 1 0) 101 0 0) c := h.sm sm10
  unfold w_X12_thing
  refine t_isThingAt hs ok (fun hx => ?_) (fun hx => ?_)
  · rw [if_neg (by decide)]
    obtain ⟨t, ht, rfl⟩ := hx
    refine t_isInK (N := 3) (by decide) (by decide) (fun hy => ?_) (fun hy => ?_)
    · rw [if_neg (by decide)]
      obtain ⟨n, hn, rfl⟩ := hy
      have e1 : thingA c (nI t) (nI n) = (nI (thingF c t n), 0) := by unfold thingA; rw [ifD_pos ht (by omega), ifD_pos hn (by decide), tn_nI (by omega), tn_nI (by omega)]
      rw [e1] at k
      have k' := k (si (si σ 101 1 0) 101 0 0) sm10 gi_si_s
      match n, hn with
      | 0, _ =>
        rw [if_pos (by decide), show (8 : Int32) = nI 8 from rfl, jI_add]
        refine ⟨vp_nI (by omega) (by decide), ?_⟩
        rw [tn_nI (by omega), hs _ (by omega)]
        exact k'
      | 1, _ =>
        rw [if_neg (by decide), if_pos (by decide)]
        refine t_now hs ok ?_
        rw [t_has (by omega)]
        have e2 : thingF c t 1 = ((nowF c).testBit t).toNat := rfl
        rw [e2] at k'
        cases hb : (nowF c).testBit t <;> rw [hb] at k'
        · rw [if_pos (by decide)]; exact k'
        · rw [if_neg (by decide)]; exact k'
      | 2, _ =>
        rw [if_neg (by decide), if_neg (by decide), if_neg (by decide)]
        clear k
        generalize si (si σ 101 1 0) 101 0 0 = τ at hs k' ⊢
        refine Lp_det (c 1) (fun j => (nI (foldN (fun s m => if c (20 + m) = t then s ||| 2 ^ m else s) 0 j), nI j, τ)) rfl (fun j hj K hK => ?_) (fun K => ?_)
        · have hn2 : ¬ c 1 ≤ j := by omega
          have hmd := ok.made j hj
          simp (disch := omega) only [w_X12_thing_99, hs _, N0, N1, N2, N3, N4, N5, N6, N7, N8, N9, N10, N11, N12, N13, N14, N15, N16, N17, N18, N19, N20, N21, N22, N23, N24, N25, N26, N27, N28, N29, N30, N32, N33, N34, N35, N36, N37, N38, N39, N40, N41, N42, N43, N44, N45, N46, N47, N48, N49, N50, N51, N52, N53, N54, N55, N56, N57, N58, N59, N60, N61, N62, N63, N64, N90, N96, N97, N98, N99, N100, N102, N103, N104, N107, N108, N109, N110, N111, N112, N114, N115, N116, N117, N118, N119, N120, N121, N122, N130, N138, N141, N142, N143, N144, N156, N240, N255, N256, N300, N400, N420, N421, N600, N900, N999, N1000, N1684, N2104, N2105, N2971, N4095, N4096, N9999, N10000, N10663, N65536, jI_add, jI_mul, jI_and, jI_or, jI_xor, jI_andn, jI_31, jI_shl, Nat.one_shiftLeft, jI_le, jI_lt, jI_eq, tn_nI, tc_nI, vp_nI, jI_allF, jI_bit, jI_bit0, jI_noneN, bI_N0, bI_N1, forall_eq, true_and, ↓reduceIte, hn2]
          simp only [foldN] at hK
          by_cases hd : c (20 + j) = t <;> simp only [hd, ↓reduceIte] at hK ⊢
          · exact hK
          · simpa using hK
        · simp (disch := omega) only [w_X12_thing_99, hs _, N0, N1, N2, N3, N4, N5, N6, N7, N8, N9, N10, N11, N12, N13, N14, N15, N16, N17, N18, N19, N20, N21, N22, N23, N24, N25, N26, N27, N28, N29, N30, N32, N33, N34, N35, N36, N37, N38, N39, N40, N41, N42, N43, N44, N45, N46, N47, N48, N49, N50, N51, N52, N53, N54, N55, N56, N57, N58, N59, N60, N61, N62, N63, N64, N90, N96, N97, N98, N99, N100, N102, N103, N104, N107, N108, N109, N110, N111, N112, N114, N115, N116, N117, N118, N119, N120, N121, N122, N130, N138, N141, N142, N143, N144, N156, N240, N255, N256, N300, N400, N420, N421, N600, N900, N999, N1000, N1684, N2104, N2105, N2971, N4095, N4096, N9999, N10000, N10663, N65536, jI_add, jI_mul, jI_and, jI_or, jI_xor, jI_andn, jI_31, jI_shl, Nat.one_shiftLeft, jI_le, jI_lt, jI_eq, tn_nI, tc_nI, vp_nI, jI_allF, jI_bit, jI_bit0, jI_noneN, bI_N0, bI_N1, forall_eq, true_and, ↓reduceIte, Nat.le_refl]
          exact k'
      | 3, _ =>
        rw [if_neg (by decide), if_neg (by decide), if_pos (by decide), show (130 : Int32) = nI 130 from rfl, jI_add]
        refine ⟨vp_nI (by omega) (by decide), ?_⟩
        rw [tn_nI (by omega), hs _ (by omega)]
        exact k'
    · rw [if_pos rfl]
      have e1 : thingA c (nI t) y = (-1, 5) := by unfold thingA; rw [ifD_pos ht (by omega), ifD_neg hy (by decide)]
      rw [e1] at k
      exact k _ (sm10.tr sm0) gi_si_s
  · rw [if_pos rfl]
    have e1 : thingA c x y = (-1, 2) := ifD_neg hx (by omega)
    rw [e1] at k
    exact k _ (sm10.tr sm0) gi_si_s
