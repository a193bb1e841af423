/-! ===== promises 35 to 38: the class's least sets ===== -/
theorem c_endsBy {σ : Sto} {c : Nat → Nat} {P : Int32 → Sto → Prop} {N : Nat} (h : KW N σ c) (ok : OK c) (hN : N ≤ 2000) {want e : Nat} (hwl : want < 4096) (he : e < 2 ^ c 0) (k : ∀ τ, Eo SQ σ τ → KW N τ c → P (bI (decide (sd want (upF c (c 6 ||| e)) ≠ 0))) τ) : w_X5_endsBy (nI want) (nI e) σ P := by
  unfold w_X5_endsBy
  refine ⟨h.p93.1, ?_⟩
  rw [show gi σ (gr σ 93 5) 14 = nI (c 6) from h.p93.2.1 6 (by decide), jI_or]
  refine t_without h.kb.1 ok hN (p12 (or_lt ok.n6 he) ok.n0) (fun τ e1 h1 => ?_)
  have hk := k τ (e1.mo (fun _ _ => S89q)) (h.e89 e1 h1)
  have hs := sd_12' (b := upF c (c 6 ||| e)) hwl
  rw [jI_andn, N0]
  by_cases hd : sd want (upF c (c 6 ||| e)) = 0
  · rw [hd] at hk
    rw [if_pos (by rw [hd])]
    exact hk
  · rw [decide_eq_true hd] at hk
    rw [if_neg (by rw [jI_eq (by omega) (by decide)]; exact hd)]
    exact hk
theorem ktF_no {c : Nat → Nat} {want x g : Nat} (h : sd want (upF c g) ≠ 0) : ∀ n, ktF c want x n g = false
  | 0 => decide_eq_false h
  | n + 1 => by
    show (decide _ && _) = false
    rw [decide_eq_false h]
    rfl
theorem c_keeps {σ : Sto} {c : Nat → Nat} {P : Int32 → Sto → Prop} {N : Nat} (h : KW N σ c) (ok : OK c) (hN : N ≤ 2000) {want e years : Nat} (hwl : want < 4096) (hy : years ≤ 12) (k : ∀ τ, Eo SQ σ τ → KW N τ c → P (bI (ktF c want (c 7 ||| e) years (c 6))) τ) : w_X5_keeps (nI want) (nI e) (nI years) σ P := by
  have := ok.n0
  unfold w_X5_keeps
  refine ⟨h.p93.1, ?_⟩
  rw [show gi σ (gr σ 93 5) 14 = nI (c 6) from h.p93.2.1 6 (by decide)]
  rintro x4 rfl
  refine Lp_for (years + 1) (fun j q => (∃ g, q.1 = nI g ∧ g < 2 ^ c 0 ∧ ((j ≤ years ∧ ktF c want (c 7 ||| e) (years - j) g = ktF c want (c 7 ||| e) years (c 6)) ∨ (j = years + 1 ∧ ktF c want (c 7 ||| e) years (c 6) = true))) ∧ q.2.1 = nI j ∧ Eo SQ σ q.2.2 ∧ KW N q.2.2 c) ⟨⟨c 6, rfl, ok.n6, Or.inl ⟨Nat.zero_le _, by rw [Nat.sub_zero]⟩⟩, rfl, Eo.rf, h⟩ ?_ ?_
  · rintro j hj K ⟨x4, x5, τ⟩ ⟨⟨g, r4, hg, hkt⟩, r5, e1, hw⟩ hK
    dsimp only at r4 r5 e1 hw hK ⊢
    subst r4 r5
    have hkt2 : ktF c want (c 7 ||| e) (years - j) g = ktF c want (c 7 ||| e) years (c 6) := by
      rcases hkt with q | q
      · exact q.2
      · omega
    have hs := sd_12' (b := upF c g) hwl
    unfold w_X5_keeps_12
    rw [if_neg (by rw [jI_lt (by omega) (by omega)]; omega)]
    refine t_without hw.kb.1 ok hN (p12 hg ok.n0) (fun υ e2 h2 => ?_)
    have hw2 := hw.e89 e2 h2
    rw [jI_andn, N0, N1]
    by_cases hd : sd want (upF c g) = 0
    · rw [if_pos (by rw [hd])]
      refine ⟨hw2.p93.1, ?_⟩
      rw [show gi υ (gr υ 93 5) 15 = nI (c 7) from hw2.p93.2.1 7 (by decide), jI_or]
      refine t_goneNext hw2.kb ok hN hg (fun φ e3 h3 => ?_)
      have hw3 := hw2.e3 e3 h3
      have hgl := p12 hg ok.n0
      have hnl := p12 (nextF_lt (x := c 7 ||| e) hg) ok.n0
      have e4 : Eo SQ σ φ := (e1.tr (e2.mo (fun _ _ => S89q))).tr (e3.mo (fun _ _ => S3q))
      by_cases hc : nextF c g (c 7 ||| e) = g
      · rw [if_pos (by rw [hc])]
        have h4 := ktF_const (want := want) hc hd (years - j)
        rw [hkt2] at h4
        have hk := k φ e4 hw3
        rw [h4] at hk
        exact hk
      · rw [if_neg (by rw [jI_eq (by omega) (by omega)]; exact hc), jI_add]
        rintro x rfl
        refine hK _ ⟨⟨_, rfl, nextF_lt hg, ?_⟩, rfl, e4, hw3⟩
        by_cases hjy : j = years
        · refine Or.inr ⟨by omega, ?_⟩
          rw [hjy, Nat.sub_self] at hkt2
          rw [← hkt2]
          exact decide_eq_true hd
        · refine Or.inl ⟨by omega, ?_⟩
          rw [← hkt2, show years - j = years - (j + 1) + 1 by omega]
          show _ = (decide _ && _)
          rw [decide_eq_true hd]
          rfl
    · rw [if_neg (by rw [jI_eq (by omega) (by decide)]; exact hd)]
      have h4 := ktF_no (want := want) (x := c 7 ||| e) hd (years - j)
      rw [hkt2] at h4
      have hk := k υ (e1.tr (e2.mo (fun _ _ => S89q))) hw2
      rw [h4] at hk
      exact hk
  · rintro K ⟨x4, x5, τ⟩ ⟨⟨g, r4, hg, hkt⟩, r5, e1, hw⟩
    dsimp only at r4 r5 e1 hw ⊢
    subst r4 r5
    unfold w_X5_keeps_12
    rw [if_pos (by rw [jI_lt (by omega) (by omega)]; omega)]
    have hk := k τ e1 hw
    rcases hkt with q | q
    · omega
    · rw [q.2] at hk
      exact hk
theorem c_least {σ : Sto} {c : Nat → Nat} {P : Int32 → Sto → Prop} {N : Nat} (h : KW N σ c) (ok : OK c) {f : Nat} (hf : f < 2 ^ c 0) {T : Nat → Bool} {x1 x3 : Int32}
    (H : ∀ (e : Nat) (τ : Sto) (A B : Sto → Prop), sub e f → KW N τ c → (∀ υ, Eo SQ τ υ → KW N υ c → T e = false → A υ) → (∀ υ, Eo SQ τ υ → KW N υ c → T e = true → B υ) → (if x3 = -1 then w_X5_endsBy x1 (nI e) τ (fun r s => if r = 0 then A s else B s) else w_X5_keeps x1 (nI e) x3 τ (fun r s => if r = 0 then A s else B s)))
    (k : ∀ r τ, Eo SQ σ τ → KW N τ c → isLst f T r → P (oI r) τ) : w_X5_least x1 (nI f) x3 σ P := by
  have := ok.n0
  have hf12 := p12 hf ok.n0
  have hcf := card_le (a := f)
  have hp : 2 ^ card f ≤ 4096 := by
    have : (4096 : Nat) = 2 ^ 12 := by decide
    rw [this]; exact Nat.pow_le_pow_right (by decide) hcf
  unfold w_X5_least
  rw [t_bitCount12 hf12]
  refine Lp_for (card f + 1) (fun j q => q.1 = nI j ∧ Eo SQ σ q.2 ∧ KW N q.2 c ∧ ∀ s, sub s f → card s < j → T s = false) ⟨rfl, Eo.rf, h, fun s _ q => absurd q (Nat.not_lt_zero _)⟩ ?_ ?_
  · rintro j hj K ⟨x5, τ⟩ ⟨r5, e1, hw, hlo⟩ hK
    dsimp only at r5 e1 hw hlo hK ⊢
    subst r5
    unfold w_X5_least_9
    rw [if_neg (by rw [jI_lt (by omega) (by omega)]; omega)]
    refine Lp_for (2 ^ card f) (fun m q => ∃ e, q.1 = nI e ∧ sub e f ∧ q.2.1 = nI m ∧ Eo SQ σ q.2.2 ∧ KW N q.2.2 c ∧ ((rkF f e 12 = m ∧ ∀ s, sub s f → s < e → ¬ (card s = j ∧ T s = true)) ∨ ∀ s, sub s f → ¬ (card s = j ∧ T s = true))) ⟨0, rfl, fun k hk => by simp at hk, rfl, e1, hw, Or.inl ⟨rk_zero 12 (fun i _ => Nat.zero_testBit i), fun s _ q => absurd q (Nat.not_lt_zero _)⟩⟩ ?_ ?_
    · rintro m hm K2 ⟨x6, x7, υ⟩ ⟨e, r6, hsub, r7, e2, hw2, hph⟩ hK2
      dsimp only at r6 r7 e2 hw2 hK2 ⊢
      subst r6 r7
      have he := sub_le hsub
      have hce := card_le (a := e)
      have go : ∀ φ, Eo SQ σ φ → KW N φ c → ¬ (card e = j ∧ T e = true) → w_X5_least_73 K K2 x1 (nI f) x3 (nI (card f)) (nI j) (nI e) (nI m) φ P := fun φ e3 hw3 hbad => by
        unfold w_X5_least_73 w_X5_nextWithin
        rw [jI_nx, N1, jI_add]
        rintro x rfl
        refine hK2 _ ⟨nxN f e, rfl, nx_sub hsub hf12, rfl, e3, hw3, ?_⟩
        rcases hph with ⟨p1, p2⟩ | p
        · by_cases hef : e = f
          · refine Or.inr (fun s hs => ?_)
            have := sub_le hs
            by_cases hse : s = e
            · rw [hse]; exact hbad
            · exact p2 s hs (by omega)
          · refine Or.inl ⟨by rw [rk_next hsub hf12 hef, p1], fun s hs hlt => ?_⟩
            by_cases hse : s = e
            · rw [hse]; exact hbad
            · by_cases hsl : s < e
              · exact p2 s hs hsl
              · have := nx_next hsub hf12 hef hs (by omega)
                omega
        · exact Or.inr p
      unfold w_X5_least_22
      rw [bit1 (by omega), if_neg (by rw [jI_le (by omega) (by omega)]; omega), t_bitCount12 (by omega)]
      by_cases hcj : card e = j
      · rw [if_pos (by rw [hcj])]
        refine H e υ _ _ hsub hw2 (fun φ e3 hw3 ht => go φ (e2.tr e3) hw3 (fun q => by rw [ht] at q; cases q.2)) (fun φ e3 hw3 ht => ?_)
        rcases hph with ⟨p1, p2⟩ | p
        · refine k (e + 1) φ (e2.tr e3) hw3 (Or.inr ⟨e, rfl, hsub, ht, fun s' hs' ht' => ?_⟩)
          have h1 : ¬ card s' < j := fun q => by rw [hlo s' hs' q] at ht'; cases ht'
          by_cases h2 : card s' = j
          · have h3 : ¬ s' < e := fun q => p2 s' hs' q ⟨h2, ht'⟩
            omega
          · omega
        · exact absurd ⟨hcj, ht⟩ (p e hsub)
      · rw [if_neg (by rw [jI_eq (by omega) (by omega)]; exact hcj)]
        exact go υ e2 hw2 (fun q => hcj q.1)
    · rintro K2 ⟨x6, x7, υ⟩ ⟨e, r6, hsub, r7, e2, hw2, hph⟩
      dsimp only at r6 r7 e2 hw2 ⊢
      subst r6 r7
      unfold w_X5_least_22
      rw [bit1 (by omega), if_pos (by rw [jI_le (by omega) (by omega)]; exact Nat.le_refl _), N1, jI_add]
      rintro x rfl
      refine hK _ ⟨rfl, e2, hw2, fun s hs hcs => ?_⟩
      by_cases hlt : card s < j
      · exact hlo s hs hlt
      · rcases hph with ⟨p1, p2⟩ | p
        · have := rk_lt (f := f) (e := e)
          omega
        · cases ht : T s with
          | false => rfl
          | true => exact absurd ⟨by omega, ht⟩ (p s hs)
  · rintro K ⟨x5, τ⟩ ⟨r5, e1, hw, hlo⟩
    dsimp only at r5 e1 hw hlo ⊢
    subst r5
    unfold w_X5_least_9
    rw [if_pos (by rw [jI_lt (by omega) (by omega)]; omega)]
    exact k 0 τ e1 hw (Or.inl ⟨rfl, fun s hs => hlo s hs (by have := card_mono hs; omega)⟩)
def freeF (c : Nat → Nat) : Nat := sd (allF (c 0)) (c 7)
theorem all_lt {c : Nat → Nat} : allF (c 0) < 2 ^ c 0 := by
  have := Nat.two_pow_pos (c 0)
  show 2 ^ c 0 - 1 < _
  omega
theorem freeF_lt {c : Nat → Nat} : freeF c < 2 ^ c 0 := sub_lt sub_sd all_lt
theorem open_free {c : Nat → Nat} (ok : OK c) : sub (openF c) (freeF c) := fun k hk => by
  unfold openF at hk
  unfold freeF
  rw [sd_bit, Bool.and_eq_true] at hk ⊢
  exact ⟨by rw [allF_bit]; exact decide_eq_true (bit_n (upF_lt ok) hk.1), hk.2⟩
theorem from_open {c : Nat → Nat} : sub (fromF c) (openF c) := fun k hk => by
  unfold fromF at hk
  rw [from_bitn] at hk
  simp only [Bool.and_eq_true] at hk
  exact hk.1.2
theorem fromF_lt {c : Nat → Nat} (ok : OK c) : fromF c < 2 ^ c 0 := sub_lt from_open (openF_lt ok)
def keepF (c : Nat → Nat) (want years : Nat) : Nat := lsF (freeF c) (fun s => ktF c want (c 7 ||| s) years (c 6))
def strikeF (c : Nat → Nat) (want : Nat) : Nat := lsF (freeF c) (fun s => decide (sd want (upF c (c 6 ||| s)) ≠ 0))
theorem keepF_of {c : Nat → Nat} (ok : OK c) {want years r : Nat} (h : isLst (fromF c) (fun s => ktF c want (c 7 ||| s) years (c 6)) r) : r = keepF c want years :=
  (h.wide (p12 freeF_lt ok.n0) (from_open.tr (open_free ok)) (fun s _ ht => by
    show ktF c want (c 7 ||| (s &&& fromF c)) years (c 6) = true
    rw [← ktF_from ok]; exact ht)).uniq lsF_lst
theorem and_open {c : Nat → Nat} (ok : OK c) {s : Nat} (hs : sub s (freeF c)) : s &&& openF c = s &&& nowF c := Nat.eq_of_testBit_eq (fun k => by
  rw [Nat.testBit_and, Nat.testBit_and]
  cases h : s.testBit k with
  | false => rfl
  | true =>
    have h2 := hs k h
    unfold freeF at h2
    unfold openF
    rw [sd_bit, Bool.and_eq_true] at h2
    rw [sd_bit, h2.2]
    simp)
theorem strike_and {c : Nat → Nat} (ok : OK c) {s : Nat} (hs : sub s (freeF c)) : upF c (c 6 ||| s) = upF c (c 6 ||| (s &&& openF c)) := by
  rw [and_open ok hs]
  exact upF_and ok
theorem strikeF_of {c : Nat → Nat} (ok : OK c) {want r : Nat} (h : isLst (openF c) (fun s => decide (sd want (upF c (c 6 ||| s)) ≠ 0)) r) : r = strikeF c want :=
  (h.wide (p12 freeF_lt ok.n0) (open_free ok) (fun s hs ht => by
    rw [strike_and ok hs] at ht
    exact ht)).uniq lsF_lst
theorem keepF_none {c : Nat → Nat} {want years : Nat} (h : sd want (nowF c) ≠ 0) : keepF c want years = 0 :=
  isLst.uniq (free := freeF c) (T := fun s => ktF c want (c 7 ||| s) years (c 6)) lsF_lst (Or.inl ⟨rfl, fun s _ => ktF_no h years⟩)
theorem strikeF_none {c : Nat → Nat} (ok : OK c) {want : Nat} (h : sd want (upF c (c 6 ||| openF c)) = 0) : strikeF c want = 0 :=
  isLst.uniq (free := freeF c) (T := fun s => decide (sd want (upF c (c 6 ||| s)) ≠ 0)) lsF_lst (Or.inl ⟨rfl, fun s hs => by
    refine decide_eq_false (fun q => q ?_)
    rw [strike_and ok hs]
    refine sd_zero.mpr ((sd_zero.mp h).tr (upF_anti ok (or_sub sub_or (fun k hk => ?_))))
    rw [Nat.testBit_and, Bool.and_eq_true] at hk
    rw [Nat.testBit_or, hk.2]
    simp⟩)
theorem c_leastKeeping {σ : Sto} {c : Nat → Nat} {P : Int32 → Sto → Prop} {N : Nat} (h : KW N σ c) (ok : OK c) (hN : N ≤ 2000) {want years : Nat} (hwl : want < 4096) (hy : years ≤ 12) (k : ∀ τ, Eo SQ σ τ → KW N τ c → P (oI (keepF c want years)) τ) : w_X5_leastKeeping (nI want) (nI years) σ P := by
  have := ok.n0
  have hp1 := Nat.two_pow_pos (c 0)
  unfold w_X5_leastKeeping
  refine c_endsBy h ok hN (e := 0) hwl hp1 (fun τ e1 hw => ?_)
  rw [Nat.or_zero]
  by_cases hd : sd want (nowF c) = 0
  · have hd' : sd want (upF c (c 6)) = 0 := hd
    rw [decide_eq_false (fun q => q hd'), if_pos (show bI false = 0 from rfl)]
    refine t_openNow hw.kb ok hN (fun υ e2 h2 => ?_)
    have hw2 : KW N υ c := hw.mk e2 h2
    have e3 : Eo SQ σ υ := e1.tr (e2.mo (fun _ _ => S89q))
    refine Lp_det (c 0) (fun j => (nI (foldN (fun s t => if (openF c).testBit t = true ∧ 0 < hatF c (c 3) t then s ||| 2 ^ t else s) 0 j), nI j, υ)) rfl (fun j hj K hK => ?_) (fun K => ?_)
    · have hn : ¬ c 0 ≤ j := by omega
      have hh := hatF_le ok (t := j) (by omega) (c 3) (Nat.le_refl _)
      have h3 := ok.n3
      replace hK : K (nI (if (openF c).testBit j = true ∧ 0 < hatF c (c 3) j then foldN (fun s t => if (openF c).testBit t = true ∧ 0 < hatF c (c 3) t then s ||| 2 ^ t else s) 0 j ||| 2 ^ j else foldN (fun s t => if (openF c).testBit t = true ∧ 0 < hatF c (c 3) t then s ||| 2 ^ t else s) 0 j), nI (j + 1), υ) := hK
      generalize foldN (fun s t => if (openF c).testBit t = true ∧ 0 < hatF c (c 3) t then s ||| 2 ^ t else s) 0 j = a at hK ⊢
      dsimp only
      unfold w_X5_leastKeeping_25
      refine ⟨hw2.p93.1, ?_⟩
      rw [show gi υ (gr υ 93 5) 8 = nI (c 0) from hw2.p93.2.1 0 (by decide), if_neg (by rw [jI_le (by omega) (by omega)]; exact hn)]
      simp (disch := omega) only [N0, N1, N2, N3, N4, N5, N6, N7, N8, N9, N10, N11, N12, N13, N14, N15, N16, N17, N18, N19, N20, N21, N22, N23, N24, N25, N26, N27, N28, N29, N30, N32, N33, N34, N35, N36, N37, N38, N39, N40, N41, N42, N43, N44, N45, N46, N47, N48, N49, N50, N51, N52, N53, N54, N55, N56, N57, N58, N59, N60, N61, N62, N63, N64, N90, N96, N97, N98, N99, N100, N102, N103, N104, N107, N108, N109, N110, N111, N112, N114, N115, N116, N117, N118, N119, N120, N121, N122, N130, N138, N141, N142, N143, N144, N156, N240, N255, N256, N300, N400, N420, N421, N600, N900, N999, N1000, N1684, N2104, N2105, N2971, N4095, N4096, N9999, N10000, N10663, N65536, jI_add, jI_mul, jI_and, jI_or, jI_xor, jI_andn, jI_31, jI_shl, Nat.one_shiftLeft, jI_le, jI_lt, jI_eq, tn_nI, tc_nI, vp_nI, jI_allF, jI_bit, jI_bit0, jI_noneN, bI_N0, bI_N1, forall_eq, true_and, ↓reduceIte]
      cases hb : (openF c).testBit j <;> simp only [hb, Bool.false_eq_true, Bool.true_eq_false, false_and, true_and, ↓reduceIte] at hK ⊢
      · exact hK
      · refine t_hatredOf hw2.kb.2.1 ok hj ?_
        by_cases hz : 0 < hatF c (c 3) j
        · rw [if_pos hz] at hK
          rw [if_neg (by rw [jI_le (by omega) (by decide)]; omega)]
          exact hK
        · rw [if_neg hz] at hK
          rw [if_pos (by rw [jI_le (by omega) (by decide)]; omega)]
          exact hK
    · dsimp only
      unfold w_X5_leastKeeping_25
      refine ⟨hw2.p93.1, ?_⟩
      rw [show gi υ (gr υ 93 5) 8 = nI (c 0) from hw2.p93.2.1 0 (by decide), if_pos (by rw [jI_le (by omega) (by omega)]; exact Nat.le_refl _)]
      refine c_least hw2 ok (f := fromF c) (T := fun s => ktF c want (c 7 ||| s) years (c 6)) (fromF_lt ok) (fun e φ A B hsub hw3 hA hB => ?_) (fun r φ e4 hw4 hl => ?_)
      · rw [if_neg (jI_none (by omega))]
        refine c_keeps hw3 ok hN hwl hy (fun ψ e5 hw5 => ?_)
        cases ht : ktF c want (c 7 ||| e) years (c 6)
        · rw [if_pos (show bI false = 0 from rfl)]; exact hA ψ e5 hw5 ht
        · rw [if_neg (show ¬ bI true = 0 by decide)]; exact hB ψ e5 hw5 ht
      · rw [keepF_of ok hl]
        exact k φ (e3.tr e4) hw4
  · have hd' : sd want (upF c (c 6)) ≠ 0 := hd
    rw [decide_eq_true hd', if_neg (show ¬ bI true = 0 by decide)]
    have hk := k τ e1 hw
    rw [keepF_none hd] at hk
    exact hk
theorem c_leastEnding {σ : Sto} {c : Nat → Nat} {P : Int32 → Sto → Prop} {N : Nat} (h : KW N σ c) (ok : OK c) (hN : N ≤ 2000) {want : Nat} (hwl : want < 4096) (k : ∀ τ, Eo SQ σ τ → KW N τ c → P (oI (strikeF c want)) τ) : w_X5_leastEnding (nI want) σ P := by
  have := ok.n0
  unfold w_X5_leastEnding
  refine t_openNow h.kb ok hN (fun υ e2 h2 => ?_)
  have hw2 : KW N υ c := h.mk e2 h2
  refine c_endsBy hw2 ok hN hwl (openF_lt ok) (fun τ e1 hw => ?_)
  have e3 : Eo SQ σ τ := (e2.mo (fun _ _ => S89q)).tr e1
  by_cases hd : sd want (upF c (c 6 ||| openF c)) = 0
  · rw [decide_eq_false (fun q => q hd), if_pos (show bI false = 0 from rfl)]
    have hk := k τ e3 hw
    rw [strikeF_none ok hd] at hk
    exact hk
  · rw [decide_eq_true hd, if_neg (show ¬ bI true = 0 by decide)]
    refine c_least hw ok (f := openF c) (T := fun s => decide (sd want (upF c (c 6 ||| s)) ≠ 0)) (openF_lt ok) (fun e φ A B hsub hw3 hA hB => ?_) (fun r φ e4 hw4 hl => ?_)
    · rw [if_pos rfl]
      refine c_endsBy hw3 ok hN hwl (sub_lt hsub (openF_lt ok)) (fun ψ e5 hw5 => ?_)
      cases ht : decide (sd want (upF c (c 6 ||| e)) ≠ 0)
      · rw [if_pos (show bI false = 0 from rfl)]; exact hA ψ e5 hw5 ht
      · rw [if_neg (show ¬ bI true = 0 by decide)]; exact hB ψ e5 hw5 ht
    · rw [strikeF_of ok hl]
      exact k φ (e3.tr e4) hw4
theorem lsF_le {free : Nat} {T : Nat → Bool} : lsF free T ≤ free + 1 := by
  rcases lsF_lst (free := free) (T := T) with ⟨h, -⟩ | ⟨s, h, hs, -⟩
  · omega
  · have := sub_le hs
    omega
/-! == answers: a set, or how many it has == -/
def szO (m : Nat) : Nat := if m = 0 then 0 else pop (m - 1) + 1
def orM (m : Nat) : Nat × Int32 := (m, if m = 0 then 8 else 0)
def setA (M : Nat × Int32) : Int32 × Int32 := (oI M.1, M.2)
def sizA (M : Nat × Int32) : Int32 × Int32 := (oI (szO M.1), M.2)
theorem t_szC {σ : Sto} {P : Int32 → Sto → Prop} {m : Nat} (hm : m ≤ 65536) (k : P (oI (szO m)) σ) : w_X11_sizeOf (oI m) σ P := by
  unfold w_X11_sizeOf
  cases m with
  | zero =>
    rw [if_pos (show oI 0 = -1 from rfl)]
    exact k
  | succ m =>
    rw [show oI (m + 1) = nI m from rfl, if_neg (jI_none (by omega)), t_bitCount (by omega)]
    have : szO (m + 1) = pop m + 1 := by unfold szO; rw [if_neg (by omega), Nat.add_sub_cancel]
    rw [this] at k
    exact k
def keepM (c : Nat → Nat) (x y : Int32) : Nat × Int32 := if ¬ x < 0 ∧ x < nI (c 2) then (if ¬ y < 0 ∧ y < nI 13 then orM (keepF c (c (52 + tn x)) (tn y)) else (0, 5)) else (0, 2)
def strikeM (c : Nat → Nat) (x : Int32) : Nat × Int32 := if ¬ x < 0 ∧ x < nI (c 2) then orM (strikeF c (c (52 + tn x))) else (0, 2)
theorem lsF_12 {c : Nat → Nat} (ok : OK c) {T : Nat → Bool} : lsF (freeF c) T ≤ 4096 := by
  have h1 := lsF_le (free := freeF c) (T := T)
  have h2 := p12 (freeF_lt (c := c)) ok.n0
  omega
theorem c_keepM {σ : Sto} {c : Nat → Nat} {P : Int32 → Sto → Prop} {N : Nat} (h : KW N σ c) (ok : OK c) (hN : N ≤ 2000) {x y : Int32} (k : ∀ τ, Eo SQ σ τ → KW N τ c → gi τ 1 15 = (keepM c x y).2 → (keepM c x y).1 ≤ 4096 → P (oI (keepM c x y).1) τ) : w_X11_keepSet x y σ P := by
  have := ok.n2
  unfold w_X11_keepSet
  refine t_noWork h ok (fun hx => ?_) (fun hx => ?_)
  · obtain ⟨w, hw, rfl⟩ := hx
    have hwl := p12 (ok.needs w hw) ok.n0
    have hg : gi σ (gr σ 1 11 + 5) w = nI (c (52 + w)) := h.cr.2.2.2.2.1 w hw
    have hy := inD_iff (x := y) (N := 13) (by decide)
    have bad : ¬ inD y 13 → w_X11_keepSet_24 σ P := fun hq => by
      have e1 : keepM c (nI w) y = (0, 5) := by
        unfold keepM
        rw [ifD_pos hw (by omega), ifD_neg hq (by decide)]
      rw [e1] at k
      exact k _ stq h.st gi_si_s (by decide)
    rw [if_pos rfl]
    by_cases h1 : y < 0
    · rw [if_pos h1]
      exact bad (fun q => (hy.mp q).1 h1)
    rw [if_neg h1]
    have hle : y ≤ 12 ↔ y < nI 13 := le_lt (n := 12) (by decide) (by decide)
    by_cases h2 : y ≤ 12
    · rw [if_pos h2]
      obtain ⟨n, hn, rfl⟩ := hy.mpr ⟨h1, hle.mp h2⟩
      have e1 : keepM c (nI w) (nI n) = orM (keepF c (c (52 + w)) n) := by
        unfold keepM
        rw [ifD_pos hw (by omega), ifD_pos hn (by omega), tn_nI (by omega), tn_nI (by omega)]
      rw [e1] at k
      refine ⟨h.1, vp_nI (by omega) (by decide), ?_⟩
      rw [tn_nI (by omega), hg]
      refine c_leastKeeping h ok hN hwl (by omega) (fun τ e hw2 => ?_)
      have hl := lsF_12 ok (T := fun s => ktF c (c (52 + w)) (c 7 ||| s) n (c 6))
      refine t_fineOrNone (m := keepF c (c (52 + w)) n) (by unfold keepF; omega) ?_
      exact k _ (e.tr stq) hw2.st gi_si_s hl
    · rw [if_neg h2]
      exact bad (fun q => h2 (hle.mpr (hy.mp q).2))
  · rw [if_neg (by decide)]
    have e1 : keepM c x y = (0, 2) := ifD_neg hx (by omega)
    rw [e1] at k
    exact k _ stq h.st gi_si_s (by decide)
theorem c_keepSet {σ : Sto} {c : Nat → Nat} {P : Int32 → Sto → Prop} {N : Nat} (h : KW N σ c) (ok : OK c) (hN : N ≤ 2000) {x y : Int32} (k : ∀ τ, Eo SQ σ τ → KW N τ c → gi τ 1 15 = (setA (keepM c x y)).2 → P (setA (keepM c x y)).1 τ) : w_X11_keepSet x y σ P :=
  c_keepM h ok hN (fun τ e hw hs _ => k τ e hw hs)
theorem c_keep {σ : Sto} {c : Nat → Nat} {P : Int32 → Sto → Prop} {N : Nat} (h : KW N σ c) (ok : OK c) (hN : N ≤ 2000) {x y : Int32} (k : ∀ τ, Eo SQ σ τ → KW N τ c → gi τ 1 15 = (sizA (keepM c x y)).2 → P (sizA (keepM c x y)).1 τ) : w_X11_keep x y σ P :=
  c_keepM h ok hN (fun τ e hw hs hl => t_szC (by omega) (k τ e hw hs))
theorem c_strikeM {σ : Sto} {c : Nat → Nat} {P : Int32 → Sto → Prop} {N : Nat} (h : KW N σ c) (ok : OK c) (hN : N ≤ 2000) {x : Int32} (k : ∀ τ, Eo SQ σ τ → KW N τ c → gi τ 1 15 = (strikeM c x).2 → (strikeM c x).1 ≤ 4096 → P (oI (strikeM c x).1) τ) : w_X11_strikeSet x σ P := by
  have := ok.n2
  unfold w_X11_strikeSet
  refine t_noWork h ok (fun hx => ?_) (fun hx => ?_)
  · obtain ⟨w, hw, rfl⟩ := hx
    have hwl := p12 (ok.needs w hw) ok.n0
    have hg : gi σ (gr σ 1 11 + 5) w = nI (c (52 + w)) := h.cr.2.2.2.2.1 w hw
    rw [if_pos rfl]
    have e1 : strikeM c (nI w) = orM (strikeF c (c (52 + w))) := by
      unfold strikeM
      rw [ifD_pos hw (by omega), tn_nI (by omega)]
    rw [e1] at k
    refine ⟨h.1, vp_nI (by omega) (by decide), ?_⟩
    rw [tn_nI (by omega), hg]
    refine c_leastEnding h ok hN hwl (fun τ e hw2 => ?_)
    have hl := lsF_12 ok (T := fun s => decide (sd (c (52 + w)) (upF c (c 6 ||| s)) ≠ 0))
    refine t_fineOrNone (m := strikeF c (c (52 + w))) (by unfold strikeF; omega) ?_
    exact k _ (e.tr stq) hw2.st gi_si_s hl
  · rw [if_neg (by decide)]
    have e1 : strikeM c x = (0, 2) := ifD_neg hx (by omega)
    rw [e1] at k
    exact k _ stq h.st gi_si_s (by decide)
theorem c_strikeSet {σ : Sto} {c : Nat → Nat} {P : Int32 → Sto → Prop} {N : Nat} (h : KW N σ c) (ok : OK c) (hN : N ≤ 2000) {x : Int32} (k : ∀ τ, Eo SQ σ τ → KW N τ c → gi τ 1 15 = (setA (strikeM c x)).2 → P (setA (strikeM c x)).1 τ) : w_X11_strikeSet x σ P :=
  c_strikeM h ok hN (fun τ e hw hs _ => k τ e hw hs)
theorem c_strike {σ : Sto} {c : Nat → Nat} {P : Int32 → Sto → Prop} {N : Nat} (h : KW N σ c) (ok : OK c) (hN : N ≤ 2000) {x : Int32} (k : ∀ τ, Eo SQ σ τ → KW N τ c → gi τ 1 15 = (sizA (strikeM c x)).2 → P (sizA (strikeM c x)).1 τ) : w_X11_strike x σ P :=
  c_strikeM h ok hN (fun τ e hw hs hl => t_szC (by omega) (k τ e hw hs))
