/-! ===== texts: a line of centuries, read by the class ===== -/
def CS (σ : Sto) (a b : Nat) (nm : Nat → Int64) (s L d : Nat) : Prop := isStory a ∧ isCity b ∧ gr σ 42 4 = a ∧ gr σ 42 3 = b ∧ (∀ k, k < 24 → gl σ (b + 1) k = nm k) ∧ gi σ 42 2 = nI d ∧ gi σ a 6 = nI s ∧ gi σ a 7 = nI L
/-- a line is written -/
def SLw (a L x k : Nat) : Prop := a + 1 ≤ x ∧ x ≤ a + 5 ∧ k = L
def SLn (a L x k : Nat) : Prop := ST0 x k ∨ SLw a L x k
theorem sty {a : Nat} (h : isStory a) : a = 21 ∨ a = 35 ∨ a = 53 ∨ a = 67 ∨ a = 81 := by
  unfold isStory at h
  omega
theorem sty_b {a b : Nat} (h : isStory a) (hb : isCity b) : ¬ (a ≤ b + 1 ∧ b + 1 ≤ a + 5) := by
  have := sty h
  unfold isCity at hb
  omega
theorem CS.eo {σ τ : Sto} {a b s L d l : Nat} {nm : Nat → Int64} (h : CS σ a b nm s L d) (e : Eo (SLn a l) σ τ) : CS τ a b nm s L d := by
  obtain ⟨h1, h2, h3, h4, h5, h6, h7, h8⟩ := h
  have ha := sty h1
  have hb := sty_b h1 h2
  have hr := h2.rg
  have no : ∀ x k, x ≠ 10 → ¬ (a + 1 ≤ x ∧ x ≤ a + 5) → ¬ SLn a l x k := fun x k q1 q2 q => by
    unfold SLn ST0 SLw at q
    omega
  exact ⟨h1, h2, by rw [e.2.2]; exact h3, by rw [e.2.2]; exact h4, fun k hk => by rw [e.2.1 _ _ (no _ _ (by omega) (by omega))]; exact h5 k hk, by rw [e.1 _ _ (no _ _ (by omega) (by omega))]; exact h6, by rw [e.1 _ _ (no _ _ (by omega) (by omega))]; exact h7, by rw [e.1 _ _ (no _ _ (by omega) (by omega))]; exact h8⟩
theorem RdC.story {σ τ : Sto} {T : Nat → Nat} {n a : Nat} {t : TKn} (h : RdC σ T n t) (ha : isStory a) (e : Eo (fun x _ => (a ≤ x ∧ x ≤ a + 5) ∨ x = 42 ∨ x = 43) σ τ) : RdC τ T n t := by
  have hr := sty ha
  obtain ⟨h1, h2, h3, h4⟩ := h
  have g : ∀ x k, (x = 10 ∨ x = 11 ∨ x = 12) → gi τ x k = gi σ x k ∧ gl τ x k = gl σ x k := fun x k hx => ⟨e.1 _ _ (by omega), e.2.1 _ _ (by omega)⟩
  refine ⟨⟨by rw [(g 10 3 (by omega)).1]; exact h1.1, h1.2.1, fun k hk => by rw [(g 11 k (by omega)).1]; exact h1.2.2 k hk⟩, fun k hk => by rw [(g 12 k (by omega)).2]; exact h2 k hk, ?_, h4⟩
  unfold TKC at h3 ⊢
  rw [(g 10 6 (by omega)).1, (g 10 4 (by omega)).1, (g 10 5 (by omega)).1, (g 10 7 (by omega)).1, (g 10 8 (by omega)).2]
  exact h3
theorem eo_lw {σ : Sto} {a i L : Nat} {v : Int32} (h : 1 ≤ i ∧ i ≤ 5) : Eo (SLw a L) σ (si σ (a + i) L v) := Eo.si ⟨by omega, by omega, rfl⟩
theorem SLwn {a L x k : Nat} (h : SLw a L x k) : SLn a L x k := Or.inr h
theorem SLn0 {a L x k : Nat} (h : ST0 x k) : SLn a L x k := Or.inl h
theorem RdC.lw {σ τ : Sto} {T : Nat → Nat} {n a L : Nat} {t : TKn} (h : RdC σ T n t) (ha : isStory a) (e : Eo (SLw a L) σ τ) : RdC τ T n t := h.story ha (e.mo (fun x k q => by unfold SLw at q; omega))
theorem flt_lw {σ τ : Sto} {a L : Nat} {x y : Int32} (ha : isStory a) (e : Eo (SLw a L) σ τ) (h9 : gi σ 10 9 = x) (h10 : gi σ 10 10 = y) : gi τ 10 9 = x ∧ gi τ 10 10 = y := by
  have hr := sty ha
  exact ⟨by rw [e.1 _ _ (by unfold SLw; omega)]; exact h9, by rw [e.1 _ _ (by unfold SLw; omega)]; exact h10⟩
theorem c_amount {σ : Sto} {T : Nat → Nat} {n q a b s L d v hi : Nat} {nm : Nat → Int64} {t : TKn} {P : Int32 → Sto → Prop} (h : RdC σ T n t) (ht : isTk T n q t) (hc : CS σ a b nm s L d) (hL : L < 60) (hhi : hi < 10000)
    (k : OC (SLn a L) σ T n q (nuE T n 1 hi t) (fun x τ => gi τ (a + 1) L = nI v → gi τ (a + 4) L = nI x → 1 ≤ x → x ≤ hi → P 1 τ) (fun τ => P 0 τ)) : w_X8_readAmount (nI v) (nI hi) σ P := by
  have ha := hc.1
  have hr := sty ha
  unfold w_X8_readAmount
  refine c_nu (lo := 1) h ht (by decide) hhi ⟨fun e he τ e1 g9 g10 => ?_, fun x t1 hx τ e1 h1 ht1 x1 x2 => ?_⟩
  · have c1 := hc.eo (e1.mo (fun _ _ q => SLn0 (a := a) (L := L) q))
    try dsimp only
    rw [c1.2.2.1, c1.2.2.2.2.2.2.2, tn_nI (by omega)]
    refine ⟨ha, vp_nI hL (by decide), ?_⟩
    rintro _ rfl
    have e2 : Eo (SLw a L) τ (si τ (a + 1) L (nI v)) := eo_lw (by decide)
    have c2 := c1.eo (e2.mo (fun _ _ => SLwn))
    rw [c2.2.2.1, c2.2.2.2.2.2.2.2, tn_nI (by omega)]
    refine ⟨ha, vp_nI hL (by decide), ?_⟩
    rw [if_pos rfl]
    have e3 : Eo (SLw a L) τ (si (si τ (a + 1) L (nI v)) (a + 4) L (-1)) := e2.tr (eo_lw (by decide))
    obtain ⟨f9, f10⟩ := flt_lw ha e3 g9 g10
    exact k.1 e he _ ((e1.mo (fun _ _ => SLn0)).tr (e3.mo (fun _ _ => SLwn))) f9 f10
  · have c1 := hc.eo (e1.mo (fun _ _ q => SLn0 (a := a) (L := L) q))
    try dsimp only
    rw [c1.2.2.1, c1.2.2.2.2.2.2.2, tn_nI (by omega)]
    refine ⟨ha, vp_nI hL (by decide), ?_⟩
    rintro _ rfl
    have e2 : Eo (SLw a L) τ (si τ (a + 1) L (nI v)) := eo_lw (by decide)
    have c2 := c1.eo (e2.mo (fun _ _ => SLwn))
    rw [c2.2.2.1, c2.2.2.2.2.2.2.2, tn_nI (by omega)]
    refine ⟨ha, vp_nI hL (by decide), ?_⟩
    rw [if_neg (nn1 (by omega))]
    have e3 : Eo (SLw a L) τ (si (si τ (a + 1) L (nI v)) (a + 4) L (nI x)) := e2.tr (eo_lw (by decide))
    exact k.2 x t1 hx _ ((e1.mo (fun _ _ => SLn0)).tr (e3.mo (fun _ _ => SLwn))) (h1.lw ha e3) ht1 (by rw [gi_si_a (by omega), gi_si_s]) gi_si_s x1 x2
theorem c_thingS {σ : Sto} {T : Nat → Nat} {n q a b s L d v : Nat} {c : Nat → Nat} {nm : Nat → Int64} {t : TKn} {P : Int32 → Sto → Prop} (h : RdC σ T n t) (ht : isTk T n q t) (hc : CS σ a b nm s L d) (hk : NmK c nm) (hL : L < 60)
    (k : OC (SLn a L) σ T n q (toE T n c nm 0 99 t) (fun x τ => gi τ (a + 1) L = nI v → gi τ (a + 2) L = nI x → x < c 0 → P 1 τ) (fun τ => P 0 τ)) : w_X8_readThing (nI v) σ P := by
  have ha := hc.1
  have hr := sty ha
  have k0 := hk.1
  unfold w_X8_readThing
  rw [hc.2.2.2.1]
  refine ⟨hc.2.1, c_told (s := 0) h ht hc.2.1 hc.2.2.2.2.1 hk (by decide) ⟨fun e he τ e1 g9 g10 => ?_, fun x t1 hx τ e1 h1 ht1 x1 => ?_⟩⟩
  · have c1 := hc.eo (e1.mo (fun _ _ q => SLn0 (a := a) (L := L) q))
    try dsimp only
    rw [c1.2.2.1, c1.2.2.2.2.2.2.2, tn_nI (by omega)]
    refine ⟨ha, vp_nI hL (by decide), ?_⟩
    rintro _ rfl
    have e2 : Eo (SLw a L) τ (si τ (a + 1) L (nI v)) := eo_lw (by decide)
    have c2 := c1.eo (e2.mo (fun _ _ => SLwn))
    rw [c2.2.2.1, c2.2.2.2.2.2.2.2, tn_nI (by omega)]
    refine ⟨ha, vp_nI hL (by decide), ?_⟩
    rw [if_pos rfl]
    have e3 : Eo (SLw a L) τ (si (si τ (a + 1) L (nI v)) (a + 2) L (-1)) := e2.tr (eo_lw (by decide))
    obtain ⟨f9, f10⟩ := flt_lw ha e3 g9 g10
    exact k.1 e he _ ((e1.mo (fun _ _ => SLn0)).tr (e3.mo (fun _ _ => SLwn))) f9 f10
  · have c1 := hc.eo (e1.mo (fun _ _ q => SLn0 (a := a) (L := L) q))
    have x2 : x < c 0 := x1
    try dsimp only
    rw [c1.2.2.1, c1.2.2.2.2.2.2.2, tn_nI (by omega)]
    refine ⟨ha, vp_nI hL (by decide), ?_⟩
    rintro _ rfl
    have e2 : Eo (SLw a L) τ (si τ (a + 1) L (nI v)) := eo_lw (by decide)
    have c2 := c1.eo (e2.mo (fun _ _ => SLwn))
    rw [c2.2.2.1, c2.2.2.2.2.2.2.2, tn_nI (by omega)]
    refine ⟨ha, vp_nI hL (by decide), ?_⟩
    rw [if_neg (nn1 (by omega))]
    have e3 : Eo (SLw a L) τ (si (si τ (a + 1) L (nI v)) (a + 2) L (nI x)) := e2.tr (eo_lw (by decide))
    exact k.2 x t1 hx _ ((e1.mo (fun _ _ => SLn0)).tr (e3.mo (fun _ _ => SLwn))) (h1.lw ha e3) ht1 (by rw [gi_si_a (by omega), gi_si_s]) gi_si_s x2
/-- a when's test, after its word -/
theorem c_test94 {σ : Sto} {T : Nat → Nat} {n q a b s s' L d g w : Nat} {c m : Nat → Nat} {nm : Nat → Int64} {t : TKn} {P : Int32 → Sto → Prop} (h : RdC σ T n t) (ht : isTk T n q t) (hc : CS σ a b nm s' L d) (hk : NmK c nm) (hL : L < 60) (hg : g ≤ 1) (hw : w = 7 ∨ w = 8 ∨ w = 9)
    (k : OC (SLn a L) σ T n q (bS (toE T n c nm g 99 t) (fun x t2 => if w = 9 then cmE T n s (updC m (145 + 9 * s) x) t2 else Sum.inr (updC m (145 + 9 * s) x, t2))) (fun m' τ => gi τ (a + 1) L = nI w → (∀ x, m' (145 + 9 * s) = x → gi τ (a + 2) L = nI x ∧ x < cnt c g) → (w = 9 → (∀ y, m' (151 + 9 * s) = y → gi τ (a + 3) L = nI y ∧ (y = 60 ∨ y = 61 ∨ y = 62)) ∧ ∀ z, m' (146 + 9 * s) = z → gi τ (a + 4) L = nI z ∧ z ≤ 99) → P 1 τ) (fun τ => P 0 τ)) : w_X8_readTest_94 (nI w) (nI (grp g)) b σ P := by
  have ha := hc.1
  have hr := sty ha
  have hcl := cntK hk (show g ≤ 2 by omega)
  have hgl := grl12 (s := g)
  unfold w_X8_readTest_94
  refine c_told (s := g) h ht hc.2.1 hc.2.2.2.2.1 hk (by omega) ⟨fun e he τ e1 g9 g10 => ?_, fun x t1 hx τ e1 h1 ht1 x1 => ?_⟩
  · have c1 := hc.eo (e1.mo (fun _ _ q => SLn0 (a := a) (L := L) q))
    try dsimp only
    rw [c1.2.2.1, c1.2.2.2.2.2.2.2, tn_nI (by omega)]
    refine ⟨ha, vp_nI hL (by decide), ?_⟩
    rintro _ rfl
    have e2 : Eo (SLw a L) τ (si τ (a + 1) L (nI w)) := eo_lw (by decide)
    have c2 := c1.eo (e2.mo (fun _ _ => SLwn))
    rw [c2.2.2.1, c2.2.2.2.2.2.2.2, tn_nI (by omega)]
    refine ⟨ha, vp_nI hL (by decide), ?_⟩
    rw [if_pos rfl]
    unfold w_X8_readTest_141
    rw [if_pos rfl]
    have e3 : Eo (SLw a L) τ (si (si τ (a + 1) L (nI w)) (a + 2) L (-1)) := e2.tr (eo_lw (by decide))
    obtain ⟨f9, f10⟩ := flt_lw ha e3 g9 g10
    exact k.ff he _ ((e1.mo (fun _ _ => SLn0)).tr (e3.mo (fun _ _ => SLwn))) f9 f10
  · have c1 := hc.eo (e1.mo (fun _ _ q => SLn0 (a := a) (L := L) q))
    try dsimp only
    rw [c1.2.2.1, c1.2.2.2.2.2.2.2, tn_nI (by omega)]
    refine ⟨ha, vp_nI hL (by decide), ?_⟩
    rintro _ rfl
    have e2 : Eo (SLw a L) τ (si τ (a + 1) L (nI w)) := eo_lw (by decide)
    have c2 := c1.eo (e2.mo (fun _ _ => SLwn))
    rw [c2.2.2.1, c2.2.2.2.2.2.2.2, tn_nI (by omega)]
    refine ⟨ha, vp_nI hL (by decide), ?_⟩
    rw [if_neg (nn1 (by omega))]
    have e3 : Eo (SLw a L) τ (si (si τ (a + 1) L (nI w)) (a + 2) L (nI x)) := e2.tr (eo_lw (by decide))
    have v1 : gi (si (si τ (a + 1) L (nI w)) (a + 2) L (nI x)) (a + 1) L = nI w := by rw [gi_si_a (by omega), gi_si_s]
    have v2 : gi (si (si τ (a + 1) L (nI w)) (a + 2) L (nI x)) (a + 2) L = nI x := gi_si_s
    have e13 : Eo (SLn a L) σ (si (si τ (a + 1) L (nI w)) (a + 2) L (nI x)) := (e1.mo (fun _ _ => SLn0)).tr (e3.mo (fun _ _ => SLwn))
    have h3 := h1.lw ha e3
    have c3 := hc.eo e13
    have k1 := k.nx hx e13
    have w9 : (nI w = 9) ↔ w = 9 := by rw [show (9 : Int32) = nI 9 from rfl, jI_eq (by omega) (by decide)]
    by_cases z : w = 9
    · rw [if_pos z] at k1
      rw [if_pos (w9.mpr z)]
      rintro _ rfl
      generalize si (si τ (a + 1) L (nI w)) (a + 2) L (nI x) = σ3 at e3 v1 v2 e13 h3 c3 k1 ⊢
      have hi := (c_kind h3.2.2.1 h3.2.2.2.1).2.2.2.1
      have bad : ¬ (t1.1 = 3 ∧ t1.2.2.2.1 ≠ 59) → w_X8_readTest_176 σ3 P := fun y => by
        unfold w_X8_readTest_176
        exact c_fail (f := 2) h3.2.2.1 h3.2.2.2.1 (fun τ4 e4 g9 g10 => ⟨Or.inl rfl, k1.1 _ (if_neg y) τ4 (e4.mo (fun _ _ q => SLn0 (STf0 q))) g9 g10⟩)
      by_cases y3 : t1.1 = 3
      · rw [if_pos (hi.mpr y3)]
        refine c_isSign (x := 59) h3.2.2.1 h3.2.2.2.1 (by decide) (fun y => ?_) (fun y => ?_)
        · rw [if_neg one0]
          exact bad (fun q => q.2 y.2)
        · have y' : t1.1 = 3 ∧ t1.2.2.2.1 ≠ 59 := ⟨y3, fun q => y ⟨y3, q⟩⟩
          have vs := ht1.s y3
          have ek : cmE T n s (updC m (145 + 9 * s) x) t1 = bS (nuE T n 0 99 (nxF T n t1)) (fun y t3 => Sum.inr (updC (updC (updC m (145 + 9 * s) x) (151 + 9 * s) t1.2.2.2.1) (146 + 9 * s) y, t3)) := if_pos y'
          have k2 := k1
          rw [ek] at k2
          rw [if_pos rfl, c3.2.2.1, c3.2.2.2.2.2.2.2, tn_nI (by omega)]
          refine ⟨ha, vp_nI hL (by decide), ?_⟩
          have g7 : gi σ3 10 7 = nI t1.2.2.2.1 := (h3.2.2.1.2.2.2.2.2.1 y3).2
          rw [g7]
          have e4 : Eo (SLw a L) σ3 (si σ3 (a + 3) L (nI t1.2.2.2.1)) := eo_lw (by decide)
          refine c_adv (h3.lw ha e4) (fun τ5 e5 h5 => ?_)
          have e5' : Eo (SLn a L) σ3 τ5 := (e4.mo (fun _ _ => SLwn)).tr (e5.mo (fun _ _ q => SLn0 (STk0 q)))
          have c5 := c3.eo e5'
          refine c_nu (lo := 0) (hi := 99) h5 ht1.n1 (by decide) (by decide) ⟨fun e he τ6 e6 g9 g10 => ?_, fun u t3 hu τ6 e6 h6 ht6 u1 u2 => ?_⟩
          · have c6 := c5.eo (e6.mo (fun _ _ q => SLn0 (a := a) (L := L) q))
            try dsimp only
            rw [c6.2.2.1, c6.2.2.2.2.2.2.2, tn_nI (by omega), if_pos rfl]
            refine ⟨ha, vp_nI hL (by decide), ?_⟩
            have e7 : Eo (SLw a L) τ6 (si τ6 (a + 4) L (-1)) := eo_lw (by decide)
            obtain ⟨f9, f10⟩ := flt_lw ha e7 g9 g10
            exact k2.ff he _ ((e5'.tr (e6.mo (fun _ _ => SLn0))).tr (e7.mo (fun _ _ => SLwn))) f9 f10
          · have c6 := c5.eo (e6.mo (fun _ _ q => SLn0 (a := a) (L := L) q))
            try dsimp only
            rw [c6.2.2.1, c6.2.2.2.2.2.2.2, tn_nI (by omega), if_neg (nn1 (by omega))]
            refine ⟨ha, vp_nI hL (by decide), ?_⟩
            have e7 : Eo (SLw a L) τ6 (si τ6 (a + 4) L (nI u)) := eo_lw (by decide)
            have eall : Eo (SLn a L) σ3 (si τ6 (a + 4) L (nI u)) := (e5'.tr (e6.mo (fun _ _ => SLn0))).tr (e7.mo (fun _ _ => SLwn))
            have keep : ∀ i, i ≤ 5 → i ≠ 4 → gi (si τ6 (a + 4) L (nI u)) (a + i) L = gi (si σ3 (a + 3) L (nI t1.2.2.2.1)) (a + i) L := fun i i1 i2 => by
              rw [gi_si_a (by omega), e6.1 _ _ (by unfold ST0; omega), e5.1 _ _ (by unfold STk; omega)]
            refine k2.2 _ _ (bS_r hu) _ eall (h6.lw ha e7) ht6 ?_ ?_ ?_
            · rw [keep 1 (by decide) (by decide), gi_si_a (by omega)]; exact v1
            · intro x' hx'
              rw [updC_n (by omega), updC_n (by omega), updC_s] at hx'
              rw [keep 2 (by decide) (by decide), gi_si_a (by omega), ← hx']
              exact ⟨v2, x1⟩
            · intro _
              refine ⟨fun y5 hy5 => ?_, fun z5 hz5 => ?_⟩
              · rw [updC_n (by omega), updC_s] at hy5
                rw [keep 3 (by decide) (by decide), gi_si_s, ← hy5]
                exact ⟨rfl, by omega⟩
              · rw [updC_s] at hz5
                rw [gi_si_s, ← hz5]
                exact ⟨rfl, u2⟩
      · rw [if_neg (fun q => y3 (hi.mp q))]
        exact bad (fun q => y3 q.1)
    · rw [if_neg z] at k1
      rw [if_neg (fun q => z (w9.mp q))]
      unfold w_X8_readTest_141
      rw [if_neg (nn1 (by omega))]
      refine k1.2 _ _ rfl _ Eo.rf h3 ht1 v1 (fun x' hx' => ?_) (fun q => absurd q z)
      rw [updC_s] at hx'
      rw [← hx']
      exact ⟨v2, x1⟩
