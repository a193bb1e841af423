/-! ===== texts: a line of centuries, read by the model ===== -/
def SMw (x k : Nat) : Prop := x = 106 ∧ 1684 ≤ k ∧ k < 2105
def SMy (x k : Nat) : Prop := SM0 x k ∨ SMw x k
def SMz (x k : Nat) : Prop := SMy x k ∨ (x = 101 ∧ k = 25)
def MC (σ : Sto) (m : Nat → Nat) : Prop := ∀ j, 144 ≤ j → j < 421 → gi σ 106 (1684 + j) = nI (m j)
theorem SMy0 {x k : Nat} (h : SM0 x k) : SMy x k := Or.inl h
theorem SMzy {x k : Nat} (h : SMy x k) : SMz x k := Or.inl h
theorem SMyw {x k : Nat} (h : SMw x k) : SMy x k := Or.inr h
theorem MC.eo {σ τ : Sto} {m : Nat → Nat} (h : MC σ m) (e : Eo SM0 σ τ) : MC τ m := fun j h1 h2 => by rw [e.1 _ _ (by unfold SM0; omega)]; exact h j h1 h2
theorem MC.put {σ : Sto} {m : Nat → Nat} {i v : Nat} (h : MC σ m) : MC (si σ 106 (1684 + i) (nI v)) (updC m i v) := fun j h1 h2 => by
  by_cases e : j = i
  · rw [e, gi_si_s, updC_s]
  · rw [gi_si_k (by omega), updC_n e]; exact h j h1 h2
theorem RdM.s25 {σ τ : Sto} {T : Nat → Nat} {n : Nat} {t : TKn} (h : RdM σ T n t) (e : Eo (fun x k => SMw x k ∨ (x = 101 ∧ k = 25)) σ τ) : RdM τ T n t := by
  obtain ⟨h1, h3, h4⟩ := h
  have g : ∀ k, k < 25 → gi τ 101 k = gi σ 101 k ∧ gl τ 101 k = gl σ 101 k := fun k hk => ⟨e.1 _ _ (by unfold SMw; omega), e.2.1 _ _ (by unfold SMw; omega)⟩
  refine ⟨⟨by rw [(g 9 (by omega)).1]; exact h1.1, h1.2.1, fun k hk => by rw [e.1 _ _ (by unfold SMw; omega)]; exact h1.2.2 k hk⟩, ?_, h4⟩
  unfold TKM at h3 ⊢
  rw [(g 15 (by omega)).1, (g 16 (by omega)).1, (g 14 (by omega)).1, (g 18 (by omega)).1, (g 19 (by omega)).2, (g 17 (by omega)).1]
  exact h3
theorem RdM.sw {σ τ : Sto} {T : Nat → Nat} {n : Nat} {t : TKn} (h : RdM σ T n t) (e : Eo SMw σ τ) : RdM τ T n t := h.s25 (e.mo (fun _ _ q => Or.inl q))
theorem NB0.eo {σ τ : Sto} {c : Nat → Nat} {nm : Nat → Int64} (hk : NmK c nm) (h : NB σ 0 c nm) (e : Eo SMz σ τ) : NB τ 0 c nm := by
  obtain ⟨k0, k2, k3, -⟩ := hk
  refine ⟨by rw [e.1 _ _ (by unfold SMz SMy SM0 SMw; omega)]; exact h.1, by rw [e.1 _ _ (by unfold SMz SMy SM0 SMw; omega)]; exact h.2.1, by rw [e.1 _ _ (by unfold SMz SMy SM0 SMw; omega)]; exact h.2.2.1, fun k hk => by rw [e.2.1 _ _ (by unfold SMz SMy SM0 SMw; omega)]; exact h.2.2.2 k hk⟩
theorem flt_mw {σ τ : Sto} (e : Eo SMw σ τ) {x y : Int32} (h12 : gi σ 101 12 = x) (h13 : gi σ 101 13 = y) : gi τ 101 12 = x ∧ gi τ 101 13 = y := ⟨by rw [e.1 _ _ (by unfold SMw; omega)]; exact h12, by rw [e.1 _ _ (by unfold SMw; omega)]; exact h13⟩
theorem m_cmp {σ : Sto} {T : Nat → Nat} {n q s : Nat} {m : Nat → Nat} {t : TKn} {z0 : Int32} {P : Sto → Prop} (h : RdM σ T n t) (ht : isTk T n q t) (hb : gi σ 101 12 = nI 0) (hm : MC σ m) (hs : s < 30) (hz : t.1 = 3 → z0 = nI t.2.2.2.1)
    (k : OM 12 SMy σ T n q (cmE T n s m t) (fun m' τ => MC τ m' → P τ) (fun _ τ => P τ)) : w_X12_readTest_89 (nI (1828 + 9 * s)) z0 (nI (1828 + 9 * s) + 7) σ P := by
  have e1 : Eo SMw σ (si σ 106 (1835 + 9 * s) z0) := Eo.si ⟨rfl, by omega, by omega⟩
  have h1 := h.sw e1
  have hb1 : gi (si σ 106 (1835 + 9 * s) z0) 101 12 = nI 0 := by rw [gi_si_a (by decide)]; exact hb
  unfold w_X12_readTest_89
  rw [show (7 : Int32) = nI 7 from rfl, jI_add, show 1828 + 9 * s + 7 = 1835 + 9 * s by omega, tn_nI (by omega)]
  refine ⟨vp_nI (by omega) (by decide), ?_⟩
  have hm1 : t.1 = 3 → MC (si σ 106 (1835 + 9 * s) z0) (updC m (151 + 9 * s) t.2.2.2.1) := fun y => by
    have := hm.put (i := 151 + 9 * s) (v := t.2.2.2.1)
    rw [show 1684 + (151 + 9 * s) = 1835 + 9 * s by omega] at this
    rw [hz y]; exact this
  generalize si σ 106 (1835 + 9 * s) z0 = σ1 at e1 h1 hb1 hm1 ⊢
  have good : t.1 = 3 ∧ t.2.2.2.1 ≠ 59 → w_X12_readTest_123 (nI (1828 + 9 * s)) 1 σ1 P := fun y => by
    have ek : cmE T n s m t = bS (nuE T n 0 99 (nxF T n t)) (fun y t3 => Sum.inr (updC (updC m (151 + 9 * s) t.2.2.2.1) (146 + 9 * s) y, t3)) := if_pos y
    rw [ek] at k
    have hm1 := hm1 y.1
    unfold w_X12_readTest_123
    refine m_must_1 h1 hb1 (fun τ e h2 => ?_)
    have e2 : Eo SM0 σ1 τ := e.mo (fun _ _ => STm0)
    have hb2 : gi τ 101 12 = nI 0 := by rw [e.1 _ _ (by unfold STm; omega)]; exact hb1
    have fr : Eo SMy σ τ := (e1.mo (fun _ _ => SMyw)).tr (e2.mo (fun _ _ => SMy0))
    refine m_nu (lo := 0) (hi := 99) h2 ht.n1 hb2 (by decide) (by decide) ⟨fun e he e0 e7 v τ2 hv e3 g12 g13 => ?_, fun w t3 hw τ2 e3 hb3 h3 ht3 w0 w9 => ?_⟩
    · try dsimp only
      rw [show (2 : Int32) = nI 2 from rfl, jI_add, show 1828 + 9 * s + 2 = 1830 + 9 * s by omega, tn_nI (by omega)]
      refine ⟨vp_nI (by omega) (by decide), ?_⟩
      have e4 : Eo SMw τ2 (si τ2 106 (1830 + 9 * s) (nI v)) := Eo.si ⟨rfl, by omega, by omega⟩
      obtain ⟨f12, f13⟩ := flt_mw e4 g12 g13
      exact k.ff he e0 e7 0 _ (by decide) ((fr.tr (e3.mo (fun _ _ => SMy0))).tr (e4.mo (fun _ _ => SMyw))) f12 f13
    · have k2 := k.nx hw (fr.tr (e3.mo (fun _ _ => SMy0)))
      try dsimp only
      rw [show (2 : Int32) = nI 2 from rfl, jI_add, show 1828 + 9 * s + 2 = 1830 + 9 * s by omega, tn_nI (by omega)]
      refine ⟨vp_nI (by omega) (by decide), ?_⟩
      have e4 : Eo SMw τ2 (si τ2 106 (1830 + 9 * s) (nI w)) := Eo.si ⟨rfl, by omega, by omega⟩
      have hm4 := ((hm1.eo e2).eo e3).put (i := 146 + 9 * s) (v := w)
      rw [show 1684 + (146 + 9 * s) = 1830 + 9 * s by omega] at hm4
      exact k2.2 _ _ rfl _ (e4.mo (fun _ _ => SMyw)) (by rw [gi_si_a (by decide)]; exact hb3) (h3.sw e4) ht3 hm4
  have bad : ¬ (t.1 = 3 ∧ t.2.2.2.1 ≠ 59) → w_X12_readTest_123 (nI (1828 + 9 * s)) 0 σ1 P := fun y => by
    have ek : cmE T n s m t = Sum.inl (fkF t 2, t.2.1) := if_neg y
    unfold w_X12_readTest_123
    refine m_must_0 h1 hb1 (fun τ e g12 g13 => ?_)
    refine m_count_bad g12 fk2.2 fk2.1 ?_
    rw [show (2 : Int32) = nI 2 from rfl, jI_add, show 1828 + 9 * s + 2 = 1830 + 9 * s by omega, tn_nI (by omega)]
    refine ⟨vp_nI (by omega) (by decide), ?_⟩
    have e4 : Eo SMw τ (si τ 106 (1830 + 9 * s) 0) := Eo.si ⟨rfl, by omega, by omega⟩
    obtain ⟨f12, f13⟩ := flt_mw e4 g12 g13
    exact k.1 _ ek fk2.1 fk2.2 0 _ (by decide) (((e1.mo (fun _ _ => SMyw)).tr (e.mo (fun _ _ q => SMy0 (SMf0 q)))).tr (e4.mo (fun _ _ => SMyw))) f12 f13
  refine m_isSign (x := 60) h1.2.1 h1.2.2.1 (by decide) (fun y => ?_) (fun y6 => ?_)
  · rw [if_neg one0]
    exact good ⟨y.1, by rw [y.2]; decide⟩
  rw [if_pos rfl]
  refine m_isSign (x := 62) h1.2.1 h1.2.2.1 (by decide) (fun y => ?_) (fun y7 => ?_)
  · rw [if_neg one0]
    exact good ⟨y.1, by rw [y.2]; decide⟩
  rw [if_pos rfl]
  refine m_isSign (x := 61) h1.2.1 h1.2.2.1 (by decide) (fun y => ?_) (fun y8 => ?_)
  · rw [if_neg one0]
    exact good ⟨y.1, by rw [y.2]; decide⟩
  rw [if_pos rfl]
  refine bad (fun q => ?_)
  have vs := ht.s q.1
  rcases vs with v | v | v | v
  · exact q.2 v
  · exact y6 ⟨q.1, v⟩
  · exact y7 ⟨q.1, v⟩
  · exact y8 ⟨q.1, v⟩
theorem m_test {σ : Sto} {T : Nat → Nat} {n q s : Nat} {c m : Nat → Nat} {nm : Nat → Int64} {t : TKn} {P : Sto → Prop} (h : RdM σ T n t) (ht : isTk T n q t) (hb : gi σ 101 12 = nI 0) (hm : MC σ m) (hs : s < 30) (hn : NB σ 0 c nm) (hk : NmK c nm)
    (k : OM 12 SMy σ T n q (teE T n c nm s m t) (fun m' τ => MC τ m' → P τ) (fun _ τ => P τ)) : w_X12_readTest (nI (1828 + 9 * s)) σ P := by
  have k0 := hk.1
  have h3 := tstF_le (t := t)
  unfold w_X12_readTest
  refine t_testWord h.2.1 h.2.2.1 (fun z => ?_) (fun z => ?_)
  · rw [if_neg (by rw [N0, jI_lt (by omega) (by decide)]; omega)]
    generalize hr : tstF t = r at z h3
    have et : teE T n c nm s m t = bS (toE T n c nm (if r = 2 then 1 else 0) 99 (nxF T n t)) (fun x t2 => if r = 3 then cmE T n s (updC (updC m (150 + 9 * s) (r - 1)) (145 + 9 * s) x) t2 else Sum.inr (updC (updC m (150 + 9 * s) (r - 1)) (145 + 9 * s) x, t2)) := by
      rw [← hr]; exact if_neg (by omega)
    rw [et] at k
    unfold w_X12_readTest_15
    refine m_must_1 h hb (fun τ e h1 => ?_)
    have e1 : Eo SM0 σ τ := e.mo (fun _ _ => STm0)
    have hb1 : gi τ 101 12 = nI 0 := by rw [e.1 _ _ (by unfold STm; omega)]; exact hb
    have hm1 := (hm.eo e1).put (i := 150 + 9 * s) (v := r - 1)
    have e2 : Eo SMw τ (si τ 106 (1834 + 9 * s) (nI (r - 1))) := Eo.si ⟨rfl, by omega, by omega⟩
    rw [show 1684 + (150 + 9 * s) = 1834 + 9 * s by omega] at hm1
    rw [show (6 : Int32) = nI 6 from rfl, jI_add, show 1828 + 9 * s + 6 = 1834 + 9 * s by omega, tn_nI (by omega)]
    refine ⟨vp_nI (by omega) (by decide), ?_⟩
    have h2 := h1.sw e2
    have hb2 : gi (si τ 106 (1834 + 9 * s) (nI (r - 1))) 101 12 = nI 0 := by rw [gi_si_a (by decide)]; exact hb1
    have fr : Eo SMy σ (si τ 106 (1834 + 9 * s) (nI (r - 1))) := (e1.mo (fun _ _ => SMy0)).tr (e2.mo (fun _ _ => SMyw))
    have hn2 := hn.eo e1
    generalize si τ 106 (1834 + 9 * s) (nI (r - 1)) = σ2 at hm1 e2 h2 hb2 fr ⊢
    have hn3 : NB σ2 0 c nm := NB0.eo hk hn (fr.mo (fun _ _ => SMzy))
    have go : ∀ g, g = (if r = 2 then 1 else 0) → w_X12_readTest_47 (nI (1828 + 9 * s)) (nI (r - 1)) (nI g) 0 (nI (1828 + 9 * s) + 1) σ2 P := fun g hg => by
      have hg2 : g ≤ 2 := by rw [hg]; split <;> decide
      rw [← hg] at k
      unfold w_X12_readTest_47
      rw [jI_inc, show 1828 + 9 * s + 1 = 1829 + 9 * s by omega, tn_nI (by omega)]
      refine m_told (a := 0) (s := g) (b := 99) h2 ht.n1 hb2 (by decide) hn3 hk hg2 (Or.inl ⟨rfl, rfl⟩) ⟨fun e he e0 e7 v τ3 hv e3 g12 g13 => ?_, fun x t2 hx τ3 e3 hb3 h3 ht3 hx0 => ?_⟩
      · refine ⟨vp_nI (by omega) (by decide), ?_⟩
        rintro _ rfl
        have e4 : Eo SMw τ3 (si τ3 106 (1829 + 9 * s) (nI v)) := Eo.si ⟨rfl, by omega, by omega⟩
        obtain ⟨f12, f13⟩ := flt_mw e4 g12 g13
        rw [f12, if_pos (by rw [N0, jI_lt (by decide) (by omega)]; omega)]
        exact k.ff he e0 e7 0 _ (by decide) ((fr.tr (e3.mo (fun _ _ => SMy0))).tr (e4.mo (fun _ _ => SMyw))) f12 f13
      · have hcl := cntK hk hg2
        have hgl := grl12 (s := g)
        refine ⟨vp_nI (by omega) (by decide), ?_⟩
        rintro _ rfl
        have e4 : Eo SMw τ3 (si τ3 106 (1829 + 9 * s) (nI x)) := Eo.si ⟨rfl, by omega, by omega⟩
        have hm4 := (hm1.eo e3).put (i := 145 + 9 * s) (v := x)
        rw [show 1684 + (145 + 9 * s) = 1829 + 9 * s by omega] at hm4
        have hb4 : gi (si τ3 106 (1829 + 9 * s) (nI x)) 101 12 = nI 0 := by rw [gi_si_a (by decide)]; exact hb3
        have h4 := h3.sw e4
        have fr4 : Eo SMy σ (si τ3 106 (1829 + 9 * s) (nI x)) := (fr.tr (e3.mo (fun _ _ => SMy0))).tr (e4.mo (fun _ _ => SMyw))
        have k2 := k.nx hx fr4
        generalize si τ3 106 (1829 + 9 * s) (nI x) = σ4 at e4 hm4 hb4 h4 fr4 k2 ⊢
        rw [hb4, if_neg (by decide)]
        by_cases z3 : r = 3
        · rw [if_pos z3] at k2
          rw [if_pos (by rw [z3]; rfl)]
          by_cases y3 : gi σ4 101 14 = 3
          · have t3 : t2.1 = 3 := by
              rw [h4.2.1.2.2.1, show (3 : Int32) = nI 3 from rfl, jI_eq (by have := h4.2.2.1.1; omega) (by decide)] at y3
              exact y3
            rw [if_pos y3]
            exact m_cmp h4 ht3 hb4 hm4 hs (fun _ => h4.2.1.2.2.2.2 (Or.inr t3)) k2
          · have t3 : t2.1 ≠ 3 := fun q => y3 (by rw [h4.2.1.2.2.1, q]; rfl)
            rw [if_neg y3]
            exact m_cmp h4 ht3 hb4 hm4 hs (fun q => absurd q t3) k2
        · rw [if_neg z3] at k2
          rw [if_neg (by rw [show (2 : Int32) = nI 2 from rfl, jI_eq (by omega) (by decide)]; omega)]
          exact k2.2 _ _ rfl σ4 Eo.rf hb4 h4 ht3 hm4
    by_cases z2 : r = 2
    · rw [if_pos (by rw [z2]; rfl)]
      exact go 1 (by rw [if_pos z2])
    · rw [if_neg (by rw [N1, jI_eq (by omega) (by decide)]; omega)]
      exact go 0 (by rw [if_neg z2])
  · have et : teE T n c nm s m t = Sum.inl (fkF t 2, t.2.1) := if_pos z
    rw [if_pos (show (-1 : Int32) < 0 by decide)]
    unfold w_X12_readTest_15
    refine m_must_0 h hb (fun τ e g12 g13 => ?_)
    rw [show (6 : Int32) = nI 6 from rfl, jI_add, show 1828 + 9 * s + 6 = 1834 + 9 * s by omega, tn_nI (by omega)]
    refine ⟨vp_nI (by omega) (by decide), ?_⟩
    rw [if_neg (show ¬ (-1 : Int32) = 1 by decide)]
    have e2 : Eo SMw τ (si τ 106 (1834 + 9 * s) (-1)) := Eo.si ⟨rfl, by omega, by omega⟩
    obtain ⟨f12, f13⟩ := flt_mw e2 g12 g13
    unfold w_X12_readTest_47
    refine m_told_bad f12 fk2.1 fk2.2 ?_
    rw [jI_inc, show 1828 + 9 * s + 1 = 1829 + 9 * s by omega, tn_nI (by omega)]
    refine ⟨vp_nI (by omega) (by decide), ?_⟩
    rintro _ rfl
    have e4 : Eo SMw τ (si (si τ 106 (1834 + 9 * s) (-1)) 106 (1829 + 9 * s) 0) := e2.tr (Eo.si ⟨rfl, by omega, by omega⟩)
    obtain ⟨d12, d13⟩ := flt_mw e4 g12 g13
    have f2 := fk2 (t := t)
    rw [d12, if_pos (by rw [N0, jI_lt (by decide) (by omega)]; omega)]
    exact k.1 _ et fk2.1 fk2.2 0 _ (by decide) ((e.mo (fun _ _ q => SMy0 (SMf0 q))).tr (e4.mo (fun _ _ => SMyw))) d12 d13
theorem m_rest {σ : Sto} {T : Nat → Nat} {n q s r : Nat} {c m : Nat → Nat} {nm : Nat → Int64} {t : TKn} {P : Sto → Prop} (h : RdM σ T n t) (ht : isTk T n q t) (hb : gi σ 101 12 = nI 0) (hm : MC σ m) (hs : s < 30) (hr : m (144 + 9 * s) = r) (hr7 : r ≤ 7) (hn : NB σ 0 c nm) (hk : NmK c nm)
    (k : OM 12 SMy σ T n q (reE T n c nm s r m t) (fun m' τ => MC τ m' → P τ) (fun _ τ => P τ)) : w_X12_readRest (nI (1828 + 9 * s)) σ P := by
  have k0 := hk.1
  have g1 : gi σ 106 (1828 + 9 * s) = nI r := by
    have := hm (144 + 9 * s) (by omega) (by omega)
    rw [show 1684 + (144 + 9 * s) = 1828 + 9 * s by omega, hr] at this
    exact this
  have ix : nI (1828 + 9 * s) + 1 = nI (1829 + 9 * s) := by rw [jI_inc, show 1828 + 9 * s + 1 = 1829 + 9 * s by omega]
  have bd : ∀ (e : Nat × Nat) (v : Nat) (τ : Sto), reE T n c nm s r m t = Sum.inl e → e.1 ≠ 0 → e.1 ≤ 7 → Eo SM0 σ τ → gi τ 101 12 = nI e.1 → gi τ 101 13 = nI e.2 → vp_in (nI (1828 + 9 * s) + 1) 2105 ∧ P (si τ 106 (tn (nI (1828 + 9 * s) + 1)) (nI v)) := fun e v τ he e0 e7 e3 g12 g13 => by
    rw [ix, tn_nI (by omega)]
    refine ⟨vp_nI (by omega) (by decide), ?_⟩
    have e4 : Eo SMw τ (si τ 106 (1829 + 9 * s) (nI v)) := Eo.si ⟨rfl, by omega, by omega⟩
    obtain ⟨f12, f13⟩ := flt_mw e4 g12 g13
    exact k.1 e he e0 e7 0 _ (by decide) ((e3.mo (fun _ _ => SMy0)).tr (e4.mo (fun _ _ => SMyw))) f12 f13
  have gd : ∀ (x : Nat) (t1 : TKn) (τ : Sto), reE T n c nm s r m t = Sum.inr (updC m (145 + 9 * s) x, t1) → Eo SM0 σ τ → gi τ 101 12 = nI 0 → RdM τ T n t1 → isTk T n q t1 → vp_in (nI (1828 + 9 * s) + 1) 2105 ∧ P (si τ 106 (tn (nI (1828 + 9 * s) + 1)) (nI x)) := fun x t1 τ he e3 hb3 h3 ht3 => by
    rw [ix, tn_nI (by omega)]
    refine ⟨vp_nI (by omega) (by decide), ?_⟩
    have e4 : Eo SMw τ (si τ 106 (1829 + 9 * s) (nI x)) := Eo.si ⟨rfl, by omega, by omega⟩
    have hm4 := (hm.eo e3).put (i := 145 + 9 * s) (v := x)
    rw [show 1684 + (145 + 9 * s) = 1829 + 9 * s by omega] at hm4
    exact k.2 _ _ he _ ((e3.mo (fun _ _ => SMy0)).tr (e4.mo (fun _ _ => SMyw))) (by rw [gi_si_a (by decide)]; exact hb3) (h3.sw e4) ht3 hm4
  unfold w_X12_readRest
  rw [tn_nI (by omega), g1]
  refine ⟨vp_nI (by omega) (by decide), ?_⟩
  rintro _ rfl
  rcases (show r = 0 ∨ r = 6 ∨ r = 5 ∨ (r = 4 ∨ r = 7) ∨ (r = 1 ∨ r = 2 ∨ r = 3) by omega) with z | z | z | z | z
  · subst z
    rw [if_pos (show nI 0 = 0 from rfl)]
    exact m_nu (lo := 1) (hi := 9) h ht hb (by decide) (by decide) ⟨fun e he e0 e7 v τ hv e3 g12 g13 => bd e v τ (reE_0.trans (bS_l he)) e0 e7 e3 g12 g13, fun x t1 hx τ e3 hb3 h3 ht3 _ _ => gd x t1 τ (reE_0.trans (bS_r hx)) e3 hb3 h3 ht3⟩
  · subst z
    rw [if_neg (show ¬ nI 6 = 0 by decide), if_pos (show nI 6 = 6 from rfl)]
    exact m_nu (lo := 1) (hi := 99) h ht hb (by decide) (by decide) ⟨fun e he e0 e7 v τ hv e3 g12 g13 => bd e v τ (reE_6.trans (bS_l he)) e0 e7 e3 g12 g13, fun x t1 hx τ e3 hb3 h3 ht3 _ _ => gd x t1 τ (reE_6.trans (bS_r hx)) e3 hb3 h3 ht3⟩
  · subst z
    rw [if_neg (show ¬ nI 5 = 0 by decide), if_neg (show ¬ nI 5 = 6 by decide), if_pos (show nI 5 = 5 from rfl)]
    rw [reE_5] at k
    exact m_test h ht hb hm hs hn hk k
  · rw [if_neg (by rw [N0, jI_eq (by omega) (by decide)]; omega), if_neg (by rw [show (6 : Int32) = nI 6 from rfl, jI_eq (by omega) (by decide)]; omega), if_neg (by rw [show (5 : Int32) = nI 5 from rfl, jI_eq (by omega) (by decide)]; omega), if_pos (by rw [show (4 : Int32) = nI 4 from rfl, jI_le (by decide) (by omega)]; omega)]
    exact k.2 _ _ (reE_r z) σ Eo.rf hb h ht hm
  · rw [if_neg (by rw [N0, jI_eq (by omega) (by decide)]; omega), if_neg (by rw [show (6 : Int32) = nI 6 from rfl, jI_eq (by omega) (by decide)]; omega), if_neg (by rw [show (5 : Int32) = nI 5 from rfl, jI_eq (by omega) (by decide)]; omega), if_neg (by rw [show (4 : Int32) = nI 4 from rfl, jI_le (by decide) (by omega)]; omega)]
    exact m_told (a := 0) (s := 0) (b := 99) h ht hb (by decide) hn hk (by decide) (Or.inl ⟨rfl, rfl⟩) ⟨fun e he e0 e7 v τ hv e3 g12 g13 => bd e v τ ((reE_t z).trans (bS_l he)) e0 e7 e3 g12 g13, fun x t1 hx τ e3 hb3 h3 ht3 _ => gd x t1 τ ((reE_t z).trans (bS_r hx)) e3 hb3 h3 ht3⟩
