/-! ===== texts: parts of a city, read by the model (3) ===== -/
theorem m_rdMakes {σ : Sto} {T : Nat → Nat} {n q l : Nat} {c : Nat → Nat} {nm : Nat → Int64} {t : TKn} {P : Sto → Prop} (h : RdM σ T n t) (ht : isTk T n q t) (hb : gi σ 101 12 = nI 0) (hd : DrM σ c nm l) (hk : NmK c nm) (hc1 : c 1 ≤ 16) (k : OM 12 SDm σ T n q (makesE T n c nm l t) (fun x τ => DrM τ x.1 x.2.1 x.2.2 → P τ) (fun _ τ => P τ)) (kh : OH SDm σ T n q (makesE T n c nm l t) (fun _ τ => P τ)) : w_X12_readMakes σ P := by
  have k0 := hk.1
  have g1 : gi σ 106 1685 = nI (c 1) := hd.1 1 (by decide)
  unfold w_X12_readMakes
  rw [g1]
  rintro _ rfl
  unfold makesE at k kh
  by_cases z : c 1 < 16
  · rw [if_pos z] at k kh
    rw [if_neg (by rw [show (16 : Int32) = nI 16 from rfl, jI_eq (by omega) (by decide)]; omega)]
    unfold w_X12_readMakes_25
    rw [hb, if_pos (by decide)]
    refine m_adv h (fun τ e h1 => ?_)
    have e1 : Eo SM0 σ τ := e.mo (fun _ _ => STm0)
    have hb1 : gi τ 101 12 = nI 0 := by rw [e.1 _ _ (by unfold STm; omega)]; exact hb
    have hd1 := DM.eo hd e1
    have fin : ∀ e : Nat × Nat, e.1 ≠ 0 → e.1 ≤ 7 → ∀ x τ, gi τ 101 12 = nI e.1 → P τ → w_X12_readThings x τ (fun r_14 σ_13 => (if (gi σ_13 101 12) ≤ 0 then vp_in (1704 + nI (c 1)) 2105 ∧ vp_in (1720 + nI (c 1)) 2105 ∧ ∀ σ_18 : Sto, σ_18 = si (si σ_13 106 (tn (1704 + nI (c 1))) x) 106 (tn (1720 + nI (c 1))) r_14 → P (si σ_18 106 1685 ((gi σ_18 106 1685) + 1)) else P σ_13)) := fun e e0 e7 x τ g12 hp => by
      refine m_ths_bad g12 e0 e7 ?_
      rw [g12, if_neg (nble e0 e7)]
      exact hp
    have f1 : Eo SDm σ τ := e1.mo (fun _ _ => SDm0)
    refine m_told (a := 4) (s := 0) (b := 99) h1 ht.n1 hb1 (by decide) (DrM.nb (l := l) hd1) hk (by decide) (Or.inl ⟨rfl, rfl⟩) ⟨fun e he e0 e7 v τ2 hv e2 g12 g13 => ?_, fun p t1 hp τ2 e2 hb2 h2 ht2 hp0 => ?_⟩
    · have hp := k.ff he e0 e7 0 τ2 (by decide) (f1.tr (e2.mo (fun _ _ => SDm0))) g12 g13
      exact t_fromAny (m_must_bad g12 e7 e0 (fin e e0 e7 _ τ2 g12 hp)) (m_must_bad g12 e7 e0 (fin e e0 e7 _ τ2 g12 hp))
    · have f2 : Eo SDm σ τ2 := f1.tr (e2.mo (fun _ _ => SDm0))
      have k1 := k.nx hp f2
      have kh1 := kh.nx hp f2
      have hd2 := hd1.eo e2
      have hp1 : p < c 0 := hp0
      try dsimp only
      refine m_mustk (i := 4) (w := fun Q => w_X12_isFrom τ2 Q) (fun Q a b => t_isFrom h2.2.1 h2.2.2.1 a b) h2 ht2 hb2 ⟨fun e he e0 e7 v2 τ3 hv2 e3 g12 g13 => ?_, fun _ t2 hq τ3 e3 hb3 h3 ht3 => ?_⟩
      · exact fin e e0 e7 _ τ3 g12 (k1.ff he e0 e7 0 τ3 (by decide) (e3.mo (fun _ _ => SDm0)) g12 g13)
      · have f3 : Eo SDm τ2 τ3 := e3.mo (fun _ _ => SDm0)
        have k2 := k1.nx hq f3
        have kh2 := kh1.nx hq f3
        have hd3 := hd2.eo e3
        have put : ∀ (s : Nat) (τ4 : Sto), s < 4096 → Eo SM0 τ3 τ4 → gi τ4 101 12 = nI 0 → (∀ τ5, Eo (fun x k => (x = 101 ∧ k = 24) ∨ (x = 106 ∧ 1684 ≤ k ∧ k < 2105) ∨ (x = 108 ∧ 96 ≤ k ∧ k < 120)) τ4 τ5 → DM τ5 (updC (updC (updC c (20 + c 1) p) (36 + c 1) s) 1 (c 1 + 1)) nm (vN c) l → P τ5) → (if (gi τ4 101 12) ≤ 0 then vp_in (1704 + nI (c 1)) 2105 ∧ vp_in (1720 + nI (c 1)) 2105 ∧ ∀ σ_18 : Sto, σ_18 = si (si τ4 106 (tn (1704 + nI (c 1))) (nI p)) 106 (tn (1720 + nI (c 1))) (nI s) → P (si σ_18 106 1685 ((gi σ_18 106 1685) + 1)) else P τ4) := fun s τ4 hs e4 hb4 hp => by
          have hd4 := hd3.eo e4
          rw [hb4, if_pos (by decide), show (1704 : Int32) = nI 1704 from rfl, show (1720 : Int32) = nI 1720 from rfl, jI_add, jI_add, tn_nI (by omega), tn_nI (by omega)]
          refine ⟨vp_nI (by omega) (by decide), vp_nI (by omega) (by decide), ?_⟩
          rintro _ rfl
          have hd5 := (hd4.put (i := 20 + c 1) (v := p)).put (i := 36 + c 1) (v := s)
          rw [show 1684 + (20 + c 1) = 1704 + c 1 by omega, show 1684 + (36 + c 1) = 1720 + c 1 by omega] at hd5
          have g2 : gi (si (si τ4 106 (1704 + c 1) (nI p)) 106 (1720 + c 1) (nI s)) 106 1685 = nI (c 1) := by
            have := hd5.1 1 (by decide)
            rw [updC_n (by omega), updC_n (by omega)] at this
            exact this
          rw [g2, jI_inc]
          exact hp _ (((Eo.si (Or.inr (Or.inl ⟨rfl, by omega, by omega⟩))).tr (Eo.si (Or.inr (Or.inl ⟨rfl, by omega, by omega⟩)))).tr (Eo.si (Or.inr (Or.inl ⟨rfl, by omega, by omega⟩)))) (hd5.put (i := 1) (v := c 1 + 1))
        refine m_ths (b := p) h3 ht3 hb3 (DrM.nb (l := l) hd3) hk (Or.inr ⟨by omega, rfl⟩) ⟨fun e he e0 e7 v3 τ4 hv3 e4 g12 g13 => ?_, fun s t3 hs τ4 e4 hb4 h4 ht4 s1 s2 => ?_⟩ (fun t3 he hg s τ4 hs e4 hb4 h4 ht4 => ?_)
        · try dsimp only
          rw [g12, if_neg (nble e0 e7)]
          exact k2.ff he e0 e7 0 τ4 (by decide) (e4.mo (fun _ _ => SDm0)) g12 g13
        · have k3 := k2.nx hs (e4.mo (fun _ _ => SDm0))
          have hs4 : s < 4096 := Nat.lt_of_lt_of_le s1 (Nat.pow_le_pow_right (n := 2) (by decide) k0)
          refine put s τ4 hs4 e4 hb4 (fun τ5 e5 hd5 => ?_)
          refine k3.2 _ _ rfl τ5 (e5.mo (fun _ _ q => Or.inr q)) (by rw [e5.1 _ _ (by omega)]; exact hb4) (h4.city e5) ht4 (hd5.mo (fun j hj => ?_))
          unfold vN at hj ⊢
          dsimp only at hj
          rw [updC_n (show (0 : Nat) ≠ 1 by decide), updC_n (show 0 ≠ 36 + c 1 by omega), updC_n (show 0 ≠ 20 + c 1 by omega), updC_n (show (2 : Nat) ≠ 1 by decide), updC_n (show 2 ≠ 36 + c 1 by omega), updC_n (show 2 ≠ 20 + c 1 by omega), updC_n (show (3 : Nat) ≠ 1 by decide), updC_n (show 3 ≠ 36 + c 1 by omega), updC_n (show 3 ≠ 20 + c 1 by omega)] at hj
          exact hj
        · refine put s τ4 hs e4 hb4 (fun τ5 e5 hd5 => ?_)
          exact kh2 t3 (bS_l he) hg 0 τ5 (by decide) ((e4.mo (fun _ _ => SDm0)).tr (e5.mo (fun _ _ q => Or.inr q))) (by rw [e5.1 _ _ (by omega)]; exact hb4) (h4.city e5) ht4
  · rw [if_neg z] at k
    rw [if_pos (by rw [show c 1 = 16 by omega]; rfl), h.2.1.1]
    refine m_fail hb (by decide) (fun _ τ2 e2 g12 g13 => ?_) (fun y => absurd rfl y)
    unfold w_X12_readMakes_25
    rw [show (6 : Int32) = nI 6 from rfl] at g12
    rw [g12, if_neg (by decide)]
    exact k.1 _ rfl (show (6 : Nat) ≠ 0 by decide) (show (6 : Nat) ≤ 7 by decide) 0 τ2 (by decide) (e2.mo (fun _ _ q => SDm0 (SMf0 q))) g12 g13
theorem m_rdHates {σ : Sto} {T : Nat → Nat} {n q l : Nat} {c : Nat → Nat} {nm : Nat → Int64} {t : TKn} {P : Sto → Prop} (h : RdM σ T n t) (ht : isTk T n q t) (hb : gi σ 101 12 = nI 0) (hd : DrM σ c nm l) (hk : NmK c nm) (k : OM 12 SDm σ T n q (hatesE T n c nm l t) (fun x τ => DrM τ x.1 x.2.1 x.2.2 → P τ) (fun _ τ => P τ)) : w_X12_readHates σ P := by
  have k0 := hk.1
  have k3 := hk.2.2.1
  unfold hatesE at k
  unfold w_X12_readHates
  refine m_adv h (fun τ e h1 => ?_)
  have e1 : Eo SM0 σ τ := e.mo (fun _ _ => STm0)
  have hb1 : gi τ 101 12 = nI 0 := by rw [e.1 _ _ (by unfold STm; omega)]; exact hb
  have hd1 := DM.eo hd e1
  have f1 : Eo SDm σ τ := e1.mo (fun _ _ => SDm0)
  refine m_told (a := 4) (s := 2) (b := 99) h1 ht.n1 hb1 (by decide) (DrM.nb (l := l) hd1) hk (by decide) (Or.inl ⟨rfl, rfl⟩) ⟨fun e he e0 e7 v τ2 hv e2 g12 g13 => ?_, fun p t1 hp τ2 e2 hb2 h2 ht2 hp0 => ?_⟩
  · have hp := k.ff he e0 e7 0 τ2 (by decide) (f1.tr (e2.mo (fun _ _ => SDm0))) g12 g13
    refine m_told_bad g12 e0 e7 (m_count_bad g12 e7 e0 ?_)
    try dsimp only
    rw [g12, if_neg (nb0 e0 e7)]
    exact hp
  · have f2 : Eo SDm σ τ2 := f1.tr (e2.mo (fun _ _ => SDm0))
    have k1 := k.nx hp f2
    have hd2 := hd1.eo e2
    have hp1 : p < c 3 := hp0
    refine m_told (a := 4) (s := 0) (b := 99) h2 ht2 hb2 (by decide) (DrM.nb (l := l) hd2) hk (by decide) (Or.inl ⟨rfl, rfl⟩) ⟨fun e he e0 e7 v τ3 hv e3 g12 g13 => ?_, fun x t2 hx τ3 e3 hb3 h3 ht3 hx0 => ?_⟩
    · refine m_count_bad g12 e7 e0 ?_
      try dsimp only
      rw [g12, if_neg (nb0 e0 e7)]
      exact k1.ff he e0 e7 0 τ3 (by decide) (e3.mo (fun _ _ => SDm0)) g12 g13
    · have k2 := k1.nx hx (e3.mo (fun _ _ => SDm0))
      have hd3 := hd2.eo e3
      have hx1 : x < c 0 := hx0
      refine m_nu (lo := 0) (hi := 9) h3 ht3 hb3 (by decide) (by decide) ⟨fun e he e0 e7 v2 τ4 hv2 e4 g12 g13 => ?_, fun w t3 hw τ4 e4 hb4 h4 ht4 w0 w9 => ?_⟩
      · try dsimp only
        rw [g12, if_neg (nb0 e0 e7)]
        exact k2.ff he e0 e7 0 τ4 (by decide) (e4.mo (fun _ _ => SDm0)) g12 g13
      · have kk3 := k2.nx hw (e4.mo (fun _ _ => SDm0))
        have hd4 := hd3.eo e4
        try dsimp only
        rw [hb4, if_pos (show nI 0 = 0 from rfl), show (1742 : Int32) = nI 1742 from rfl, N12, jI_mul, jI_add, jI_add, tn_nI (by omega)]
        refine ⟨vp_nI (by omega) (by decide), ?_⟩
        have hd5 := hd4.put (i := 58 + 12 * p + x) (v := w)
        rw [show 1684 + (58 + 12 * p + x) = 1742 + 12 * p + x by omega] at hd5
        have e5 : Eo (fun x k => (x = 101 ∧ k = 24) ∨ (x = 106 ∧ 1684 ≤ k ∧ k < 2105) ∨ (x = 108 ∧ 96 ≤ k ∧ k < 120)) τ4 (si τ4 106 (1742 + 12 * p + x) (nI w)) := Eo.si (Or.inr (Or.inl ⟨rfl, by omega, by omega⟩))
        refine kk3.2 _ _ rfl _ (e5.mo (fun _ _ q => Or.inr q)) (by rw [e5.1 _ _ (by omega)]; exact hb4) (h4.city e5) ht4 (hd5.mo (fun j hj => ?_))
        unfold vN at hj ⊢
        dsimp only at hj
        rw [updC_n (show 0 ≠ 58 + 12 * p + x by omega), updC_n (show 2 ≠ 58 + 12 * p + x by omega), updC_n (show 3 ≠ 58 + 12 * p + x by omega)] at hj
        exact hj
theorem m_rdAhead {σ : Sto} {T : Nat → Nat} {n q l : Nat} {c : Nat → Nat} {nm : Nat → Int64} {t : TKn} {P : Sto → Prop} (h : RdM σ T n t) (ht : isTk T n q t) (hb : gi σ 101 12 = nI 0) (hd : DrM σ c nm l) (hk : NmK c nm) (k : OM 12 SDm σ T n q (aheadE T n c nm l t) (fun x τ => DrM τ x.1 x.2.1 x.2.2 → P τ) (fun _ τ => P τ)) : w_X12_readAhead σ P := by
  have k0 := hk.1
  unfold aheadE at k
  unfold w_X12_readAhead
  refine m_adv h (fun τ e h1 => ?_)
  have e1 : Eo SM0 σ τ := e.mo (fun _ _ => STm0)
  have hb1 : gi τ 101 12 = nI 0 := by rw [e.1 _ _ (by unfold STm; omega)]; exact hb
  have hd1 := DM.eo hd e1
  have f1 : Eo SDm σ τ := e1.mo (fun _ _ => SDm0)
  refine m_told (a := 4) (s := 0) (b := 99) h1 ht.n1 hb1 (by decide) (DrM.nb (l := l) hd1) hk (by decide) (Or.inl ⟨rfl, rfl⟩) ⟨fun e he e0 e7 v τ2 hv e2 g12 g13 => ?_, fun p t1 hp τ2 e2 hb2 h2 ht2 hp0 => ?_⟩
  · have hp := k.ff he e0 e7 0 τ2 (by decide) (f1.tr (e2.mo (fun _ _ => SDm0))) g12 g13
    refine m_told_bad g12 e0 e7 ?_
    try dsimp only
    rw [g12, if_neg (nb0 e0 e7)]
    exact hp
  · have f2 : Eo SDm σ τ2 := f1.tr (e2.mo (fun _ _ => SDm0))
    have k1 := k.nx hp f2
    have hd2 := hd1.eo e2
    have hp1 : p < c 0 := hp0
    refine m_told (a := 4) (s := 0) (b := p) h2 ht2 hb2 (by decide) (DrM.nb (l := l) hd2) hk (by decide) (Or.inr ⟨by omega, rfl⟩) ⟨fun e he e0 e7 v τ3 hv e3 g12 g13 => ?_, fun x t2 hx τ3 e3 hb3 h3 ht3 hx0 => ?_⟩
    · try dsimp only
      rw [g12, if_neg (nb0 e0 e7)]
      exact k1.ff he e0 e7 0 τ3 (by decide) (e3.mo (fun _ _ => SDm0)) g12 g13
    · have k2 := k1.nx hx (e3.mo (fun _ _ => SDm0))
      have hd3 := hd2.eo e3
      have hx1 : x < c 0 := hx0
      have gx := hd3.1 (130 + x) (by omega)
      rw [show 1684 + (130 + x) = 1814 + x by omega] at gx
      try dsimp only
      rw [hb3, if_pos (show nI 0 = 0 from rfl), show (1814 : Int32) = nI 1814 from rfl, jI_add, tn_nI (by omega), gx, sh1 (by omega), jI_or]
      refine ⟨vp_nI (by omega) (by decide), ?_⟩
      have hd5 := hd3.put (i := 130 + x) (v := c (130 + x) ||| 2 ^ p)
      rw [show 1684 + (130 + x) = 1814 + x by omega] at hd5
      have e5 : Eo (fun x k => (x = 101 ∧ k = 24) ∨ (x = 106 ∧ 1684 ≤ k ∧ k < 2105) ∨ (x = 108 ∧ 96 ≤ k ∧ k < 120)) τ3 (si τ3 106 (1814 + x) (nI (c (130 + x) ||| 2 ^ p))) := Eo.si (Or.inr (Or.inl ⟨rfl, by omega, by omega⟩))
      refine k2.2 _ _ rfl _ (e5.mo (fun _ _ q => Or.inr q)) (by rw [e5.1 _ _ (by omega)]; exact hb3) (h3.city e5) ht3 (hd5.mo (fun j hj => ?_))
      unfold vN at hj ⊢
      dsimp only at hj
      rw [updC_n (show 0 ≠ 130 + x by omega), updC_n (show 2 ≠ 130 + x by omega), updC_n (show 3 ≠ 130 + x by omega)] at hj
      exact hj
theorem m_rdLaw {σ : Sto} {T : Nat → Nat} {n q l : Nat} {c : Nat → Nat} {nm : Nat → Int64} {t : TKn} {P : Sto → Prop} (h : RdM σ T n t) (ht : isTk T n q t) (hb : gi σ 101 12 = nI 0) (hd : DrM σ c nm l) (hl : l ≤ 1) (k : OM 12 SDm σ T n q (lawE T n c nm l t) (fun x τ => DrM τ x.1 x.2.1 x.2.2 → P τ) (fun _ τ => P τ)) : w_X12_readLaw σ P := by
  unfold lawE at k
  unfold w_X12_readLaw
  rw [hd.2.2]
  by_cases l0 : l = 0
  · rw [if_pos l0] at k
    rw [if_pos (by rw [l0]; rfl)]
    unfold w_X12_readLaw_16
    rw [hb, if_pos (by decide)]
    have e0 : Eo (fun x k => (x = 101 ∧ k = 24) ∨ (x = 106 ∧ 1684 ≤ k ∧ k < 2105) ∨ (x = 108 ∧ 96 ≤ k ∧ k < 120)) σ (si σ 101 24 1) := Eo.si (Or.inl ⟨rfl, rfl⟩)
    have hd0 : DM (si σ 101 24 1) c nm (vN c) 1 := ⟨fun j hj => by rw [gi_si_a (by decide)]; exact hd.1 j hj, hd.2.1, by rw [gi_si_s]; rfl⟩
    have hb0 : gi (si σ 101 24 1) 101 12 = nI 0 := by rw [gi_si_k (by decide)]; exact hb
    refine m_adv (h.city e0) (fun τ e h1 => ?_)
    have e1 : Eo SM0 (si σ 101 24 1) τ := e.mo (fun _ _ => STm0)
    have hb1 : gi τ 101 12 = nI 0 := by rw [e.1 _ _ (by unfold STm; omega)]; exact hb0
    have hd1 := hd0.eo e1
    have f1 : Eo SDm σ τ := (e0.mo (fun _ _ q => Or.inr q)).tr (e1.mo (fun _ _ => SDm0))
    refine m_nu (lo := 0) (hi := 2) h1 ht.n1 hb1 (by decide) (by decide) ⟨fun e he e0 e7 v2 τ4 hv2 e4 g12 g13 => ?_, fun w t3 hw τ4 e4 hb4 h4 ht4 w0 w9 => ?_⟩
    · try dsimp only
      refine k.ff he e0 e7 0 _ (by decide) ((f1.tr (e4.mo (fun _ _ => SDm0))).tr (Eo.si (SDmC (i := 4) (by decide)))) ?_ ?_
      · rw [gi_si_a (by decide)]; exact g12
      · rw [gi_si_a (by decide)]; exact g13
    · have k2 := k.nx hw (f1.tr (e4.mo (fun _ _ => SDm0)))
      have hd4 := hd1.eo e4
      have e5 : Eo (fun x k => (x = 101 ∧ k = 24) ∨ (x = 106 ∧ 1684 ≤ k ∧ k < 2105) ∨ (x = 108 ∧ 96 ≤ k ∧ k < 120)) τ4 (si τ4 106 1688 (nI w)) := Eo.si (Or.inr (Or.inl ⟨rfl, by omega, by omega⟩))
      exact k2.2 _ _ rfl _ (e5.mo (fun _ _ q => Or.inr q)) (by rw [e5.1 _ _ (by omega)]; exact hb4) (h4.city e5) ht4 (hd4.put (i := 4) (v := w))
  · rw [if_neg l0] at k
    rw [if_neg (by rw [N0, jI_eq (by omega) (by decide)]; exact l0), h.2.1.1]
    refine m_fail hb (by decide) (fun _ τ2 e2 g12 g13 => ?_) (fun y => absurd rfl y)
    unfold w_X12_readLaw_16
    rw [show (5 : Int32) = nI 5 from rfl] at g12
    rw [g12, if_neg (by decide)]
    exact k.1 _ rfl (show (5 : Nat) ≠ 0 by decide) (show (5 : Nat) ≤ 7 by decide) 0 τ2 (by decide) (e2.mo (fun _ _ q => SDm0 (SMf0 q))) g12 g13
