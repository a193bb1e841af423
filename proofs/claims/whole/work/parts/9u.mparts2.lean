/-! ===== texts: parts of a city, read by the model (2) ===== -/
theorem vN_0 {c d : Nat → Nat} {k : Nat} (h : vN d k) (h0 : d 0 = c 0 + 1) (h2 : d 2 = c 2) (h3 : d 3 = c 3) : vN c k ∨ k = c 0 := by
  unfold vN at h ⊢
  omega
theorem m_rdThing {σ : Sto} {T : Nat → Nat} {n q l : Nat} {c : Nat → Nat} {nm : Nat → Int64} {t : TKn} {P : Sto → Prop} (h : RdM σ T n t) (ht : isTk T n q t) (hb : gi σ 101 12 = nI 0) (hd : DrM σ c nm l) (hk : NmK c nm) (k : OM 12 SDm σ T n q (thingE T n c nm l t) (fun x τ => DrM τ x.1 x.2.1 x.2.2 → P τ) (fun _ τ => P τ)) : w_X12_readThing σ P := by
  have k0 := hk.1
  have ec : cnt c 0 = c 0 := rfl
  have eg : grp 0 = 0 := rfl
  have fin : ∀ e : Nat × Nat, e.1 ≠ 0 → e.1 ≤ 7 → ∀ x τ, gi τ 101 12 = nI e.1 → P τ → w_X12_readThing_54 x τ P := fun e e0 e7 x τ g12 hp => by
    unfold w_X12_readThing_54 w_X12_readThing_86
    rw [g12, if_neg (nb0 e0 e7), if_neg (nb0 e0 e7)]
    exact hp
  unfold w_X12_readThing
  refine m_new (s := 0) (mo := 12) h ht hb hd hk (by decide) rfl ⟨fun e he e0 e7 v τ hv e1 g12 g13 => ?_, fun v t1 hv τ e1 hb1 h1 ht1 hd1 => ?_⟩
  · try dsimp only
    rw [show (1692 : Int32) = nI 1692 from rfl, jI_add, tn_nI (by omega)]
    refine ⟨vp_nI (by omega) (by decide), ?_⟩
    rintro _ rfl
    have e2 : Eo SDm τ (si τ 106 (1692 + v) 1) := Eo.si (by have := SDmC (i := 8 + v) (by omega); rw [show 1684 + (8 + v) = 1692 + v by omega] at this; exact this)
    have g12' : gi (si τ 106 (1692 + v) 1) 101 12 = nI e.1 := by rw [gi_si_a (by decide)]; exact g12
    have g13' : gi (si τ 106 (1692 + v) 1) 101 13 = nI e.2 := by rw [gi_si_a (by decide)]; exact g13
    have he' : thingE T n c nm l t = Sum.inl e := by
      unfold thingE
      by_cases z : c 0 < 12
      · rw [if_pos (show cnt c 0 < 12 from z)] at he
        rw [if_pos z]; exact bS_l he
      · rw [if_neg (show ¬ cnt c 0 < 12 from z)] at he
        rw [if_neg z]
        cases he; rfl
    rw [g12', if_neg (nb0 e0 e7)]
    exact fin e e0 e7 _ _ g12' (k.1 e he' e0 e7 v _ hv (e1.tr e2) g12' g13')
  · by_cases z : c 0 < 12
    · rw [if_pos (show cnt c 0 < 12 from z)] at hv
      unfold thingE at k
      rw [if_pos z] at k
      have k1 := k.nx hv e1
      try dsimp only
      rw [ec, eg, Nat.zero_add] at hd1
      rw [ec, show (1692 : Int32) = nI 1692 from rfl, jI_add, tn_nI (by omega)]
      refine ⟨vp_nI (by omega) (by decide), ?_⟩
      rintro _ rfl
      have hd2 := hd1.put (i := 8 + c 0) (v := 1)
      rw [show 1684 + (8 + c 0) = 1692 + c 0 by omega] at hd2
      have e2 : Eo (fun x k => (x = 101 ∧ k = 24) ∨ (x = 106 ∧ 1684 ≤ k ∧ k < 2105) ∨ (x = 108 ∧ 96 ≤ k ∧ k < 120)) τ (si τ 106 (1692 + c 0) (nI 1)) := Eo.si (Or.inr (Or.inl ⟨rfl, by omega, by omega⟩))
      have h2 := h1.city e2
      have hb2 : gi (si τ 106 (1692 + c 0) (nI 1)) 101 12 = nI 0 := by rw [gi_si_a (by decide)]; exact hb1
      rw [show si τ 106 (1692 + c 0) 1 = si τ 106 (1692 + c 0) (nI 1) from rfl]
      generalize si τ 106 (1692 + c 0) (nI 1) = σ2 at hd2 e2 h2 hb2 ⊢
      have e2' : Eo SDm τ σ2 := e2.mo (fun _ _ q => Or.inr q)
      have m10 : updC c (8 + c 0) 1 0 = c 0 := updC_n (by omega)
      have q2 : updC (updC c (8 + c 0) 1) 0 (c 0 + 1) 2 = c 2 := by rw [updC_n (by decide), updC_n (by omega)]
      have q3 : updC (updC c (8 + c 0) 1) 0 (c 0 + 1) 3 = c 3 := by rw [updC_n (by decide), updC_n (by omega)]
      have lst : ∀ (m : Nat → Nat) (σ3 : Sto) (t2 : TKn), RdM σ3 T n t2 → isTk T n q t2 → gi σ3 101 12 = nI 0 → DM σ3 m (nmU nm (c 0) v) (fun j => vN c j ∨ j = c 0) l → m 0 = c 0 → updC m 0 (c 0 + 1) 2 = c 2 → updC m 0 (c 0 + 1) 3 = c 3 → OM 12 SDm σ3 T n q (bS (exE T n (c 0) (updC m 0 (c 0 + 1)) t2) (fun c3 t3 => Sum.inr ((c3, nmU nm (c 0) v, l), t3))) (fun x τ => DrM τ x.1 x.2.1 x.2.2 → P τ) (fun _ τ => P τ) → w_X12_readThing_54 (nI (c 0)) σ3 P := fun m σ3 t2 h3 ht3 hb3 hd3 hm0 hm2 hm3 k3 => by
        refine m_ex (Q := fun _ _ => True) h3 ht3 hb3 hd3 hm0 z ⟨fun _ _ _ _ _ _ _ _ _ _ => trivial, fun c3 t3 hx τ7 e7 g12 h7 ht7 hd7 => ?_⟩
        refine (k3.nx hx e7).2 _ _ rfl τ7 Eo.rf g12 h7 ht7 (hd7.mo (fun j hj => ?_))
        have hx0 : c3 0 = c 0 + 1 ∧ c3 2 = c 2 ∧ c3 3 = c 3 := by
          by_cases y : isKw t2 2
          · rw [exE_1 y] at hx
            rw [← inr_i hx, updC_n (show (0 : Nat) ≠ 7 by decide), updC_n (show (2 : Nat) ≠ 7 by decide), updC_n (show (3 : Nat) ≠ 7 by decide), updC_s]
            exact ⟨rfl, hm2, hm3⟩
          · rw [exE_0 y] at hx
            rw [← inr_i hx, updC_s]
            exact ⟨rfl, hm2, hm3⟩
        exact vN_0 hj hx0.1 hx0.2.1 hx0.2.2
      rw [hb2, if_pos (show nI 0 = 0 from rfl)]
      refine t_isWorth h2.2.1 h2.2.2.1 (fun y => ?_) (fun y => ?_)
      · rw [if_neg one0]
        refine m_adv h2 (fun τ4 e4 h4 => ?_)
        have e4' : Eo SM0 σ2 τ4 := e4.mo (fun _ _ => STm0)
        have hb4 : gi τ4 101 12 = nI 0 := by rw [e4.1 _ _ (by unfold STm; omega)]; exact hb2
        have e24 : Eo SDm τ τ4 := e2'.tr (e4'.mo (fun _ _ => SDm0))
        refine m_nu (lo := 0) (hi := 99) h4 ht1.n1 hb4 (by decide) (by decide) ⟨fun e he e0 e7 v2 τ5 hv2 e5 g12 g13 => ?_, fun w t2 hw τ5 e5 hb5 h5 ht5 w0 w9 => ?_⟩
        · have e6 : Eo SDm τ5 (si τ5 106 (1692 + c 0) (nI v2)) := Eo.si (by have := SDmC (i := 8 + c 0) (by omega); rw [show 1684 + (8 + c 0) = 1692 + c 0 by omega] at this; exact this)
          have g12' : gi (si τ5 106 (1692 + c 0) (nI v2)) 101 12 = nI e.1 := by rw [gi_si_a (by decide)]; exact g12
          have g13' : gi (si τ5 106 (1692 + c 0) (nI v2)) 101 13 = nI e.2 := by rw [gi_si_a (by decide)]; exact g13
          exact fin e e0 e7 _ _ g12' (k1.ff ((woE_1 y).trans (bS_l he)) e0 e7 v2 _ hv2 ((e24.tr (e5.mo (fun _ _ => SDm0))).tr e6) g12' g13')
        · have k3 := k1.nx ((woE_1 y).trans (bS_r hw)) (e24.tr (e5.mo (fun _ _ => SDm0)))
          have hd5 := (hd2.eo e4').eo e5
          have hd6 := hd5.put (i := 8 + c 0) (v := w)
          rw [show 1684 + (8 + c 0) = 1692 + c 0 by omega] at hd6
          have e6 : Eo (fun x k => (x = 101 ∧ k = 24) ∨ (x = 106 ∧ 1684 ≤ k ∧ k < 2105) ∨ (x = 108 ∧ 96 ≤ k ∧ k < 120)) τ5 (si τ5 106 (1692 + c 0) (nI w)) := Eo.si (Or.inr (Or.inl ⟨rfl, by omega, by omega⟩))
          have hb6 : gi (si τ5 106 (1692 + c 0) (nI w)) 101 12 = nI 0 := by rw [gi_si_a (by decide)]; exact hb5
          have cm := updC_comm (c := updC c (8 + c 0) 1) (i := 0) (j := 8 + c 0) (v := c 0 + 1) (w := w) (by omega)
          have k4 := k3
          rw [cm] at k4
          refine lst _ _ t2 (h5.city e6) ht5 hb6 hd6 (by rw [updC_n (by omega)]; exact m10) ?_ ?_ ?_
          · rw [← cm, updC_n (by omega)]; exact q2
          · rw [← cm, updC_n (by omega)]; exact q3
          · exact ⟨fun e' he' h0 h7 v' τ' hv' e1' => k4.1 e' he' h0 h7 v' τ' hv' ((e6.mo (fun _ _ q => Or.inr q)).tr e1'), fun x' t' hx τ' e1' => k4.2 x' t' hx τ' ((e6.mo (fun _ _ q => Or.inr q)).tr e1')⟩
      · rw [if_pos rfl]
        exact lst _ σ2 t1 h2 ht1 hb2 hd2 m10 q2 q3 (k1.nx (woE_0 y) e2')
    · rw [if_neg (show ¬ cnt c 0 < 12 from z)] at hv
      cases hv
theorem m_rdVoter {σ : Sto} {T : Nat → Nat} {n q l : Nat} {c : Nat → Nat} {nm : Nat → Int64} {t : TKn} {P : Sto → Prop} (h : RdM σ T n t) (ht : isTk T n q t) (hb : gi σ 101 12 = nI 0) (hd : DrM σ c nm l) (hk : NmK c nm) (k : OM 12 SDm σ T n q (voterE T n c nm l t) (fun x τ => DrM τ x.1 x.2.1 x.2.2 → P τ) (fun _ τ => P τ)) : w_X12_readVoter σ P := by
  have k3 := hk.2.2.1
  have ec : cnt c 2 = c 3 := rfl
  have eg : grp 2 = 18 := rfl
  unfold w_X12_readVoter
  refine m_new (s := 2) (mo := 6) h ht hb hd hk (by decide) rfl ⟨fun e he e0 e7 v τ hv e1 g12 g13 => ?_, fun v t1 hv τ e1 hb1 h1 ht1 hd1 => ?_⟩
  · have he' : voterE T n c nm l t = Sum.inl e := by
      unfold voterE
      by_cases z : c 3 < 6
      · rw [if_pos (show cnt c 2 < 6 from z)] at he
        rw [if_pos z]; exact bS_l he
      · rw [if_neg (show ¬ cnt c 2 < 6 from z)] at he
        rw [if_neg z]
        cases he; rfl
    try dsimp only
    rw [g12, if_neg (nb0 e0 e7)]
    exact k.1 e he' e0 e7 v _ hv e1 g12 g13
  · by_cases z : c 3 < 6
    · rw [if_pos (show cnt c 2 < 6 from z)] at hv
      unfold voterE at k
      rw [if_pos z] at k
      have k1 := k.nx hv e1
      rw [ec, eg] at hd1
      try dsimp only
      have g3 : gi τ 106 1687 = nI (c 3) := hd1.1 3 (by decide)
      rw [hb1, if_pos (show nI 0 = 0 from rfl), g3, jI_inc]
      have hd2 : DM (si τ 106 1687 (nI (c 3 + 1))) (updC c 3 (c 3 + 1)) (nmU nm (18 + c 3) v) (fun j => vN c j ∨ j = 18 + c 3) l := hd1.put (i := 3)
      have e2 : Eo (fun x k => (x = 101 ∧ k = 24) ∨ (x = 106 ∧ 1684 ≤ k ∧ k < 2105) ∨ (x = 108 ∧ 96 ≤ k ∧ k < 120)) τ (si τ 106 1687 (nI (c 3 + 1))) := Eo.si (Or.inr (Or.inl ⟨rfl, by omega, by omega⟩))
      refine k1.2 _ _ rfl _ (e2.mo (fun _ _ q => Or.inr q)) (by rw [gi_si_a (by decide)]; exact hb1) (h1.city e2) ht1 (hd2.mo (fun j hj => ?_))
      unfold vN at hj ⊢
      dsimp only at hj
      rw [updC_n (show (0 : Nat) ≠ 3 by decide), updC_n (show (2 : Nat) ≠ 3 by decide), updC_s] at hj
      omega
    · rw [if_neg (show ¬ cnt c 2 < 6 from z)] at hv
      cases hv
theorem m_rdWork {σ : Sto} {T : Nat → Nat} {n q l : Nat} {c : Nat → Nat} {nm : Nat → Int64} {t : TKn} {P : Sto → Prop} (h : RdM σ T n t) (ht : isTk T n q t) (hb : gi σ 101 12 = nI 0) (hd : DrM σ c nm l) (hk : NmK c nm) (k : OM 12 SDm σ T n q (workE T n c nm l t) (fun x τ => DrM τ x.1 x.2.1 x.2.2 → P τ) (fun _ τ => P τ)) (kh : OH SDm σ T n q (workE T n c nm l t) (fun _ τ => P τ)) : w_X12_readWork σ P := by
  have k0 := hk.1
  have k2 := hk.2.1
  have ec : cnt c 1 = c 2 := rfl
  have eg : grp 1 = 12 := rfl
  have fin : ∀ e : Nat × Nat, e.1 ≠ 0 → e.1 ≤ 7 → ∀ x τ, gi τ 101 12 = nI e.1 → P τ → w_X12_readThings (-1) τ (fun r_8 σ_7 => (if (gi σ_7 101 12) ≤ 0 then vp_in (1736 + x) 2105 ∧ ∀ σ_11 : Sto, σ_11 = si σ_7 106 (tn (1736 + x)) r_8 → P (si σ_11 106 1686 ((gi σ_11 106 1686) + 1)) else P σ_7)) := fun e e0 e7 x τ g12 hp => by
    refine m_ths_bad g12 e0 e7 ?_
    rw [g12, if_neg (nble e0 e7)]
    exact hp
  unfold w_X12_readWork
  refine m_new (s := 1) (mo := 6) h ht hb hd hk (by decide) rfl ⟨fun e he e0 e7 v τ hv e1 g12 g13 => ?_, fun v t1 hv τ e1 hb1 h1 ht1 hd1 => ?_⟩
  · have he' : workE T n c nm l t = Sum.inl e := by
      unfold workE
      by_cases z : c 2 < 6
      · rw [if_pos (show cnt c 1 < 6 from z)] at he
        rw [if_pos z]; exact bS_l he
      · rw [if_neg (show ¬ cnt c 1 < 6 from z)] at he
        rw [if_neg z]
        cases he; rfl
    try dsimp only
    exact t_needsAny (m_must_bad g12 e7 e0 (fin e e0 e7 _ τ g12 (k.1 e he' e0 e7 v _ hv e1 g12 g13))) (m_must_bad g12 e7 e0 (fin e e0 e7 _ τ g12 (k.1 e he' e0 e7 v _ hv e1 g12 g13)))
  · by_cases z : c 2 < 6
    · rw [if_pos (show cnt c 1 < 6 from z)] at hv
      unfold workE at k kh
      rw [if_pos z] at k kh
      have k1 := k.nx hv e1
      have kh1 := kh.nx hv e1
      rw [ec, eg] at hd1
      try dsimp only
      rw [ec]
      refine m_mustk (i := 6) (w := fun Q => w_X12_isNeeds τ Q) (fun Q a b => t_isNeeds h1.2.1 h1.2.2.1 a b) h1 ht1 hb1 ⟨fun e he e0 e7 v2 τ2 hv2 e2 g12 g13 => ?_, fun _ t2 hq τ2 e2 hb2 h2 ht2 => ?_⟩
      · exact fin e e0 e7 _ τ2 g12 (k1.ff he e0 e7 0 τ2 (by decide) (e2.mo (fun _ _ => SDm0)) g12 g13)
      · have e2' : Eo SDm τ τ2 := e2.mo (fun _ _ => SDm0)
        have k2 := k1.nx hq e2'
        have kh2 := kh1.nx hq e2'
        have hd2 := hd1.eo e2
        have hnb : NB τ2 4 c nm := ⟨hd2.1 0 (by decide), hd2.1 2 (by decide), hd2.1 3 (by decide), fun k hk => by
          have := hd2.2.1 k (Or.inl hk)
          rw [nmU_n (by unfold vN at hk; omega)] at this
          exact this⟩
        have put : ∀ (s : Nat) (τ3 : Sto) (t3 : TKn), s < 4096 → Eo SM0 τ2 τ3 → gi τ3 101 12 = nI 0 → RdM τ3 T n t3 → (∀ τ4, Eo (fun x k => (x = 101 ∧ k = 24) ∨ (x = 106 ∧ 1684 ≤ k ∧ k < 2105) ∨ (x = 108 ∧ 96 ≤ k ∧ k < 120)) τ3 τ4 → DM τ4 (updC (updC c (52 + c 2) s) 2 (c 2 + 1)) (nmU nm (12 + c 2) v) (fun j => vN c j ∨ j = 12 + c 2) l → P τ4) → (if (gi τ3 101 12) ≤ 0 then vp_in (1736 + nI (c 2)) 2105 ∧ ∀ σ_11 : Sto, σ_11 = si τ3 106 (tn (1736 + nI (c 2))) (nI s) → P (si σ_11 106 1686 ((gi σ_11 106 1686) + 1)) else P τ3) := fun s τ3 t3 hs e3 hb3 h3 hp => by
          have hd3 := hd2.eo e3
          rw [hb3, if_pos (by decide), show (1736 : Int32) = nI 1736 from rfl, jI_add, tn_nI (by omega)]
          refine ⟨vp_nI (by omega) (by decide), ?_⟩
          rintro _ rfl
          have hd4 := hd3.put (i := 52 + c 2) (v := s)
          rw [show 1684 + (52 + c 2) = 1736 + c 2 by omega] at hd4
          have g2 : gi (si τ3 106 (1736 + c 2) (nI s)) 106 1686 = nI (c 2) := by
            have := hd4.1 2 (by decide)
            rw [updC_n (by omega)] at this
            exact this
          rw [g2, jI_inc]
          exact hp _ ((Eo.si (Or.inr (Or.inl ⟨rfl, by omega, by omega⟩))).tr (Eo.si (Or.inr (Or.inl ⟨rfl, by omega, by omega⟩)))) (hd4.put (i := 2) (v := c 2 + 1))
        refine m_ths (b := 99) h2 ht2 hb2 hnb hk (Or.inl ⟨rfl, rfl⟩) ⟨fun e he e0 e7 v3 τ3 hv3 e3 g12 g13 => ?_, fun s t3 hs τ3 e3 hb3 h3 ht3 s1 s2 => ?_⟩ (fun t3 he hg s τ3 hs e3 hb3 h3 ht3 => ?_)
        · try dsimp only
          rw [g12, if_neg (nble e0 e7)]
          exact k2.ff he e0 e7 0 τ3 (by decide) (e3.mo (fun _ _ => SDm0)) g12 g13
        · have k3 := k2.nx hs (e3.mo (fun _ _ => SDm0))
          have hs4 : s < 4096 := Nat.lt_of_lt_of_le s1 (Nat.pow_le_pow_right (n := 2) (by decide) k0)
          refine put s τ3 t3 hs4 e3 hb3 h3 (fun τ4 e4 hd4 => ?_)
          refine k3.2 _ _ rfl τ4 (e4.mo (fun _ _ q => Or.inr q)) (by rw [e4.1 _ _ (by omega)]; exact hb3) (h3.city e4) ht3 (hd4.mo (fun j hj => ?_))
          unfold vN at hj ⊢
          dsimp only at hj
          rw [updC_n (show (0 : Nat) ≠ 2 by decide), updC_n (show 0 ≠ 52 + c 2 by omega), updC_s, updC_n (show (3 : Nat) ≠ 2 by decide), updC_n (show 3 ≠ 52 + c 2 by omega)] at hj
          omega
        · refine put s τ3 t3 hs e3 hb3 h3 (fun τ4 e4 hd4 => ?_)
          exact kh2 t3 (bS_l he) hg 0 τ4 (by decide) ((e3.mo (fun _ _ => SDm0)).tr (e4.mo (fun _ _ q => Or.inr q))) (by rw [e4.1 _ _ (by omega)]; exact hb3) (h3.city e4) ht3
    · rw [if_neg (show ¬ cnt c 1 < 6 from z)] at hv
      cases hv
