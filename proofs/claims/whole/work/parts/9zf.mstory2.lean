/-! ===== texts: steps of centuries, read by the model ===== -/
def MS (σ : Sto) (y : YS) : Prop := gi σ 101 25 = nI y.2 ∧ MC σ y.1
theorem MS.eo {σ τ : Sto} {y : YS} (h : MS σ y) (e : Eo SM0 σ τ) : MS τ y := ⟨by rw [e.1 _ _ (by unfold SM0; omega)]; exact h.1, h.2.eo e⟩
/-- the loop over the steps of a when or loop, at depth d + 1 -/
def QS (T : Nat → Nat) (n : Nat) (c : Nat → Nat) (nm : Nat → Int64) (f : Nat) : Prop := ∀ (d r : Nat) (y : YS) (t : TKn) (σ : Sto) (w : Nat) (P : Sto → Prop), 3 ≤ r + d → d < 3 → RdM σ T n t → isTk T n (902 - f) t → gi σ 101 12 = nI 0 → MS σ y → NB σ 0 c nm → y.2 ≤ 30 →
  (∀ e, sqE T n c nm f (d + 1) y t = Sum.inl e → e.1 ≠ 0 → e.1 ≤ 7 → ∀ τ, Eo SMz σ τ → gi τ 101 12 = nI e.1 → gi τ 101 13 = nI e.2 → w_X12_readStep_169 (w_X12_readStep r) 1 (nI w) τ P) →
  (∀ z t', sqE T n c nm f (d + 1) y t = Sum.inr (z, t') → t'.1 = 0 → ∀ τ, Eo SMz σ τ → gi τ 101 12 = nI (fkF t' 2) → gi τ 101 13 = nI t'.2.1 → w_X12_readStep_169 (w_X12_readStep r) 1 (nI w) τ P) →
  (∀ z t', sqE T n c nm f (d + 1) y t = Sum.inr (z, t') → isKw t' 21 → ∀ τ, Eo SMz σ τ → RdM τ T n t' → isTk T n (902 - f) t' → gi τ 101 12 = nI 0 → MS τ z → z.2 ≤ 30 → w_X12_readStep_169 (w_X12_readStep r) 1 (nI w) τ P) →
  LpB (fun (K : Sto → Prop) s => w_X12_readStep_141 (w_X12_readStep r) K (nI d) 1 (nI w) s P) (f + 2) σ
theorem t_word_end {t : TKn} (h : t.1 = 0) : stpF t = 0 := by
  by_cases y : stpF t = 0
  · exact y
  · have := (stpF_kw y).1
    omega
theorem m_S {T : Nat → Nat} {n f : Nat} {c : Nat → Nat} {nm : Nat → Int64} (hk : NmK c nm) (hf : f < 902) (hQ : QS T n c nm f) {d r q : Nat} {y : YS} {t : TKn} {σ : Sto} {P : Sto → Prop} (hd : d ≤ 3) (hr : 4 ≤ r + d) (h : RdM σ T n t) (ht : isTk T n q t) (hq : 902 - f ≤ q + 1) (hb : gi σ 101 12 = nI 0) (hm : MS σ y) (hn : NB σ 0 c nm) (hs : y.2 ≤ 30)
    (kf : ∀ e, oneE T n c nm (sqE T n c nm f) d y t = Sum.inl e → e.1 ≠ 0 → e.1 ≤ 7 → ∀ τ, Eo SMz σ τ → gi τ 101 12 = nI e.1 → gi τ 101 13 = nI e.2 → P τ)
    (kk : ∀ z t', oneE T n c nm (sqE T n c nm f) d y t = Sum.inr (z, t') → ∀ τ, Eo SMz σ τ → RdM τ T n t' → isTk T n (902 - f) t' → gi τ 101 12 = nI 0 → MS τ z → z.2 ≤ 30 → P τ) : w_X12_readStep r (nI d) σ P := by
  have k0 := hk.1
  have h8 := stpF_le (t := t)
  obtain ⟨r', rfl⟩ : ∃ r', r = r' + 1 := ⟨r - 1, by omega⟩
  show w_X12_readStep_e (w_X12_readStep r') (nI d) σ P
  unfold w_X12_readStep_e
  have out82 : ∀ (e : Nat × Nat) (x2 x3 : Int32) (τ : Sto), oneE T n c nm (sqE T n c nm f) d y t = Sum.inl e → e.1 ≠ 0 → e.1 ≤ 7 → Eo SMz σ τ → gi τ 101 12 = nI e.1 → gi τ 101 13 = nI e.2 → w_X12_readStep_82 (w_X12_readStep r') (nI d) x2 x3 τ P := fun e x2 x3 τ he e0 e7 e1 g12 g13 => by
    unfold w_X12_readStep_82
    rw [g12, if_neg (nble e0 e7)]
    exact kf e he e0 e7 τ e1 g12 g13
  have out56 : ∀ (e : Nat × Nat) (x2 x3 : Int32) (τ : Sto), oneE T n c nm (sqE T n c nm f) d y t = Sum.inl e → e.1 ≠ 0 → e.1 ≤ 7 → Eo SMz σ τ → gi τ 101 12 = nI e.1 → gi τ 101 13 = nI e.2 → w_X12_readStep_56 (w_X12_readStep r') (nI d) x2 x3 τ P := fun e x2 x3 τ he e0 e7 e1 g12 g13 => by
    unfold w_X12_readStep_56
    rw [g12, if_neg (nb0 e0 e7)]
    exact out82 e x2 x3 τ he e0 e7 e1 g12 g13
  refine t_stepWord h.2.1 h.2.2.1 (fun z => ?_) (fun z => ?_)
  · -- a step's word
    generalize hx3 : (if stpF t = 6 ∨ stpF t = 7 then 1 else 0 : Nat) = b
    have go : w_X12_readStep_21 (w_X12_readStep r') (nI d) (nI (stpF t - 1)) (nI b) σ P := by
      unfold w_X12_readStep_21
      rw [if_pos (by rw [N0, jI_le (by decide) (by omega)]; omega)]
      unfold w_X12_readStep_30
      rw [hb, if_pos (show nI 0 = 0 from rfl), hm.1]
      by_cases z30 : y.2 = 30
      · rw [if_pos (by rw [z30]; rfl), h.2.1.1]
        refine m_fail hb (by decide) (fun _ τ e g12 g13 => ?_) (fun y => absurd rfl y)
        rw [show (6 : Int32) = nI 6 from rfl] at g12
        have eo : opE T n c nm d y t = Sum.inl (6, t.2.1) := (if_neg z).trans (if_pos z30)
        exact out56 (6, t.2.1) _ _ τ (bS_l eo) (show (6 : Nat) ≠ 0 by decide) (show (6 : Nat) ≤ 7 by decide) (e.mo (fun _ _ q => SMzy (SMy0 (SMf0 q)))) g12 g13
      rw [if_neg (by rw [show (30 : Int32) = nI 30 from rfl, jI_eq (by omega) (by decide)]; exact z30)]
      have main : ¬ ((stpF t = 6 ∨ stpF t = 7) ∧ d = 3) → w_X12_readStep_82 (w_X12_readStep r') (nI d) (nI (stpF t - 1)) (nI b) σ P := fun z7 => by
        have eo : opE T n c nm d y t = bS (reE T n c nm y.2 (stpF t - 1) (updC y.1 (144 + 9 * y.2) (stpF t - 1)) (nxF T n t)) (fun m t1 => bS (sgE T n 59 t1) (fun _ t2 => Sum.inr ((m, y.2 + 1), t2))) := (if_neg z).trans ((if_neg z30).trans (if_neg z7))
        unfold w_X12_readStep_82
        rw [hb, if_pos (by decide), hm.1, show (1828 : Int32) = nI 1828 from rfl, show (9 : Int32) = nI 9 from rfl, jI_mul, jI_add, jI_inc]
        rintro _ rfl
        have e1 : Eo (fun x k => SMw x k ∨ (x = 101 ∧ k = 25)) σ (si σ 101 25 (nI (y.2 + 1))) := Eo.si (Or.inr ⟨rfl, rfl⟩)
        have h1 := h.s25 e1
        have hb1 : gi (si σ 101 25 (nI (y.2 + 1))) 101 12 = nI 0 := by rw [gi_si_k (by decide)]; exact hb
        have hc1 : MC (si σ 101 25 (nI (y.2 + 1))) y.1 := fun j j1 j2 => by rw [gi_si_a (by decide)]; exact hm.2 j j1 j2
        have g25 : gi (si σ 101 25 (nI (y.2 + 1))) 101 25 = nI (y.2 + 1) := gi_si_s
        generalize si σ 101 25 (nI (y.2 + 1)) = σ1 at e1 h1 hb1 hc1 g25 ⊢
        refine m_adv h1 (fun τ e2 h2 => ?_)
        have e2' : Eo SM0 σ1 τ := e2.mo (fun _ _ => STm0)
        have hb2 : gi τ 101 12 = nI 0 := by rw [e2.1 _ _ (by unfold STm; omega)]; exact hb1
        have g25' : gi τ 101 25 = nI (y.2 + 1) := by rw [e2.1 _ _ (by unfold STm; omega)]; exact g25
        rw [tn_nI (by omega)]
        refine ⟨vp_nI (by omega) (by decide), ?_⟩
        have e3 : Eo SMw τ (si τ 106 (1828 + 9 * y.2) (nI (stpF t - 1))) := Eo.si ⟨rfl, by omega, by omega⟩
        have hc3 := (hc1.eo e2').put (i := 144 + 9 * y.2) (v := stpF t - 1)
        rw [show 1684 + (144 + 9 * y.2) = 1828 + 9 * y.2 by omega] at hc3
        have h3 := h2.sw e3
        have hb3 : gi (si τ 106 (1828 + 9 * y.2) (nI (stpF t - 1))) 101 12 = nI 0 := by rw [gi_si_a (by decide)]; exact hb2
        have g25'' : gi (si τ 106 (1828 + 9 * y.2) (nI (stpF t - 1))) 101 25 = nI (y.2 + 1) := by rw [gi_si_a (by decide)]; exact g25'
        have fr3 : Eo SMz σ (si τ 106 (1828 + 9 * y.2) (nI (stpF t - 1))) := ((e1.mo (fun _ _ q => by rcases q with q | q; exact SMzy (SMyw q); exact Or.inr q)).tr (e2'.mo (fun _ _ q => SMzy (SMy0 q)))).tr (e3.mo (fun _ _ q => SMzy (SMyw q)))
        generalize si τ 106 (1828 + 9 * y.2) (nI (stpF t - 1)) = σ3 at e3 hc3 h3 hb3 g25'' fr3 ⊢
        have hn3 : NB σ3 0 c nm := NB0.eo hk hn fr3
        -- what is written when the step is over
        have w191 : ∀ (m : Nat → Nat) (s2 : Nat) (τ' : Sto), MC τ' m → gi τ' 101 25 = nI s2 → (∀ τ2, Eo SMw τ' τ2 → MS τ2 (updC m (152 + 9 * y.2) s2, s2) → P τ2) → w_X12_readStep_191 (w_X12_readStep r') (nI (1828 + 9 * y.2)) τ' P := fun m s2 τ' hm' hg hp => by
          unfold w_X12_readStep_191
          rw [show (8 : Int32) = nI 8 from rfl, jI_add, show 1828 + 9 * y.2 + 8 = 1836 + 9 * y.2 by omega, tn_nI (by omega), hg]
          refine ⟨vp_nI (by omega) (by decide), hp _ (Eo.si ⟨rfl, by omega, by omega⟩) ⟨by rw [gi_si_a (by decide)]; exact hg, ?_⟩⟩
          have := hm'.put (i := 152 + 9 * y.2) (v := s2)
          rw [show 1684 + (152 + 9 * y.2) = 1836 + 9 * y.2 by omega] at this
          exact this
        have b191 : ∀ (e : Nat × Nat) (τ' : Sto), oneE T n c nm (sqE T n c nm f) d y t = Sum.inl e → e.1 ≠ 0 → e.1 ≤ 7 → Eo SMz σ τ' → gi τ' 101 12 = nI e.1 → gi τ' 101 13 = nI e.2 → w_X12_readStep_191 (w_X12_readStep r') (nI (1828 + 9 * y.2)) τ' P := fun e τ' he e0 e7 e1 g12 g13 => by
          unfold w_X12_readStep_191
          rw [show (8 : Int32) = nI 8 from rfl, jI_add, show 1828 + 9 * y.2 + 8 = 1836 + 9 * y.2 by omega, tn_nI (by omega)]
          have e4 : Eo SMw τ' (si τ' 106 (1836 + 9 * y.2) (gi τ' 101 25)) := Eo.si ⟨rfl, by omega, by omega⟩
          obtain ⟨f12, f13⟩ := flt_mw e4 g12 g13
          exact ⟨vp_nI (by omega) (by decide), kf e he e0 e7 _ (e1.tr (e4.mo (fun _ _ q => SMzy (SMyw q)))) f12 f13⟩
        have b169 : ∀ (e : Nat × Nat) (τ' : Sto), oneE T n c nm (sqE T n c nm f) d y t = Sum.inl e → e.1 ≠ 0 → e.1 ≤ 7 → Eo SMz σ τ' → gi τ' 101 12 = nI e.1 → gi τ' 101 13 = nI e.2 → w_X12_readStep_169 (w_X12_readStep r') (nI b) (nI (1828 + 9 * y.2)) τ' P := fun e τ' he e0 e7 e1 g12 g13 => by
          unfold w_X12_readStep_169
          have fin := b191 e τ' he e0 e7 e1 g12 g13
          by_cases zb : nI b = 0
          · rw [if_pos zb]; exact fin
          · rw [if_neg zb]
            have i2 : w_X12_isSign 59 τ' (fun r_27 σ_26 => w_X12_must r_27 σ_26 (fun σ_28 => w_X12_readStep_191 (w_X12_readStep r') (nI (1828 + 9 * y.2)) σ_28 P)) := t_signAny (m_must_bad g12 e7 e0 fin) (m_must_bad g12 e7 e0 fin)
            exact t_endAny (m_must_bad g12 e7 e0 i2) (m_must_bad g12 e7 e0 i2)
        have b141 : ∀ (e : Nat × Nat) (τ' : Sto), oneE T n c nm (sqE T n c nm f) d y t = Sum.inl e → e.1 ≠ 0 → e.1 ≤ 7 → Eo SMz σ τ' → gi τ' 101 12 = nI e.1 → gi τ' 101 13 = nI e.2 → Lp (fun (K : Sto → Prop) s => w_X12_readStep_141 (w_X12_readStep r') K (nI d) (nI b) (nI (1828 + 9 * y.2)) s P) τ' := fun e τ' he e0 e7 e1 g12 g13 => by
          refine (LpB.go (B := 0) (fun K hK => ?_)).lp
          unfold w_X12_readStep_141
          have fin := b169 e τ' he e0 e7 e1 g12 g13
          by_cases zb : nI b = 0
          · rw [if_pos zb]; exact fin
          · rw [if_neg zb, g12, if_neg (nb0 e0 e7)]; exact fin
        refine m_rest (r := stpF t - 1) h3 ht.n1 hb3 hc3 (by omega) updC_s (by omega) hn3 hk ⟨fun e he e0 e7 v τ4 hv e4 g12 g13 => ?_, fun m t1 hm' τ4 e4 hb4 h4 ht4 hc4 => ?_⟩
        · have he' : oneE T n c nm (sqE T n c nm f) d y t = Sum.inl e := bS_l (by rw [eo]; exact bS_l he)
          have fr4 : Eo SMz σ τ4 := fr3.tr (e4.mo (fun _ _ => SMzy))
          have fin := b141 e τ4 he' e0 e7 fr4 g12 g13
          exact t_signAny (m_must_bad g12 e7 e0 fin) (m_must_bad g12 e7 e0 fin)
        · have fr4 : Eo SMz σ τ4 := fr3.tr (e4.mo (fun _ _ => SMzy))
          have tf4 := ht4.f
          have g4 : gi τ4 101 25 = nI (y.2 + 1) := by rw [e4.1 _ _ (by unfold SMy SM0 SMw; omega)]; exact g25''
          refine m_mustsg (x := 59) h4 ht4 (by decide) hb4 ⟨fun e he e0 e7 v τ5 hv e5 g12 g13 => ?_, fun u t2 hu τ5 e5 hb5 h5 ht5 => ?_⟩
          · exact b141 e τ5 (bS_l (by rw [eo, bS_r hm']; exact bS_l he)) e0 e7 (fr4.tr (e5.mo (fun _ _ q => SMzy (SMy0 q)))) g12 g13
          · have fr5 : Eo SMz σ τ5 := fr4.tr (e5.mo (fun _ _ q => SMzy (SMy0 q)))
            have ho : opE T n c nm d y t = Sum.inr ((m, y.2 + 1), t2) := by rw [eo, bS_r hm', bS_r hu]
            have hc5 : MC τ5 m := hc4.eo e5
            have g5 : gi τ5 101 25 = nI (y.2 + 1) := by rw [e5.1 _ _ (by unfold SM0; omega)]; exact g4
            have ht5' : isTk T n (902 - f) t2 := ht5.mo (by omega)
            by_cases zb : stpF t = 6 ∨ stpF t = 7
            · have b1 : b = 1 := by rw [← hx3, if_pos zb]
              have e1b := oneE_b (rec := sqE T n c nm f) ho zb
              rw [b1] at b169 ⊢
              have hd3 : d < 3 := by
                rcases Nat.lt_or_ge d 3 with q | q
                · exact q
                · exact absurd ⟨zb, by omega⟩ z7
              refine (hQ d r' (m, y.2 + 1) t2 τ5 (1828 + 9 * y.2) P (by omega) hd3 h5 ht5' hb5 ⟨g5, hc5⟩ (NB0.eo hk hn fr5) (show y.2 + 1 ≤ 30 by omega) (fun e he e0 e7 τ6 e6 g12 g13 => ?_) (fun z t' hz hz0 τ6 e6 g12 g13 => ?_) (fun z t' hz hz21 τ6 e6 h6 ht6 hb6 hm6 hs6 => ?_)).lp
              · exact b169 e τ6 (by rw [e1b]; exact bS_l he) e0 e7 (fr5.tr e6) g12 g13
              · have ek : kwE T n 21 t' = Sum.inl (fkF t' 2, t'.2.1) := if_neg (fun q => by have := q.1; omega)
                exact b169 (fkF t' 2, t'.2.1) τ6 (by rw [e1b, bS_r hz]; exact bS_l ek) fk2.1 fk2.2 (fr5.tr e6) g12 g13
              · have ek : kwE T n 21 t' = Sum.inr ((), nxF T n t') := if_pos hz21
                have fr6 : Eo SMz σ τ6 := fr5.tr e6
                unfold w_X12_readStep_169
                rw [if_neg one0]
                have tf6 := ht6.n1.f
                refine m_mustk (i := 21) (w := fun Q => w_X12_isEnd τ6 Q) (fun Q a b => t_isEnd h6.2.1 h6.2.2.1 a b) h6 ht6 hb6 ⟨fun e he e0 e7 v τ7 hv e7' g12 g13 => ?_, fun _ t3 h3' τ7 e7 hb7 h7 ht7 => ?_⟩
                · rw [ek] at he; cases he
                · have et3 : t3 = nxF T n t' := by
                    rw [ek] at h3'
                    exact (congrArg Prod.snd (Sum.inr.inj h3')).symm
                  subst et3
                  have fr7 : Eo SMz σ τ7 := fr6.tr (e7.mo (fun _ _ q => SMzy (SMy0 q)))
                  have hm7 := hm6.eo e7
                  refine m_mustsg (x := 59) h7 ht7 (by decide) hb7 ⟨fun e he e0 e7 v τ8 hv e8 g12 g13 => ?_, fun u t4 h4' τ8 e8 hb8 h8' ht8 => ?_⟩
                  · exact b191 e τ8 (by rw [e1b, bS_r hz, bS_r ek]; exact bS_l he) e0 e7 (fr7.tr (e8.mo (fun _ _ q => SMzy (SMy0 q)))) g12 g13
                  · have fr8 : Eo SMz σ τ8 := fr7.tr (e8.mo (fun _ _ q => SMzy (SMy0 q)))
                    have hm8 := hm7.eo e8
                    refine w191 z.1 z.2 τ8 hm8.2 hm8.1 (fun τ9 e9 hm9 => ?_)
                    refine kk _ t4 (by rw [e1b, bS_r hz, bS_r ek]; exact bS_r h4') τ9 (fr8.tr (e9.mo (fun _ _ q => SMzy (SMyw q)))) (h8'.sw e9) (ht8.mo (by omega)) (by rw [e9.1 _ _ (by unfold SMw; omega)]; exact hb8) hm9 hs6
            · have b0 : b = 0 := by rw [← hx3, if_neg zb]
              have e1n := oneE_n (rec := sqE T n c nm f) ho zb
              rw [b0]
              refine (LpB.go (B := 0) (fun K hK => ?_)).lp
              unfold w_X12_readStep_141
              rw [if_pos (show nI 0 = 0 from rfl)]
              unfold w_X12_readStep_169
              rw [if_pos (show nI 0 = 0 from rfl)]
              refine w191 m (y.2 + 1) τ5 hc5 g5 (fun τ6 e6 hm6 => ?_)
              exact kk _ t2 e1n τ6 (fr5.tr (e6.mo (fun _ _ q => SMzy (SMyw q)))) (h5.sw e6) ht5' (by rw [e6.1 _ _ (by unfold SMw; omega)]; exact hb5) hm6 (show y.2 + 1 ≤ 30 by omega)
      unfold w_X12_readStep_56
      rw [hb, if_pos (show nI 0 = 0 from rfl)]
      by_cases zb : stpF t = 6 ∨ stpF t = 7
      · have b1 : b = 1 := by rw [← hx3, if_pos zb]
        rw [if_neg (by rw [b1]; decide)]
        by_cases z3 : d = 3
        · rw [if_pos (by rw [z3]; rfl), h.2.1.1]
          refine m_fail hb (by decide) (fun _ τ e g12 g13 => ?_) (fun y => absurd rfl y)
          rw [show (7 : Int32) = nI 7 from rfl] at g12
          have eo : opE T n c nm d y t = Sum.inl (7, t.2.1) := (if_neg z).trans ((if_neg z30).trans (if_pos ⟨zb, z3⟩))
          exact out82 (7, t.2.1) _ _ τ (bS_l eo) (show (7 : Nat) ≠ 0 by decide) (show (7 : Nat) ≤ 7 by decide) (e.mo (fun _ _ q => SMzy (SMy0 (SMf0 q)))) g12 g13
        · rw [if_neg (by rw [show (3 : Int32) = nI 3 from rfl, jI_eq (by omega) (by decide)]; exact z3)]
          exact main (fun q => z3 q.2)
      · have b0 : b = 0 := by rw [← hx3, if_neg zb]
        rw [if_pos (by rw [b0]; rfl)]
        exact main (fun q => zb q.1)
    by_cases z5 : stpF t = 6
    · have b1 : b = 1 := by rw [← hx3, if_pos (Or.inl z5)]
      rw [if_pos (by rw [z5]; rfl)]
      rw [b1] at go
      exact go
    rw [if_neg (by rw [show (5 : Int32) = nI 5 from rfl, jI_eq (by omega) (by decide)]; omega)]
    by_cases z6 : stpF t = 7
    · have b1 : b = 1 := by rw [← hx3, if_pos (Or.inr z6)]
      rw [if_pos (by rw [z6]; rfl)]
      rw [b1] at go
      exact go
    rw [if_neg (by rw [show (6 : Int32) = nI 6 from rfl, jI_eq (by omega) (by decide)]; omega)]
    have b0 : b = 0 := by rw [← hx3, if_neg (by omega)]
    rw [b0] at go
    exact go
  · rw [if_neg (show ¬ (-1 : Int32) = 5 by decide), if_neg (show ¬ (-1 : Int32) = 6 by decide)]
    have eo : opE T n c nm d y t = Sum.inl (fkF t 2, t.2.1) := if_pos z
    unfold w_X12_readStep_21
    rw [if_neg (show ¬ (0 : Int32) ≤ -1 by decide)]
    refine m_amiss h.2.1 h.2.2.1 hb (by decide) (fun _ τ e g12 g13 => ?_) (fun y => absurd rfl y)
    unfold w_X12_readStep_30
    rw [g12, if_neg (nb0 fk2.1 fk2.2)]
    exact out56 (fkF t 2, t.2.1) _ _ τ (bS_l eo) fk2.1 fk2.2 (e.mo (fun _ _ q => SMzy (SMy0 (SMf0 q)))) g12 g13
theorem m_Q {T : Nat → Nat} {n : Nat} {c : Nat → Nat} {nm : Nat → Int64} (hk : NmK c nm) : ∀ f, f ≤ 902 → QS T n c nm f
  | 0, _ => fun d r y t σ w P hr hd h ht hb hm hn hs kf k0 kE => absurd ht.f (fun q => by omega)
  | f + 1, hf => fun d r y t σ w P hr hd h ht hb hm hn hs kf k0 kE => by
    have hQ := m_Q (T := T) (n := n) hk f (by omega)
    refine LpB.go (B := f + 2) (fun K hK => ?_)
    have cx : ∀ (e : Nat) (τ : Sto), gi τ 101 12 = nI e → e ≠ 0 → e ≤ 7 → w_X12_readStep_169 (w_X12_readStep r) 1 (nI w) τ P → K τ := fun e τ g e0 e7 hp => hK τ (LpB.go (B := f + 1) (fun K' hK' => by
      unfold w_X12_readStep_141
      rw [if_neg one0, g, if_neg (nb0 e0 e7)]
      exact hp))
    unfold w_X12_readStep_141
    rw [if_neg one0, hb, if_pos (show nI 0 = 0 from rfl)]
    refine t_isEnd h.2.1 h.2.2.1 (fun z => ?_) (fun z => ?_)
    · rw [if_neg one0]
      exact kE y t (sqE_e (Or.inr z)) z σ Eo.rf h ht hb hm hs
    · rw [if_pos rfl, jI_inc]
      refine m_S hk (by omega) hQ (d := d + 1) (q := 902 - (f + 1)) (by omega) (by omega) h ht (by omega) hb hm hn hs (fun e he e0 e7 τ e1 g12 g13 => ?_) (fun z' t' hz τ e1 h1 ht1 hb1 hm1 hs1 => ?_)
      · by_cases z0 : t.1 = 0
        · have eo : opE T n c nm (d + 1) y t = Sum.inl (fkF t 2, t.2.1) := if_pos (t_word_end z0)
          have ee : e = (fkF t 2, t.2.1) := by
            have h' : oneE T n c nm (sqE T n c nm f) (d + 1) y t = Sum.inl (fkF t 2, t.2.1) := bS_l eo
            rw [h'] at he
            cases he; rfl
          rw [ee] at g12 g13
          exact cx _ τ g12 fk2.1 fk2.2 (k0 y t (sqE_e (Or.inl z0)) z0 τ e1 g12 g13)
        · exact cx _ τ g12 e0 e7 (kf e (by rw [sqE_s (by rintro (q | q); exact z0 q; exact z q)]; exact bS_l he) e0 e7 τ e1 g12 g13)
      · have z0 : t.1 ≠ 0 := fun q => by
          have eo : opE T n c nm (d + 1) y t = Sum.inl (fkF t 2, t.2.1) := if_pos (t_word_end q)
          have h' : oneE T n c nm (sqE T n c nm f) (d + 1) y t = Sum.inl (fkF t 2, t.2.1) := bS_l eo
          rw [h'] at hz
          cases hz
        have es := sqE_s (T := T) (n := n) (f := f) (d := d + 1) (c := c) (nm := nm) (y := y) (t := t) (by rintro (q | q); exact z0 q; exact z q)
        refine hK τ (hQ d r z' t' τ w P hr hd h1 ht1 hb1 hm1 (NB0.eo hk hn e1) hs1 (fun e he e0 e7 τ2 e2 g12 g13 => ?_) (fun zz tt hzz h0 τ2 e2 g12 g13 => ?_) (fun zz tt hzz h21 τ2 e2 h2 ht2 hb2 hm2 hs2 => ?_))
        · exact kf e (by rw [es, bS_r hz]; exact he) e0 e7 τ2 (e1.tr e2) g12 g13
        · exact k0 zz tt (by rw [es, bS_r hz]; exact hzz) h0 τ2 (e1.tr e2) g12 g13
        · exact kE zz tt (by rw [es, bS_r hz]; exact hzz) h21 τ2 (e1.tr e2) h2 (ht2.mo (by omega)) hb2 hm2 hs2
/-- the frame of centuries in the model -/
def SMx (a k : Nat) : Prop := (a = 101 ∧ ((8 ≤ k ∧ k ≤ 19) ∨ k = 0 ∨ k = 1 ∨ k = 25)) ∨ (a = 106 ∧ ((142 ≤ k ∧ k < 421) ∨ (1684 ≤ k ∧ k < 2105)))
theorem SMzx {a k : Nat} (h : SMz a k) : SMx a k := by unfold SMz SMy SM0 SMw at h; unfold SMx; omega
theorem m_ctS {T : Nat → Nat} {n : Nat} {c : Nat → Nat} {nm : Nat → Int64} {P : Int32 → Sto → Prop} (hk : NmK c nm) : ∀ f y t σ, f ≤ 902 → RdM σ T n t → isTk T n (902 - f) t → gi σ 101 12 = nI 0 → MS σ y → NB σ 0 c nm → y.2 ≤ 30 →
    (∀ e, bS (sqE T n c nm f 0 y t) (fun y t => if t.1 = 0 then Sum.inr (y, t) else Sum.inl (fkF t 2, t.2.1)) = Sum.inl e → e.1 ≠ 0 → e.1 ≤ 7 → ∀ τ, Eo SMz σ τ → gi τ 101 12 = nI e.1 → gi τ 101 13 = nI e.2 → w_X12_centuries_50 τ P) →
    (∀ z t', bS (sqE T n c nm f 0 y t) (fun y t => if t.1 = 0 then Sum.inr (y, t) else Sum.inl (fkF t 2, t.2.1)) = Sum.inr (z, t') → ∀ τ, Eo SMz σ τ → gi τ 101 12 = nI 0 → MS τ z → z.2 ≤ 30 → w_X12_centuries_50 τ P) →
    LpB (fun (K : Sto → Prop) s => w_X12_centuries_28 K s P) (f + 2) σ
  | 0, y, t, σ, hf, h, ht, hb, hm, hn, hs, kf, kk => absurd ht.f (fun q => by omega)
  | f + 1, y, t, σ, hf, h, ht, hb, hm, hn, hs, kf, kk => by
    have hQ := m_Q (T := T) (n := n) hk f (by omega)
    refine LpB.go (B := f + 2) (fun K hK => ?_)
    have cx : ∀ (e : Nat) (τ : Sto), gi τ 101 12 = nI e → e ≠ 0 → e ≤ 7 → w_X12_centuries_50 τ P → K τ := fun e τ g e0 e7 hp => hK τ (LpB.go (B := f + 1) (fun K' hK' => by
      unfold w_X12_centuries_28
      rw [g, if_neg (nb0 e0 e7)]
      exact hp))
    unfold w_X12_centuries_28
    rw [hb, if_pos (show nI 0 = 0 from rfl), h.2.1.2.2.1]
    by_cases z0 : t.1 = 0
    · rw [if_pos (by rw [z0]; rfl)]
      exact kk y t ((bS_r (sqE_e (Or.inl z0))).trans (if_pos z0)) σ Eo.rf hb hm hs
    · rw [if_neg (by rw [N0, jI_eq (by have := h.2.2.1.1; omega) (by decide)]; exact z0)]
      refine m_S hk (by omega) hQ (d := 0) (r := 16) (q := 902 - (f + 1)) (by decide) (by decide) h ht (by omega) hb hm hn hs (fun e he e0 e7 τ e1 g12 g13 => ?_) (fun z' t' hz τ e1 h1 ht1 hb1 hm1 hs1 => ?_)
      · by_cases z : isKw t 21
        · have eo : opE T n c nm 0 y t = Sum.inl (fkF t 2, t.2.1) := if_pos (by
            by_cases q : stpF t = 0
            · exact q
            · obtain ⟨q8, qk⟩ := stpF_is (rfl : stpF t = stpF t) q
              have q1 := qk.2.2
              rw [z.2.2] at q1
              have : ∀ k, k < 9 → k ≠ 0 → 21 + 1 ≠ skw k + 1 := by decide
              exact absurd q1 (this _ (by omega) q))
          have ee : e = (fkF t 2, t.2.1) := by
            have h' : oneE T n c nm (sqE T n c nm f) 0 y t = Sum.inl (fkF t 2, t.2.1) := bS_l eo
            rw [h'] at he
            cases he; rfl
          rw [ee] at g12 g13
          exact cx _ τ g12 fk2.1 fk2.2 (kf (fkF t 2, t.2.1) ((bS_r (sqE_e (Or.inr z))).trans (if_neg z0)) fk2.1 fk2.2 τ e1 g12 g13)
        · exact cx _ τ g12 e0 e7 (kf e (by rw [sqE_s (by rintro (q | q); exact z0 q; exact z q)]; exact bS_l (bS_l he)) e0 e7 τ e1 g12 g13)
      · have z : ¬ isKw t 21 := fun z => by
          have eo : opE T n c nm 0 y t = Sum.inl (fkF t 2, t.2.1) := if_pos (by
            by_cases q : stpF t = 0
            · exact q
            · obtain ⟨q8, qk⟩ := stpF_is (rfl : stpF t = stpF t) q
              have q1 := qk.2.2
              rw [z.2.2] at q1
              have : ∀ k, k < 9 → k ≠ 0 → 21 + 1 ≠ skw k + 1 := by decide
              exact absurd q1 (this _ (by omega) q))
          have h' : oneE T n c nm (sqE T n c nm f) 0 y t = Sum.inl (fkF t 2, t.2.1) := bS_l eo
          rw [h'] at hz
          cases hz
        have es := sqE_s (T := T) (n := n) (f := f) (d := 0) (c := c) (nm := nm) (y := y) (t := t) (by rintro (q | q); exact z0 q; exact z q)
        refine hK τ (m_ctS hk f z' t' τ (by omega) h1 ht1 hb1 hm1 (NB0.eo hk hn e1) hs1 (fun e he e0 e7 τ2 e2 g12 g13 => ?_) (fun zz tt hzz τ2 e2 hb2 hm2 hs2 => ?_))
        · exact kf e (by rw [es, bS_r hz]; exact he) e0 e7 τ2 (e1.tr e2) g12 g13
        · exact kk zz tt (by rw [es, bS_r hz]; exact hzz) τ2 (e1.tr e2) hb2 hm2 hs2
theorem m_centuries {σ : Sto} {c m0 : Nat → Nat} {nm : Nat → Int64} {T : Nat → Nat} {f : Nat} {x : Int32} {P : Int32 → Sto → Prop} (ok : OK c) (hmb : MB σ 0 c nm) (hk : NmK c nm) (hp : PM σ f T) (h0 : MC σ m0)
    (k5 : ¬ (¬ x < 0 ∧ ¬ nI f < x ∧ ¬ nI 300 < x) → ∀ τ, Eo SM σ τ → gi τ 101 0 = 5 → P (-1) τ)
    (k1 : ∀ n, x = nI n → n ≤ f → n ≤ 300 → ∀ y t', stA T n c nm m0 = Sum.inr (y, t') → y.2 ≤ 30 → ∀ τ, Eo SMx σ τ → MB τ 0 (csF c y) nm → gi τ 101 0 = 0 → gi τ 101 8 = 0 → gi τ 101 10 = 0 → gi τ 101 11 = -1 → P (nI y.2) τ)
    (k0 : ∀ n, x = nI n → n ≤ f → n ≤ 300 → ∀ e, stA T n c nm m0 = Sum.inl e → ∀ τ, Eo SMx σ τ → MB τ 0 c nm → gi τ 101 0 = 10 → gi τ 101 8 = 0 → gi τ 101 10 = nI e.1 → gi τ 101 11 = nI e.2 → P (-1) τ) : w_X12_centuries x σ P := by
  have hf := hp.2.1
  unfold w_X12_centuries
  have e0 : Eo SM σ (si (si σ 101 1 0) 101 0 0) := sm10
  have hp0 : PM (si (si σ 101 1 0) 101 0 0) f T := ⟨by rw [gi_si_k (by decide), gi_si_k (by decide)]; exact hp.1, hp.2.1, fun k hk => by rw [gi_si_a (by decide), gi_si_a (by decide)]; exact hp.2.2 k hk⟩
  have s0 : gi (si (si σ 101 1 0) 101 0 0) 101 0 = 0 := gi_si_s
  have e0x : Eo (fun a k => a = 101 ∧ (k = 0 ∨ k = 1)) σ (si (si σ 101 1 0) 101 0 0) := (Eo.si ⟨rfl, Or.inr rfl⟩).tr (Eo.si ⟨rfl, Or.inl rfl⟩)
  generalize si (si σ 101 1 0) 101 0 0 = σ0 at e0 hp0 s0 e0x ⊢
  refine m_starts (mo := 300) hp0 (by decide) (fun h1 h2 h3 n hx hn hn9 τ e s1 t8 b1 hR hI => ?_) (fun hx => ?_)
  · rw [if_neg one0]
    have e2 : Eo (fun x k => SMw x k ∨ (x = 101 ∧ k = 25)) τ (si τ 101 25 0) := Eo.si (Or.inr ⟨rfl, rfl⟩)
    have h3' := hR.s25 e2
    have ef : Eo (fun a k => a = 101 ∧ ((8 ≤ k ∧ k ≤ 19) ∨ k = 0 ∨ k = 1 ∨ k = 25)) σ (si τ 101 25 0) := ((e0x.mo (fun a k q => by omega)).tr (e.mo (fun a k q => by unfold SMs at q; omega))).tr (Eo.si (by omega))
    have hm : MS (si τ 101 25 0) (m0, 0) := ⟨by rw [gi_si_s]; rfl, fun j j1 j2 => by rw [ef.1 _ _ (by omega)]; exact h0 j j1 j2⟩
    have hn0 : NB (si τ 101 25 0) 0 c nm := ⟨by rw [ef.1 _ _ (by omega)]; exact hmb.1 0 (by decide), by rw [ef.1 _ _ (by omega)]; exact hmb.1 2 (by decide), by rw [ef.1 _ _ (by omega)]; exact hmb.1 3 (by decide), fun k hk => by rw [ef.2.1 _ _ (by omega)]; exact hmb.2 k hk⟩
    have hb : gi (si τ 101 25 0) 101 12 = nI 0 := by rw [gi_si_k (by decide)]; exact b1
    have g8 : gi (si τ 101 25 0) 101 8 = 0 := by rw [gi_si_k (by decide)]; exact t8
    have g0 : gi (si τ 101 25 0) 101 0 = 0 := by rw [gi_si_k (by decide), s1]; exact s0
    have fb : MB (si τ 101 25 0) 0 c nm := hmb.eo ok ef (fun k _ _ q => by omega) (fun k _ _ q => by omega)
    have ex : Eo SMx σ (si τ 101 25 0) := ef.mo (fun a k q => Or.inl q)
    generalize si τ 101 25 0 = σ3 at hm hn0 hb g8 g0 h3' fb ex ⊢
    refine (m_ctS hk 902 (m0, 0) (tokF T n 0) σ3 (Nat.le_refl _) h3' hI hb hm hn0 (Nat.zero_le _) (fun er he r0 r7 τ4 e4 q12 q13 => ?_) (fun y t' hy τ4 e4 q12 hm4 hs4 => ?_)).lp
    · unfold w_X12_centuries_50
      refine m_wells q12 r7 (fun q => absurd q r0) (fun _ τ5 e5 q10 q11 q0 => ?_)
      rw [if_pos rfl]
      have c5 : ∀ k, k < 421 → gi τ5 106 k = gi σ3 106 k := fun k hk => by rw [e5.1 _ _ (by omega), e4.1 _ _ (by unfold SMz SMy SM0 SMw; omega)]
      refine k0 n hx hn hn9 er he τ5 ((ex.tr (e4.mo (fun _ _ => SMzx))).tr (e5.mo (fun a k q => by unfold SMx; omega))) ⟨fun j hj => ?_, fun k hk' => ?_⟩ q0 ?_ q10 (by rw [q11, q13])
      · rw [c5 _ (by omega)]; exact fb.1 j hj
      · rw [e5.2.1 _ _ (by omega), e4.2.1 _ _ (by unfold SMz SMy SM0 SMw; omega)]; exact fb.2 k hk'
      · rw [e5.1 _ _ (by omega), e4.1 _ _ (by unfold SMz SMy SM0 SMw; omega)]; exact g8
    · unfold w_X12_centuries_50
      refine m_wells q12 (by decide) (fun _ τ5 e5 q10 q11 => ?_) (fun q => absurd rfl q)
      rw [if_neg one0]
      rintro _ rfl
      have g25 : gi τ5 101 25 = nI y.2 := by rw [e5.1 _ _ (by omega)]; exact hm4.1
      rw [gi_si_a (by decide), g25]
      have e6 : Eo (fun a k => a = 106 ∧ (k = 142 ∨ k = 143)) τ5 (si (si τ5 106 142 1) 106 143 (nI y.2)) := (Eo.si ⟨rfl, Or.inl rfl⟩).tr (Eo.si ⟨rfl, Or.inr rfl⟩)
      have q142 : gi (si (si τ5 106 142 1) 106 143 (nI y.2)) 106 142 = nI 1 := by rw [gi_si_k (by decide), gi_si_s]; rfl
      have q143 : gi (si (si τ5 106 142 1) 106 143 (nI y.2)) 106 143 = nI y.2 := gi_si_s
      generalize si (si τ5 106 142 1) 106 143 (nI y.2) = σ6 at e6 q142 q143 ⊢
      refine Lp_for (9 * y.2) (fun j q => q.1 = nI j ∧ Eo (fun a k => a = 106 ∧ 144 ≤ k ∧ k < 144 + 9 * y.2) σ6 q.2 ∧ ∀ i, i < j → gi q.2 106 (144 + i) = gi σ6 106 (1828 + i)) ⟨rfl, Eo.rf, fun i hi => absurd hi (Nat.not_lt_zero i)⟩ ?_ ?_
      · rintro j hj K ⟨x3, τ7⟩ ⟨r3, e7, hg⟩ hK
        dsimp only at r3 e7 hg hK ⊢
        subst r3
        have g25' : gi τ7 101 25 = nI y.2 := by rw [e7.1 _ _ (by omega), e6.1 _ _ (by omega)]; exact g25
        unfold w_X12_centuries_82
        rw [g25', show (9 : Int32) = nI 9 from rfl, jI_mul, if_neg (by rw [jI_le (by omega) (by omega)]; omega), show (1828 : Int32) = nI 1828 from rfl, show (144 : Int32) = nI 144 from rfl, jI_add, jI_add, tn_nI (by omega), tn_nI (by omega), jI_inc]
        refine ⟨vp_nI (by omega) (by decide), vp_nI (by omega) (by decide), ?_⟩
        rintro _ rfl
        refine hK _ ⟨rfl, e7.tr (Eo.si ⟨rfl, by omega, by omega⟩), fun i hi => ?_⟩
        dsimp only
        by_cases ei : i = j
        · rw [ei, gi_si_s, e7.1 _ _ (by omega)]
        · rw [gi_si_k (by omega)]; exact hg i (by omega)
      · rintro K ⟨x3, τ7⟩ ⟨r3, e7, hg⟩
        dsimp only at r3 e7 hg ⊢
        subst r3
        have g25' : gi τ7 101 25 = nI y.2 := by rw [e7.1 _ _ (by omega), e6.1 _ _ (by omega)]; exact g25
        unfold w_X12_centuries_82
        rw [g25', show (9 : Int32) = nI 9 from rfl, jI_mul, if_pos (by rw [jI_le (by omega) (by omega)]; omega)]
        have low : ∀ k, k < 142 ∨ 144 + 9 * y.2 ≤ k → k < 1684 → gi τ7 106 k = gi σ3 106 k := fun k hk1 hk2 => by
          rw [e7.1 _ _ (by omega), e6.1 _ _ (by omega), e5.1 _ _ (by omega), e4.1 _ _ (by unfold SMz SMy SM0 SMw; omega)]
        refine k1 n hx hn hn9 y t' hy hs4 τ7 ((((ex.tr (e4.mo (fun _ _ => SMzx))).tr (e5.mo (fun a k q => by unfold SMx; omega))).tr (e6.mo (fun a k q => by unfold SMx; omega))).tr (e7.mo (fun a k q => by unfold SMx; omega))) ⟨fun j hj => ?_, fun k hk' => ?_⟩ ?_ ?_ ?_ ?_
        · rw [Nat.mul_zero, Nat.zero_add]
          unfold csF
          by_cases j142 : j = 142
          · rw [if_pos j142, j142, e7.1 _ _ (by omega)]; exact q142
          rw [if_neg j142]
          by_cases j143 : j = 143
          · rw [if_pos j143, j143, e7.1 _ _ (by omega)]; exact q143
          rw [if_neg j143]
          by_cases jst : 144 ≤ j ∧ j < 144 + 9 * y.2
          · rw [if_pos jst]
            have := hg (j - 144) (by omega)
            rw [show 144 + (j - 144) = j by omega, show 1828 + (j - 144) = 1684 + j by omega] at this
            rw [this, e6.1 _ _ (by omega), e5.1 _ _ (by omega)]
            exact hm4.2 j jst.1 (by omega)
          · rw [if_neg jst, low j (by omega) (by omega)]
            have := fb.1 j hj
            rw [Nat.mul_zero, Nat.zero_add] at this
            exact this
        · have hk2 : vN c k := by
            unfold vN at hk' ⊢
            rw [csF_lo (by decide), csF_lo (by decide), csF_lo (by decide)] at hk'
            exact hk'
          rw [e7.2.1 _ _ (by omega), e6.2.1 _ _ (by omega), e5.2.1 _ _ (by omega), e4.2.1 _ _ (by unfold SMz SMy SM0 SMw; omega)]
          exact fb.2 k hk2
        · rw [e7.1 _ _ (by omega), e6.1 _ _ (by omega), e5.1 _ _ (by omega), e4.1 _ _ (by unfold SMz SMy SM0 SMw; omega)]; exact g0
        · rw [e7.1 _ _ (by omega), e6.1 _ _ (by omega), e5.1 _ _ (by omega), e4.1 _ _ (by unfold SMz SMy SM0 SMw; omega)]; exact g8
        · rw [e7.1 _ _ (by omega), e6.1 _ _ (by omega)]; exact q10
        · rw [e7.1 _ _ (by omega), e6.1 _ _ (by omega)]; exact q11
  · rw [if_pos rfl]
    exact k5 hx _ (e0.tr sm0) gi_si_s
