/-! ===== texts: lines of centuries, read by the class ===== -/
def SSt (a L d x k : Nat) : Prop := ST0 x k ∨ (a + 1 ≤ x ∧ x ≤ a + 5 ∧ L ≤ k) ∨ (x = a ∧ (k = 6 ∨ k = 7)) ∨ (x = 42 ∧ k = 2) ∨ (x = 43 ∧ d ≤ k)
theorem SSt0 {a L d x k : Nat} (h : ST0 x k) : SSt a L d x k := Or.inl h
theorem SStn {a L d x k : Nat} (h : SLn a L x k) : SSt a L d x k := by
  rcases h with h | h
  · exact Or.inl h
  · exact Or.inr (Or.inl ⟨h.1, h.2.1, by have := h.2.2; omega⟩)
theorem SStS {a L d x k : Nat} (h : ¬ ST0 x k → (a + 1 ≤ x ∧ x ≤ a + 5 ∧ L ≤ k) ∨ (x = a ∧ (k = 6 ∨ k = 7)) ∨ (x = 42 ∧ k = 2) ∨ (x = 43 ∧ d ≤ k)) : SSt a L d x k := by
  by_cases z : ST0 x k
  · exact Or.inl z
  · exact Or.inr (h z)
theorem SStm {a L L' d d' x k : Nat} (h : SSt a L' d' x k) (hL : L ≤ L') (hd : d ≤ d') : SSt a L d x k := by
  rcases h with h | h | h | h | h
  · exact Or.inl h
  · exact Or.inr (Or.inl ⟨h.1, h.2.1, by omega⟩)
  · exact Or.inr (Or.inr (Or.inl h))
  · exact Or.inr (Or.inr (Or.inr (Or.inl h)))
  · exact Or.inr (Or.inr (Or.inr (Or.inr ⟨h.1, by omega⟩)))
theorem CS.s6 {σ : Sto} {a b s L d s' : Nat} {nm : Nat → Int64} (h : CS σ a b nm s L d) : CS (si σ a 6 (nI s')) a b nm s' L d := by
  obtain ⟨h1, h2, h3, h4, h5, h6, h7, h8⟩ := h
  have ha := sty h1
  exact ⟨h1, h2, h3, h4, h5, by rw [gi_si_a (by omega)]; exact h6, gi_si_s, by rw [gi_si_k (by decide)]; exact h8⟩
theorem CS.s7 {σ : Sto} {a b s L d L' : Nat} {nm : Nat → Int64} (h : CS σ a b nm s L d) : CS (si σ a 7 (nI L')) a b nm s L' d := by
  obtain ⟨h1, h2, h3, h4, h5, h6, h7, h8⟩ := h
  have ha := sty h1
  exact ⟨h1, h2, h3, h4, h5, by rw [gi_si_a (by omega)]; exact h6, by rw [gi_si_k (by decide)]; exact h7, gi_si_s⟩
theorem CS.s2 {σ : Sto} {a b s L d d' : Nat} {nm : Nat → Int64} (h : CS σ a b nm s L d) : CS (si σ 42 2 (nI d')) a b nm s L d' := by
  obtain ⟨h1, h2, h3, h4, h5, h6, h7, h8⟩ := h
  have ha := sty h1
  exact ⟨h1, h2, h3, h4, h5, gi_si_s, by rw [gi_si_a (by omega)]; exact h7, by rw [gi_si_a (by omega)]; exact h8⟩
theorem CS.s43 {σ : Sto} {a b s L d k : Nat} {v : Int32} {nm : Nat → Int64} (h : CS σ a b nm s L d) : CS (si σ 43 k v) a b nm s L d := by
  obtain ⟨h1, h2, h3, h4, h5, h6, h7, h8⟩ := h
  have ha := sty h1
  exact ⟨h1, h2, h3, h4, h5, by rw [gi_si_a (by omega)]; exact h6, by rw [gi_si_a (by omega)]; exact h7, by rw [gi_si_a (by omega)]; exact h8⟩
theorem CS.ar {σ : Sto} {a b s L d i k : Nat} {v : Int32} {nm : Nat → Int64} (h : CS σ a b nm s L d) (hi : 1 ≤ i ∧ i ≤ 5) : CS (si σ (a + i) k v) a b nm s L d := by
  obtain ⟨h1, h2, h3, h4, h5, h6, h7, h8⟩ := h
  have ha := sty h1
  exact ⟨h1, h2, h3, h4, h5, by rw [gi_si_a (by omega)]; exact h6, by rw [gi_si_a (by omega)]; exact h7, by rw [gi_si_a (by omega)]; exact h8⟩
theorem skv : ∀ k, k < 9 → k ≠ 0 → skw k < 100 ∧ (skw k = 16 ↔ k = 6) ∧ (skw k = 20 ↔ k = 7) := by decide
theorem c_isStep {σ : Sto} {t : TKn} {P : Int32 → Sto → Prop} (h : TKC σ t) (hw : tokW t) (k1 : stpF t ≠ 0 → P 1 σ) (k0 : stpF t = 0 → P 0 σ) : w_X8_isStep σ P := by
  have hk := (c_kind h hw).2.2.2.2.2
  obtain ⟨-, -, -, a1, -⟩ := h
  have hle := kwF_le (v := t.2.2.2.1)
  have no : ¬ (t.1 = 1 ∧ t.2.2.2.2 ≤ 8 ∧ kwF t.2.2.2.1 ≠ 0) → P 0 σ := fun z => k0 (by
    by_cases y : stpF t = 0
    · exact y
    · exact absurd (stpF_kw y) z)
  unfold w_X8_isStep w_X8_isStep_35
  by_cases z : t.1 = 1 ∧ t.2.2.2.2 ≤ 8 ∧ kwF t.2.2.2.1 ≠ 0
  · rw [if_pos (hk.mpr z)]
    have h7 : gi σ 10 7 = nI (kwF t.2.2.2.1 - 1) := (((a1 z.1).1 z.2.1).2.2 z.2.2).2
    obtain ⟨i, hi⟩ : ∃ i, kwF t.2.2.2.1 = i + 1 := ⟨kwF t.2.2.2.1 - 1, by omega⟩
    have hz : isKw t i := ⟨z.1, z.2.1, hi⟩
    rw [hi, Nat.add_sub_cancel] at h7
    rw [h7, show (11 : Int32) = nI 11 from rfl, show (16 : Int32) = nI 16 from rfl, show (20 : Int32) = nI 20 from rfl, show (22 : Int32) = nI 22 from rfl]
    have yes : (i = 11 ∨ i = 12 ∨ i = 13 ∨ i = 14 ∨ i = 15 ∨ i = 16 ∨ i = 20 ∨ i = 22) → stpF t ≠ 0 := fun q y => by
      have := stpF_0 y (i := i + 1) (by omega)
      exact this ⟨z.1, z.2.1, hi⟩
    have nay : ¬ (i = 11 ∨ i = 12 ∨ i = 13 ∨ i = 14 ∨ i = 15 ∨ i = 16 ∨ i = 20 ∨ i = 22) → stpF t = 0 := fun q => by
      by_cases y : stpF t = 0
      · exact y
      · obtain ⟨y8, yk⟩ := stpF_is (rfl : stpF t = stpF t) y
        have e1 := yk.2.2
        rw [hi] at e1
        generalize stpF t = r at *
        rcases (show r = 1 ∨ r = 2 ∨ r = 3 ∨ r = 4 ∨ r = 5 ∨ r = 6 ∨ r = 7 ∨ r = 8 by omega) with rfl | rfl | rfl | rfl | rfl | rfl | rfl | rfl
        · have : skw 1 = 11 := rfl
          omega
        · have : skw 2 = 12 := rfl
          omega
        · have : skw 3 = 13 := rfl
          omega
        · have : skw 4 = 14 := rfl
          omega
        · have : skw 5 = 15 := rfl
          omega
        · have : skw 6 = 16 := rfl
          omega
        · have : skw 7 = 20 := rfl
          omega
        · have : skw 8 = 22 := rfl
          omega
    have eq : ∀ j, j < 100 → (nI i = nI j ↔ i = j) := fun j hj => jI_eq (by omega) (by omega)
    have tl : ¬ (11 ≤ i ∧ i ≤ 16) → if nI i = nI 20 then P 1 σ else if nI i = nI 22 then P 1 σ else P 0 σ := fun q => by
      by_cases y20 : i = 20
      · rw [if_pos (by rw [y20])]; exact k1 (yes (by omega))
      rw [if_neg (fun y => y20 ((eq 20 (by decide)).mp y))]
      by_cases y22 : i = 22
      · rw [if_pos (by rw [y22])]; exact k1 (yes (by omega))
      rw [if_neg (fun y => y22 ((eq 22 (by decide)).mp y))]
      exact k0 (nay (by omega))
    by_cases y11 : i < 11
    · rw [if_pos ((jI_lt (by omega) (by decide)).mpr y11)]
      exact tl (by omega)
    rw [if_neg (fun y => y11 ((jI_lt (by omega) (by decide)).mp y))]
    by_cases y16 : i ≤ 16
    · rw [if_pos ((jI_le (by omega) (by decide)).mpr y16)]
      exact k1 (yes (by omega))
    rw [if_neg (fun y => y16 ((jI_le (by omega) (by decide)).mp y))]
    exact tl (by omega)
  · rw [if_neg (fun q => z (hk.mp q))]
    exact no z
theorem c_op {σ : Sto} {T : Nat → Nat} {n q a b L d : Nat} {y : YS} {c : Nat → Nat} {nm : Nat → Int64} {t : TKn} {K : Int32 × Sto → Prop} {P : Int32 → Sto → Prop} (h : RdC σ T n t) (ht : isTk T n q t) (hc : CS σ a b nm y.2 L d) (hk : NmK c nm) (hL : y.2 < 30 → L < 60) (hd : d ≤ 3) (hs : y.2 ≤ 30) (m0 : y.1 0 = c 0) (m2 : y.1 2 = c 2)
    (kf : ∀ e, opE T n c nm d y t = Sum.inl e → ∀ τ, Eo (SSt a L d) σ τ → gi τ 10 9 = nI e.1 → gi τ 10 10 = nI e.2 → P 0 τ)
    (kk : ∀ m t2, opE T n c nm d y t = Sum.inr ((m, y.2 + 1), t2) → y.2 < 30 → ∀ τ, Eo (SSt a L d) σ τ → RdC τ T n t2 → isTk T n (q + 1) t2 → CS τ a b nm (y.2 + 1) (L + 1) (if stpF t = 6 ∨ stpF t = 7 then d + 1 else d) → ((stpF t = 6 ∨ stpF t = 7) → d < 3 ∧ gi τ 43 d = nI L) → stOK m (gi τ (a + 1)) (gi τ (a + 2)) (gi τ (a + 3)) (gi τ (a + 4)) y.2 L → K (nI (L + 1), τ)) :
    w_X8_beginStep σ (fun r_21 σ_20 => (if r_21 = 0 then w_X8_takes_89 K (nI L) 0 σ_20 P else w_X8_readStep σ_20 (fun r_31 σ_30 => (if r_31 = 0 then w_X8_takes_89 K (nI L) 0 σ_30 P else w_X8_takes_89 K (nI L) 1 σ_30 P)))) := by
  have ha := hc.1
  have hr := sty ha
  have f89 : ∀ τ, P 0 τ → w_X8_takes_89 K (nI L) 0 τ P := fun τ hp => by
    unfold w_X8_takes_89
    rw [if_pos rfl]
    exact hp
  unfold w_X8_beginStep
  refine c_isStep h.2.2.1 h.2.2.2.1 (fun z => ?_) (fun z => ?_)
  · obtain ⟨z8, zk⟩ := stpF_is (rfl : stpF t = stpF t) z
    have h4 : t.1 ≠ 4 := by rw [zk.1]; decide
    rw [if_neg one0, hc.2.2.1, hc.2.2.2.2.2.2.1]
    refine ⟨ha, ?_⟩
    by_cases z30 : y.2 = 30
    · rw [if_neg (by rw [show (30 : Int32) = nI 30 from rfl, jI_lt (by omega) (by decide)]; omega)]
      refine c_fail (f := 6) h.2.2.1 h.2.2.2.1 (fun τ e g9 g10 => ⟨Or.inl rfl, ?_⟩)
      try dsimp only
      rw [if_pos rfl]
      refine f89 τ (kf (6, t.2.1) ?_ τ (e.mo (fun _ _ q => SSt0 (STf0 q))) (by rw [g9, fk_1 h4]) g10)
      exact (if_neg z).trans (if_pos z30)
    · have hL := hL (by omega)
      rw [if_pos (by rw [show (30 : Int32) = nI 30 from rfl, jI_lt (by omega) (by decide)]; omega), jI_inc]
      rintro _ rfl
      have c1 := hc.s6 (s' := y.2 + 1)
      have e1 : Eo (fun x _ => (a ≤ x ∧ x ≤ a + 5) ∨ x = 42 ∨ x = 43) σ (si σ a 6 (nI (y.2 + 1))) := Eo.si (by omega)
      have f1 : Eo (SSt a L d) σ (si σ a 6 (nI (y.2 + 1))) := Eo.si (Or.inr (Or.inr (Or.inl ⟨rfl, Or.inl rfl⟩)))
      have h1 := h.story ha e1
      generalize si σ a 6 (nI (y.2 + 1)) = σ1 at c1 e1 f1 h1 ⊢
      have g7 : gi σ1 10 7 = nI (skw (stpF t)) := by
        have := (((h1.2.2.1.2.2.2.1 zk.1).1 zk.2.1).2.2 (by rw [zk.2.2]; omega)).2
        rw [this, zk.2.2, Nat.add_sub_cancel]
      -- then the step itself
      have rest : ∀ (dd : Nat) (τ : Sto), dd = (if stpF t = 6 ∨ stpF t = 7 then d + 1 else d) → ¬ ((stpF t = 6 ∨ stpF t = 7) ∧ d = 3) → ((stpF t = 6 ∨ stpF t = 7) → d < 3 ∧ gi τ 43 d = nI L) → Eo (SSt a L d) σ τ → RdC τ T n t → CS τ a b nm (y.2 + 1) L dd → w_X8_readStep τ (fun r_31 σ_30 => (if r_31 = 0 then w_X8_takes_89 K (nI L) 0 σ_30 P else w_X8_takes_89 K (nI L) 1 σ_30 P)) := fun dd τ hdd z7 hb fr hR hC => by
        have eo : opE T n c nm d y t = bS (reE T n c nm y.2 (stpF t - 1) (updC y.1 (144 + 9 * y.2) (stpF t - 1)) (nxF T n t)) (fun m t1 => bS (sgE T n 59 t1) (fun _ t2 => Sum.inr ((m, y.2 + 1), t2))) := (if_neg z).trans ((if_neg z30).trans (if_neg z7))
        refine c_rest hR ht hC hk hL z m0 m2 ⟨fun e he τ2 e2 g9 g10 => ?_, fun m t1 hm τ2 e2 h2 ht2 hst => ?_⟩
        · try dsimp only
          rw [if_pos rfl]
          exact f89 τ2 (kf e (by rw [eo]; exact bS_l he) τ2 (fr.tr (e2.mo (fun _ _ => SStn))) g9 g10)
        · try dsimp only
          rw [if_neg one0]
          unfold w_X8_takes_89
          rw [if_neg one0]
          have c2 := hC.eo e2
          have tf := ht2.f
          refine c_sg (x := 59) h2 ht2 (by decide) ⟨fun e he τ3 e3 g9 g10 => ?_, fun u t2 hu τ3 e3 h3 ht3 => ?_⟩
          · try dsimp only
            rw [if_pos rfl]
            exact kf e (by rw [eo, bS_r hm]; exact bS_l he) τ3 ((fr.tr (e2.mo (fun _ _ => SStn))).tr (e3.mo (fun _ _ => SSt0))) g9 g10
          · have c3 := c2.eo (e3.mo (fun _ _ q => SLn0 (a := a) (L := L) q))
            try dsimp only
            rw [if_neg one0, c3.2.2.1, c3.2.2.2.2.2.2.2, jI_inc]
            refine ⟨ha, ?_⟩
            rintro _ rfl
            have e4 : Eo (fun x _ => (a ≤ x ∧ x ≤ a + 5) ∨ x = 42 ∨ x = 43) τ3 (si τ3 a 7 (nI (L + 1))) := Eo.si (by omega)
            have f4 : Eo (SSt a L d) τ3 (si τ3 a 7 (nI (L + 1))) := Eo.si (Or.inr (Or.inr (Or.inl ⟨rfl, Or.inr rfl⟩)))
            have ar : ∀ i k, 1 ≤ i → i ≤ 5 → gi (si τ3 a 7 (nI (L + 1))) (a + i) k = gi τ2 (a + i) k := fun i k i1 i2 => by
              rw [gi_si_a (by omega), e3.1 _ _ (by unfold ST0; omega)]
            refine kk m t2 (by rw [eo, bS_r hm]; exact bS_r hu) (by omega) _ (((fr.tr (e2.mo (fun _ _ => SStn))).tr (e3.mo (fun _ _ => SSt0))).tr f4) (h3.story ha e4) (ht3.mo (by omega)) (by rw [← hdd]; exact c3.s7) (fun hz => ?_) (hst.cg (ar 1 L (by decide) (by decide)) (ar 2 L (by decide) (by decide)) (ar 3 L (by decide) (by decide)) (ar 4 L (by decide) (by decide)))
            refine ⟨(hb hz).1, ?_⟩
            rw [gi_si_a (by omega), e3.1 _ _ (by unfold ST0; omega), e2.1 _ _ (by unfold SLn ST0 SLw; omega)]
            exact (hb hz).2
      have b77 : (stpF t = 6 ∨ stpF t = 7) → w_X8_beginStep_77 σ1 (fun r_21 σ_20 => (if r_21 = 0 then w_X8_takes_89 K (nI L) 0 σ_20 P else w_X8_readStep σ_20 (fun r_31 σ_30 => (if r_31 = 0 then w_X8_takes_89 K (nI L) 0 σ_30 P else w_X8_takes_89 K (nI L) 1 σ_30 P)))) := fun hz => by
        unfold w_X8_beginStep_77
        rw [c1.2.2.2.2.2.1]
        by_cases z3 : d = 3
        · rw [if_neg (by rw [show (3 : Int32) = nI 3 from rfl, jI_lt (by omega) (by decide)]; omega)]
          refine c_fail (f := 7) h1.2.2.1 h1.2.2.2.1 (fun τ e g9 g10 => ⟨Or.inl rfl, ?_⟩)
          try dsimp only
          rw [if_pos rfl]
          refine f89 τ (kf (7, t.2.1) ?_ τ (f1.tr (e.mo (fun _ _ q => SSt0 (STf0 q)))) (by rw [g9, fk_1 h4]) g10)
          exact (if_neg z).trans ((if_neg z30).trans (if_pos ⟨hz, z3⟩))
        · rw [if_pos (by rw [show (3 : Int32) = nI 3 from rfl, jI_lt (by omega) (by decide)]; omega), c1.2.2.1, c1.2.2.2.2.2.2.2, tn_nI (by omega)]
          refine ⟨ha, vp_nI (by omega) (by decide), ?_⟩
          rintro _ rfl
          rw [gi_si_a (by decide), c1.2.2.2.2.2.1, jI_inc, if_neg one0]
          have e2 : Eo (fun x _ => (a ≤ x ∧ x ≤ a + 5) ∨ x = 42 ∨ x = 43) σ1 (si (si σ1 43 d (nI L)) 42 2 (nI (d + 1))) := (Eo.si (Or.inr (Or.inr rfl))).tr (Eo.si (Or.inr (Or.inl rfl)))
          have f2 : Eo (SSt a L d) σ1 (si (si σ1 43 d (nI L)) 42 2 (nI (d + 1))) := (Eo.si (Or.inr (Or.inr (Or.inr (Or.inr ⟨rfl, Nat.le_refl d⟩))))).tr (Eo.si (Or.inr (Or.inr (Or.inr (Or.inl ⟨rfl, rfl⟩)))))
          exact rest (d + 1) _ (by rw [if_pos hz]) (fun q => z3 q.2) (fun _ => ⟨by omega, by rw [gi_si_a (by decide), gi_si_s]⟩) (f1.tr f2) (h1.story ha e2) (c1.s43.s2)
      obtain ⟨w1, w2, w3⟩ := skv (stpF t) (by omega) z
      rw [g7]
      by_cases z6 : stpF t = 6
      · rw [if_pos (by rw [z6]; rfl)]
        exact b77 (Or.inl z6)
      rw [if_neg (by rw [show (16 : Int32) = nI 16 from rfl, jI_eq (by omega) (by decide)]; omega)]
      by_cases z7 : stpF t = 7
      · rw [if_pos (by rw [z7]; rfl)]
        exact b77 (Or.inr z7)
      rw [if_neg (by rw [show (20 : Int32) = nI 20 from rfl, jI_eq (by omega) (by decide)]; omega)]
      try dsimp only
      rw [if_neg one0]
      exact rest d σ1 (by rw [if_neg (by omega)]) (fun q => by omega) (fun q => by omega) f1 h1 c1
  · rw [if_pos rfl]
    refine c_fail (f := 2) h.2.2.1 h.2.2.2.1 (fun τ e g9 g10 => ⟨Or.inl rfl, ?_⟩)
    try dsimp only
    rw [if_pos rfl]
    exact f89 τ (kf (fkF t 2, t.2.1) (if_pos z) τ (e.mo (fun _ _ q => SSt0 (STf0 q))) g9 g10)
