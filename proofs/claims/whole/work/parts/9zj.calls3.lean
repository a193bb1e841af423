/-! ===== calls keep what holds: runs, marks, texts ===== -/
theorem nI_sj (v : Int32) : ∃ n, v = nI n := ⟨v.toUInt32.toNat, by
  apply Int32.toBitVec_inj.mp
  simp [nI]⟩
theorem Sm.kp {c d : Nat → Nat} (h : Sm c d) : KP c d := ⟨h 0 (by decide) (by decide) (by decide), h 2 (by decide) (by decide) (by decide), h 3 (by decide) (by decide) (by decide), fun j hj => h j (by omega) (by omega) (by omega)⟩
theorem inv_live {N : Nat} (hN : N ≤ 2000) {x : Int32} {σ : Sto} (h : INV N σ) {Q : Sto → Prop} (k : ∀ υ, INV N υ → Q υ) : w_X11_live x σ (fun r σ1 => w_X12_live x σ1 (fun r2 σ2 => if r = r2 then Q σ2 else False)) := by
  obtain ⟨c, nm, w, s, hc, hm⟩ := h
  have hnw := hc.nw
  unfold NWD at hnw
  obtain ⟨q1, h42, q3, h30, ln, q5, q6, hl⟩ := id hc.cf.2.2
  refine c_live hc.kw hc.1 hN hc.cf.2.2 (fun hi τ e hk hs => ?_) (fun hi h0 τ e hk hs => ?_) (fun n hn hn2 h0 τ e hk ok2 hsm ht hs htl => ?_)
  · have hc1 := hc.ask e hk hs
    have hm1 := hm.lo hc.1 hc.ww (SQlo e)
    refine m_live hm1.mr hc.1 h42 h30 hl (fun _ υ e2 hs2 => ?_) (fun hi2 _ υ e2 hs2 => absurd hi2 hi) (fun n hn hn2 _ υ e2 _ _ _ _ _ _ => absurd ⟨n, hn2, hn⟩ hi)
    rw [if_pos rfl]
    exact k υ ⟨c, nm, w, _, hc1.hi (SMhi e2), hm1.ask hc.1 hc.ww e2 hs2⟩
  · have hc1 := hc.ask e hk hs
    have hm1 := hm.lo hc.1 hc.ww (SQlo e)
    refine m_live hm1.mr hc.1 h42 h30 hl (fun hi2 υ e2 hs2 => absurd hi hi2) (fun _ _ υ e2 hs2 => ?_) (fun n hn hn2 h1 υ e2 _ _ _ _ _ _ => absurd h0 h1)
    rw [if_pos rfl]
    exact k υ ⟨c, nm, w, _, hc1.hi (SMhi e2), hm1.ask hc.1 hc.ww e2 hs2⟩
  · have hw2 : WW (w.1, w.2.1, w.2.2.1, (1, tlF (runF c n)), w.2.2.2.2) := ⟨hc.ww.1, Nat.le_refl 1, hc.ww.2.2⟩
    have hc1 := hc.re (w' := (w.1, w.2.1, w.2.2.1, (1, tlF (runF c n)), w.2.2.2.2)) e.2.2 ok2 hk hsm.kp (fun k => e.2.1 _ _ (by unfold SLi SLr SLa; omega)) (fun i k h8 h13 => e.1 _ _ (by unfold SLi SLr SLa; omega)) hw2
      (hc.co.reL hc.ww (fun a k q q2 => e.sme (by unfold PCO at q; unfold SLi SLr SLa; omega)) ⟨ht, fun _ => htl⟩) hs
    have hm1 := hm.lo hc.1 hc.ww (fun a k ha => e.sme (by unfold SLi SLr SLa; omega))
    refine m_live hm1.mr hc.1 h42 h30 hl (fun hi2 υ e2 hs2 => absurd ⟨n, hn2, hn⟩ hi2) (fun _ h1 υ e2 hs2 => absurd h1 h0) (fun n' hn' hn2' h1 υ e2 hr2 ok3 hsm2 ht2 hs2 htl2 => ?_)
    have en : n' = n := (jI_eq (by omega) (by omega)).mp (hn'.symm.trans hn)
    subst en
    rw [if_pos rfl]
    exact k υ ⟨_, nm, _, _, hc1.hi (e2.mo (fun a k q => by unfold SMi SML SM at q; omega)), hm1.re hr2 hsm2.kp (fun k => e2.2.1 _ _ (by unfold SMi SML SM; omega)) (hm1.mo.reL (zL := (1, tlF (runF c n'))) hc.ww (fun a k q q2 => e2.sme (by unfold PMO at q; unfold SMi SML SM; omega)) ⟨ht2, fun _ => htl2⟩) hs2⟩
theorem inv_mean {N : Nat} (hN : N ≤ 2000) {x y : Int32} {σ : Sto} (h : INV N σ) {Q : Sto → Prop} (k : ∀ υ, INV N υ → Q υ) : w_X11_mean x y σ (fun r σ1 => w_X12_mean x y σ1 (fun r2 σ2 => if r = r2 then Q σ2 else False)) := by
  obtain ⟨c, nm, w, s, hc, hm⟩ := h
  have hnw := hc.nw
  unfold NWD at hnw
  obtain ⟨q1, h42, q3, h30, ln, q5, q6, hl⟩ := id hc.cf.2.2
  refine c_mean hc.kw hc.1 hN hc.cf.2.2 (fun hi τ e hk hs => ?_) (fun hi h0 τ e hk hs => ?_) (fun n m hn hm1' hm2 hm3 hnm h0 τ e hk hs ht hb => ?_)
  · have hc1 := hc.ask e hk hs
    have hm1 := hm.lo hc.1 hc.ww (SQlo e)
    refine m_mean hm1.mr hc.1 h42 h30 hl (fun _ υ e2 hs2 => ?_) (fun hi2 _ υ e2 hs2 => absurd hi2 hi) (fun n m q1 q2 q3 q4 q5 _ υ e2 _ _ _ _ => absurd ⟨n, m, q1, q2, q3, q4, q5⟩ hi)
    rw [if_pos rfl]
    exact k υ ⟨c, nm, w, _, hc1.hi (SMhi e2), hm1.ask hc.1 hc.ww e2 hs2⟩
  · have hc1 := hc.ask e hk hs
    have hm1 := hm.lo hc.1 hc.ww (SQlo e)
    refine m_mean hm1.mr hc.1 h42 h30 hl (fun hi2 υ e2 hs2 => absurd hi hi2) (fun _ _ υ e2 hs2 => ?_) (fun n m q1 q2 q3 q4 q5 h1 υ e2 _ _ _ _ => absurd h0 h1)
    rw [if_pos rfl]
    exact k υ ⟨c, nm, w, _, hc1.hi (SMhi e2), hm1.ask hc.1 hc.ww e2 hs2⟩
  · have hc1 : IC N τ c nm (w.1, w.2.1, w.2.2.1, w.2.2.2.1, w.2.2.2.2.1, (lI (sumM c n m / Nat.gcd (sumM c n m) m), lI (m / Nat.gcd (sumM c n m) m)), w.2.2.2.2.2.2) _ := hc.re e.2.2 hc.1 hk KP.rf (fun k => e.2.1 _ _ (by unfold SLm SLr SLa; omega)) (fun i k h8 h13 => e.1 _ _ (by unfold SLm SLr SLa; omega)) hc.ww
      (hc.co.reF hc.ww (fun a k q q2 => e.sme (by unfold PCO at q; unfold SLm SLr SLa; omega)) ⟨ht, hb⟩) hs
    have hm1 := hm.lo hc.1 hc.ww (fun a k ha => e.sme (by unfold SLm SLr SLa; omega))
    refine m_mean hm1.mr hc.1 h42 h30 hl (fun hi2 υ e2 hs2 => absurd ⟨n, m, hn, hm1', hm2, hm3, hnm⟩ hi2) (fun _ h1 υ e2 hs2 => absurd h1 h0) (fun n' m' hn' hm1'' hm2' hm3' hnm' h1 υ e2 hr2 hs2 ht2 hb2 => ?_)
    have en : n' = n := (jI_eq (by omega) (by omega)).mp (hn'.symm.trans hn)
    have em : m' = m := (jI_eq (by omega) (by omega)).mp (hm1''.symm.trans hm1')
    subst en em
    rw [if_pos rfl]
    exact k υ ⟨c, nm, _, _, hc1.hi (e2.mo (fun a k q => by unfold SMu SMe SML SM at q; omega)), hm1.re hr2 KP.rf (fun k => e2.2.1 _ _ (by unfold SMu SMe SML SM; omega)) (hm1.mo.reF (zF := (lI (sumM c n' m' / Nat.gcd (sumM c n' m') m'), lI (m' / Nat.gcd (sumM c n' m') m'))) hc.ww (fun a k q q2 => e2.sme (by unfold PMO at q; unfold SMu SMe SML SM; omega)) ⟨ht2, hb2⟩) hs2⟩
def mkU (ms : MKt) (c : Nat → Nat) (nm : Nat → Int64) : MKt := (ms.1 + 1, fun i => if i = ms.1 then (c, nm) else ms.2 i)
theorem mkU_n {ms : MKt} {c : Nat → Nat} {nm : Nat → Int64} {i : Nat} (h : i ≠ ms.1) : (mkU ms c nm).2 i = ms.2 i := if_neg h
theorem mkU_s {ms : MKt} {c : Nat → Nat} {nm : Nat → Int64} : (mkU ms c nm).2 ms.1 = (c, nm) := if_pos rfl
theorem inv_mark {N : Nat} {σ : Sto} (h : INV N σ) {Q : Sto → Prop} (k : ∀ υ, INV N υ → Q υ) : w_X11_mark σ (fun r σ1 => w_X12_mark σ1 (fun r2 σ2 => if r = r2 then Q σ2 else False)) := by
  obtain ⟨c, nm, w, s, hc, hm⟩ := h
  have hnw := hc.nw
  unfold NWD at hnw
  refine c_mark hc.kw hc.1 (by omega) hc.cf hc.co.2.2.1.1 hc.ww.1.1 (fun h3 τ e hk hf hmk hs => ?_) (fun h3 τ e hk hs => ?_)
  · have hw2 : WW (w.1, w.2.1, mkU w.2.2.1 c nm, w.2.2.2) := by
      refine ⟨⟨h3, fun i hi => ?_⟩, hc.ww.2.1, hc.ww.2.2⟩
      by_cases q : i = w.2.2.1.1
      · show OK ((mkU w.2.2.1 c nm).2 i).1 ∧ NmK ((mkU w.2.2.1 c nm).2 i).1 ((mkU w.2.2.1 c nm).2 i).2
        rw [q, mkU_s]
        exact ⟨hc.1, hc.2.1⟩
      · show OK ((mkU w.2.2.1 c nm).2 i).1 ∧ NmK ((mkU w.2.2.1 c nm).2 i).1 ((mkU w.2.2.1 c nm).2 i).2
        rw [mkU_n q]
        exact hc.ww.1.2 i (by have : i < w.2.2.1.1 + 1 := hi; omega)
    have hc1 := hc.re e.2.2 hc.1 hk KP.rf (fun k => e.2.1 _ _ (by unfold SMk SCi; omega)) (fun i k h8 h13 => e.1 _ _ (by unfold SMk SCi; omega)) hw2
      (hc.co.reK hc.ww (fun a k q q2 => e.sme (by unfold PCO at q; unfold SMk SCi; omega)) ⟨hmk, fun i hi => by
        by_cases q : i = w.2.2.1.1
        · rw [q, mkU_s]; exact hf
        · rw [mkU_n q]
          have hi2 : i < w.2.2.1.1 + 1 := hi
          exact (hc.co.2.2.1.2 i (by omega)).sm (fun j k hj => e.sme (by unfold SMk SCi; omega))⟩) hs
    have hm1 := hm.lo hc.1 hc.ww (fun a k ha => e.sme (by unfold SMk SCi; omega))
    refine m_mark hc.1 hm1.1 hm1.mo.2.2.1.1 hc.ww.1.1 (fun _ υ e2 hf2 hmk2 hs2 => ?_) (fun q => absurd h3 q)
    rw [if_pos rfl]
    refine k υ ⟨c, nm, _, _, hc1.hi (e2.mo (fun a k q => by unfold SMm SBl at q; omega)), hm1.1.sm hc.1 (fun k q1 q2 => e2.sme (by unfold SMm SBl; omega)) (fun k q1 q2 => e2.sme (by unfold SMm SBl; omega)), hs2, hm1.mo.reK (zK := mkU w.2.2.1 c nm) hc.ww (fun a k q q2 => e2.sme (by unfold PMO at q; unfold SMm SBl; have := hc.ww.1.1; omega)) ⟨hmk2, fun i hi => ?_⟩⟩
    by_cases q : i = w.2.2.1.1
    · rw [q, mkU_s]; exact hf2
    · rw [mkU_n q]
      have hi2 : i < w.2.2.1.1 + 1 := hi
      exact (hm1.mo.2.2.1.2 i (by omega)).sm (hc.ww.1.2 i (by omega)).1 (fun k q1 q2 => e2.sme (by unfold SMm SBl; omega)) (fun k q1 q2 => e2.sme (by unfold SMm SBl; omega))
  · have hc1 := hc.ask e hk hs
    have hm1 := hm.lo hc.1 hc.ww (SQlo e)
    refine m_mark hc.1 hm1.1 hm1.mo.2.2.1.1 hc.ww.1.1 (fun q => absurd q h3) (fun _ υ e2 hs2 => ?_)
    rw [if_pos rfl]
    exact k υ ⟨c, nm, w, _, hc1.hi (SMhi e2), hm1.ask hc.1 hc.ww e2 hs2⟩
theorem IC.up {N : Nat} {σ : Sto} {c : Nat → Nat} {nm : Nat → Int64} {w : Wd} {s : Int32} (h : IC N σ c nm w s) : IC (N + 1) σ c nm w s := ⟨h.1, h.2.1, h.2.2.1, h.kw.mono (Nat.le_succ N), h.2.2.2.2⟩
theorem nn0 {n : Nat} (h : n < 2147483648) : ¬ nI n < 0 := by
  rw [N0, jI_lt h (by decide)]
  omega
theorem nlt {n f : Nat} (h : n ≤ f) (hf : f < 2147483648) : ¬ nI f < nI n := by
  rw [jI_lt hf (by omega)]
  omega
theorem inv_back {N : Nat} (hN : N ≤ 2000) {σ : Sto} (h : INV N σ) {Q : Sto → Prop} (k : ∀ υ, INV (N + 1) υ → Q υ) : w_X11_back σ (fun r σ1 => w_X12_back σ1 (fun r2 σ2 => if r = r2 then Q σ2 else False)) := by
  obtain ⟨c, nm, w, s, hc, hm⟩ := h
  have hnw := hc.nw
  unfold NWD at hnw
  have h3 := hc.ww.1.1
  have hok : 0 < w.2.2.1.1 → OK (w.2.2.1.2 (w.2.2.1.1 - 1)).1 := fun q => (hc.ww.1.2 _ (by omega)).1
  refine c_back hc.kw hN (by omega) hc.co.2.2.1.1 h3 hok (fun q => hc.co.2.2.1.2 _ (by omega)) (fun h0 τ e hk hf hmk hs => ?_) (fun h0 τ e hk hs => ?_)
  · have hw2 : WW (w.1, w.2.1, (w.2.2.1.1 - 1, w.2.2.1.2), w.2.2.2) := ⟨⟨show w.2.2.1.1 - 1 ≤ 3 by omega, fun i hi => hc.ww.1.2 i (by have : i < w.2.2.1.1 - 1 := hi; omega)⟩, hc.ww.2.1, hc.ww.2.2⟩
    have hc1 : IC (N + 1) τ (w.2.2.1.2 (w.2.2.1.1 - 1)).1 (w.2.2.1.2 (w.2.2.1.1 - 1)).2 (w.1, w.2.1, (w.2.2.1.1 - 1, w.2.2.1.2), w.2.2.2) 0 := by
      refine ⟨hok h0, (hc.ww.1.2 _ (by omega)).2, hw2, hk, ?_, ?_, hs, ?_⟩
      · unfold NWD
        rw [e.2.2, e.2.2]
        exact hnw
      · rw [e.2.2]; exact hf
      · exact hc.co.reK hc.ww (fun a k q q2 => e.sme (by unfold PCO at q; unfold SBk SCi STn; omega)) ⟨hmk, fun i hi => (hc.co.2.2.1.2 i (by have : i < w.2.2.1.1 - 1 := hi; omega)).sm (fun j k hj => e.sme (by have : i < w.2.2.1.1 - 1 := hi; unfold SBk SCi STn; omega))⟩
    have hm1 := hm.lo hc.1 hc.ww (fun a k ha => e.sme (by unfold SBk SCi STn; omega))
    refine m_back hm1.mo.2.2.1.1 h3 hok (fun q => ?_) (fun _ υ e2 hf2 hmk2 hs2 => ?_) (fun q => absurd h0 q)
    · have := hm1.mo.2.2.1.2 (w.2.2.1.1 - 1) (by omega)
      rw [show w.2.2.1.1 - 1 + 1 = w.2.2.1.1 by omega] at this
      exact this
    · rw [if_pos rfl]
      refine k υ ⟨_, _, _, _, hc1.hi (e2.mo (fun a k q => by unfold SMm SBl at q; omega)), hf2, hs2, hm1.mo.reK (zK := (w.2.2.1.1 - 1, w.2.2.1.2)) hc.ww (fun a k q q2 => e2.sme (by unfold PMO at q; unfold SMm SBl; omega)) ⟨hmk2, fun i hi => ?_⟩⟩
      have hi2 : i < w.2.2.1.1 - 1 := hi
      exact (hm1.mo.2.2.1.2 i (by omega)).sm (hc.ww.1.2 i (by omega)).1 (fun k q1 q2 => e2.sme (by unfold SMm SBl; omega)) (fun k q1 q2 => e2.sme (by unfold SMm SBl; omega))
  · have hc1 := hc.ask e hk hs
    have hm1 := hm.lo hc.1 hc.ww (SQlo e)
    refine m_back hm1.mo.2.2.1.1 h3 hok (fun q => absurd q h0) (fun q => absurd q h0) (fun _ υ e2 hs2 => ?_)
    rw [if_pos rfl]
    exact k υ ⟨c, nm, w, _, (hc1.up).hi (SMhi e2), hm1.ask hc.1 hc.ww e2 hs2⟩
theorem PC.none {σ : Sto} {T : Nat → Nat} (h : gi σ 10 2 = 0) : PC σ 0 T := ⟨h, by decide, fun k hk => absurd hk (Nat.not_lt_zero k)⟩
theorem PM.none {σ : Sto} {T : Nat → Nat} (h : gi σ 101 8 = 0) : PM σ 0 T := ⟨h, by decide, fun k hk => absurd hk (Nat.not_lt_zero k)⟩
theorem inv_city {N : Nat} (hN : N ≤ 2000) {x : Int32} {σ : Sto} (h : INV N σ) {Q : Sto → Prop} (k : ∀ υ, INV (N + 1) υ → Q υ) : w_X11_city x σ (fun r σ1 => w_X12_city x σ1 (fun r2 σ2 => if r = r2 then Q σ2 else False)) := by
  obtain ⟨c, nm, w, s, hc, hm⟩ := h
  have hnw := hc.nw
  unfold NWD at hnw
  have hf := hc.co.2.1.2.1
  refine c_city hc.kw hN hc.nw hc.co.2.1 hc.co.2.2.2.2.2.2.2 (fun h5 => ?_) (fun n hn hnf y t' hy τ e hd hk hcf h11 h12 hs h2 h18 h19 => ?_) (fun n hn hnf er her τ e hk hs h2 h18 h19 => ?_)
  · have e : Eo SQ σ (si σ 1 15 5) := Eo.si (by unfold SQ; omega)
    have hc1 := hc.ask (s' := 5) e hc.kw.st gi_si_s
    have hm1 := hm.lo hc.1 hc.ww (SQlo e)
    refine m_city hm1.mo.2.1 (fun _ υ e2 hs2 => ?_) (fun n hn hnf => absurd ⟨?_, ?_⟩ h5) (fun n hn hnf => absurd ⟨?_, ?_⟩ h5)
    · rw [if_pos rfl]
      exact k υ ⟨c, nm, w, _, (hc1.up).hi (SMhi e2), hm1.ask hc.1 hc.ww e2 hs2⟩
    all_goals first | (rw [hn]; exact nn0 (by omega)) | (rw [hn]; exact nlt (by omega) (by omega))
  · have hc1 : IC (N + 1) τ y.1 y.2.1 (w.1, (0, w.2.1.2), w.2.2.1, w.2.2.2.1, w.2.2.2.2.1, w.2.2.2.2.2.1, (0, -1)) 0 := by
      refine ⟨hd.1, hd.2.1, hc.ww, hk, ?_, ?_, hs, ?_⟩
      · unfold NWD
        rw [h11, h12]
        omega
      · rw [h11]; exact hcf
      · exact hc.co.rePX hc.ww (fun a k q q2 => e.sme (by unfold PCO at q; unfold SCt SCi STn; omega)) (PC.none h2) ⟨h18, h19⟩
    have hm1 := hm.lo hc.1 hc.ww (fun a k ha => e.sme (by unfold SCt SCi STn; omega))
    refine m_city hm1.mo.2.1 (fun q => absurd ⟨?_, ?_⟩ q) (fun n' hn' hnf' y' t'' hy' υ e2 hd2 hb2 hs2 h82 h102 h112 => ?_) (fun n' hn' hnf' er her => ?_)
    · rw [hn]; exact nn0 (by omega)
    · rw [hn]; exact nlt (by omega) (by omega)
    · have en : n' = n := (jI_eq (by omega) (by omega)).mp (hn'.symm.trans hn)
      rw [en, hy] at hy'
      have ey : y = y' := congrArg Prod.fst (Sum.inr.inj hy')
      rw [← ey] at hb2 ⊢
      rw [if_pos rfl]
      exact k υ ⟨_, _, _, _, hc1.hi (e2.mo (fun a k q => by unfold SMc at q; omega)), hb2, hs2, hm1.mo.rePX (zP := (0, w.2.1.2)) (zX := (0, -1)) hc.ww (fun a k q q2 => e2.sme (by unfold PMO at q; unfold SMc; omega)) (PM.none h82) ⟨h102, h112⟩⟩
    · have en : n' = n := (jI_eq (by omega) (by omega)).mp (hn'.symm.trans hn)
      rw [en, hy] at her
      cases her
  · have hc1 : IC N τ c nm (w.1, (0, w.2.1.2), w.2.2.1, w.2.2.2.1, w.2.2.2.2.1, w.2.2.2.2.2.1, (nI er.1, nI er.2)) 10 := by
      have h11 := e.2.2 1 11 (by unfold RTa; omega)
      have h12 := e.2.2 1 12 (by unfold RTa; omega)
      refine ⟨hc.1, hc.2.1, hc.ww, hk, ?_, ?_, hs, ?_⟩
      · unfold NWD
        rw [h11, h12]
        exact hnw
      · rw [h11]
        exact hc.cf.sm (fun i k hi => e.sme (by unfold SCt SCi STn; omega))
      · exact hc.co.rePX hc.ww (fun a k q q2 => e.sme (by unfold PCO at q; unfold SCt SCi STn; omega)) (PC.none h2) ⟨h18, h19⟩
    have hm1 := hm.lo hc.1 hc.ww (fun a k ha => e.sme (by unfold SCt SCi STn; omega))
    refine m_city hm1.mo.2.1 (fun q => absurd ⟨?_, ?_⟩ q) (fun n' hn' hnf' y' t'' hy' => ?_) (fun n' hn' hnf' er2 her2 υ e2 h6 h8 hs2 h82 h102 h112 => ?_)
    · rw [hn]; exact nn0 (by omega)
    · rw [hn]; exact nlt (by omega) (by omega)
    · have en : n' = n := (jI_eq (by omega) (by omega)).mp (hn'.symm.trans hn)
      rw [en, her] at hy'
      cases hy'
    · have en : n' = n := (jI_eq (by omega) (by omega)).mp (hn'.symm.trans hn)
      rw [en, her] at her2
      have ee : er = er2 := Sum.inl.inj her2
      rw [← ee] at h102 h112
      rw [if_pos rfl]
      refine k υ ⟨c, nm, _, _, (hc1.up).hi (e2.mo (fun a k q => by unfold SMc at q; omega)), ⟨fun j hj => ?_, fun j hj => ?_⟩, hs2, hm1.mo.rePX (zP := (0, w.2.1.2)) (zX := (nI er.1, nI er.2)) hc.ww (fun a k q q2 => e2.sme (by unfold PMO at q; unfold SMc; omega)) (PM.none h82) ⟨h102, h112⟩⟩
      · have := hm1.1.1 j hj
        rw [Nat.mul_zero, Nat.zero_add] at this ⊢
        rw [h6 j hj]; exact this
      · have := hm1.1.2 j hj
        rw [Nat.mul_zero, Nat.zero_add] at this ⊢
        rw [h8 j (vN.lt hc.1 hj)]; exact this
