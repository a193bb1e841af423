/-! ===== mean ===== -/
theorem inv_mean {N : Nat} (hN : N ≤ 2000) {x y : Int32} {σ : Sto} (h : INV N σ) {Q : Sto → Prop} (k : ∀ υ, INV N υ → Q υ) : w_X11_mean x y σ (fun r σ1 => w_X12_mean x y σ1 (fun r2 σ2 => if r = r2 then Q σ2 else False)) := by
  obtain ⟨c, nm, w, s, hc, hm⟩ := h
  have hnw := hc.nw
  unfold NWD at hnw
  obtain ⟨q1, h42, q3, h30, ln, q5, q6, hl⟩ := id hc.cf.2.2
  refine c_mean hc.kw hc.1 hN hc.cf.2.2 (fun hi τ e hk hs => ?_) (fun hi h0 τ e hk hs => ?_) (fun n m hn hm1' hm2 hm3 hnm h0 τ e hk hs ht hb => ?_)
  · have hc1 := hc.ask e hk hs
    have hm1 := hm.lo hc.1 hc.ww (SQlo e)
    refine m_mean hm1.mr hc.1 h42 h30 hl (fun _ υ e2 hs2 => ?_) (fun hi2 _ υ e2 hs2 => absurd hi2 hi) (fun n m q1 q2 q3 q4 q5 _ υ e2 _ _ _ _ => absurd ⟨n, m, q1, q2, q3, q4, q5⟩ hi)
    rw [if_pos rfl]
    exact k υ ⟨c, nm, w, _, hc1.hi (SMhi e2), hm1.ask hc.1 hc.ww e2 hs2⟩
  · have hc1 := hc.ask e hk hs
    have hm1 := hm.lo hc.1 hc.ww (SQlo e)
    refine m_mean hm1.mr hc.1 h42 h30 hl (fun hi2 υ e2 hs2 => absurd hi hi2) (fun _ _ υ e2 hs2 => ?_) (fun n m q1 q2 q3 q4 q5 h1 υ e2 _ _ _ _ => absurd h0 h1)
    rw [if_pos rfl]
    exact k υ ⟨c, nm, w, _, hc1.hi (SMhi e2), hm1.ask hc.1 hc.ww e2 hs2⟩
  · have hc1 : IC N τ c nm (w.1, w.2.1, w.2.2.1, w.2.2.2.1, w.2.2.2.2.1, (lI (sumM c n m / Nat.gcd (sumM c n m) m), lI (m / Nat.gcd (sumM c n m) m)), w.2.2.2.2.2.2) _ := hc.re e.2.2 hc.1 hk KP.rf (fun k => e.2.1 _ _ (by unfold SLm SLr SLa; omega)) (fun i k h8 h13 => e.1 _ _ (by unfold SLm SLr SLa; omega)) hc.ww
      (hc.co.reF hc.ww (fun a k q q2 => e.sme (by unfold PCO at q; unfold SLm SLr SLa; omega)) ⟨ht, hb⟩) hs
    have hm1 := hm.lo hc.1 hc.ww (fun a k ha => e.sme (by unfold SLm SLr SLa; omega))
    refine m_mean hm1.mr hc.1 h42 h30 hl (fun hi2 υ e2 hs2 => absurd ⟨n, m, hn, hm1', hm2, hm3, hnm⟩ hi2) (fun _ h1 υ e2 hs2 => absurd h1 h0) (fun n' m' hn' hm1'' hm2' hm3' hnm' h1 υ e2 hr2 hs2 ht2 hb2 => ?_)
    have en : n' = n := (jI_eq (by omega) (by omega)).mp (hn'.symm.trans hn)
    have em : m' = m := (jI_eq (by omega) (by omega)).mp (hm1''.symm.trans hm1')
    subst en em
    rw [if_pos rfl]
    exact k υ ⟨c, nm, _, _, hc1.hi (e2.mo (fun a k q => by unfold SMu SMe SML SM at q; omega)), hm1.re hr2 KP.rf (fun k => e2.2.1 _ _ (by unfold SMu SMe SML SM; omega)) (hm1.mo.reF (zF := (lI (sumM c n' m' / Nat.gcd (sumM c n' m') m'), lI (m' / Nat.gcd (sumM c n' m') m'))) hc.ww (fun a k q q2 => e2.sme (by unfold PMO at q; unfold SMu SMe SML SM; omega)) ⟨ht2, hb2⟩) hs2⟩
