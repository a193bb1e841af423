/-! ===== live ===== -/
theorem Sm.kp {c d : Nat → Nat} (h : Sm c d) : KP c d := ⟨h 0 (by decide) (by decide) (by decide), h 2 (by decide) (by decide) (by decide), h 3 (by decide) (by decide) (by decide), fun j hj => h j (by omega) (by omega) (by omega)⟩
theorem inv_live {N : Nat} (hN : N ≤ 2000) {x : Int32} {σ : Sto} (h : INV N σ) {Q : Sto → Prop} (k : ∀ υ, INV N υ → Q υ) : w_X11_live x σ (fun r σ1 => w_X12_live x σ1 (fun r2 σ2 => if r = r2 then Q σ2 else False)) := by
  obtain ⟨c, nm, w, s, hc, hm⟩ := h
  have hnw := hc.nw
  unfold NWD at hnw
  obtain ⟨q1, h42, q3, h30, ln, q5, q6, hl⟩ := id hc.cf.2.2
  refine c_live hc.kw hc.1 hN hc.cf.2.2 (fun hi τ e hk hs => ?_) (fun hi h0 τ e hk hs => ?_) (fun n hn hn2 h0 τ e hk ok2 hsm ht hs htl => ?_)
  · have hc1 := hc.ask e hk hs
    have hm1 := hm.lo hc.1 hc.ww (SQlo e)
    refine m_live hm1.mr hc.1 h42 h30 hl (fun _ υ e2 hs2 => ?_) (fun hi2 _ υ e2 hs2 => absurd hi2 hi) (fun n hn hn2 _ υ e2 _ _ _ _ _ _ => absurd ⟨n, hn2, hn⟩ hi)
    rw [if_pos rfl]
    exact k υ ⟨c, nm, w, _, hc1.hi (SMhi e2), hm1.ask hc.1 hc.ww e2 hs2⟩
  · have hc1 := hc.ask e hk hs
    have hm1 := hm.lo hc.1 hc.ww (SQlo e)
    refine m_live hm1.mr hc.1 h42 h30 hl (fun hi2 υ e2 hs2 => absurd hi hi2) (fun _ _ υ e2 hs2 => ?_) (fun n hn hn2 h1 υ e2 _ _ _ _ _ _ => absurd h0 h1)
    rw [if_pos rfl]
    exact k υ ⟨c, nm, w, _, hc1.hi (SMhi e2), hm1.ask hc.1 hc.ww e2 hs2⟩
  · have hw2 : WW (w.1, w.2.1, w.2.2.1, (1, tlF (runF c n)), w.2.2.2.2) := ⟨hc.ww.1, Nat.le_refl 1, hc.ww.2.2⟩
    have hc1 := hc.re (w' := (w.1, w.2.1, w.2.2.1, (1, tlF (runF c n)), w.2.2.2.2)) e.2.2 ok2 hk hsm.kp (fun k => e.2.1 _ _ (by unfold SLi SLr SLa; omega)) (fun i k h8 h13 => e.1 _ _ (by unfold SLi SLr SLa; omega)) hw2
      (hc.co.reL hc.ww (fun a k q q2 => e.sme (by unfold PCO at q; unfold SLi SLr SLa; omega)) ⟨ht, fun _ => htl⟩) hs
    have hm1 := hm.lo hc.1 hc.ww (fun a k ha => e.sme (by unfold SLi SLr SLa; omega))
    refine m_live hm1.mr hc.1 h42 h30 hl (fun hi2 υ e2 hs2 => absurd ⟨n, hn2, hn⟩ hi2) (fun _ h1 υ e2 hs2 => absurd h1 h0) (fun n' hn' hn2' h1 υ e2 hr2 ok3 hsm2 ht2 hs2 htl2 => ?_)
    have en : n' = n := (jI_eq (by omega) (by omega)).mp (hn'.symm.trans hn)
    subst en
    rw [if_pos rfl]
    exact k υ ⟨_, nm, _, _, hc1.hi (e2.mo (fun a k q => by unfold SMi SML SM at q; omega)), hm1.re hr2 hsm2.kp (fun k => e2.2.1 _ _ (by unfold SMi SML SM; omega)) (hm1.mo.reL (zL := (1, tlF (runF c n'))) hc.ww (fun a k q q2 => e2.sme (by unfold PMO at q; unfold SMi SML SM; omega)) ⟨ht2, fun _ => htl2⟩) hs2⟩
