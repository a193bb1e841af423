/-! ===== marks ===== -/
def mkU (ms : MKt) (c : Nat → Nat) (nm : Nat → Int64) : MKt := (ms.1 + 1, fun i => if i = ms.1 then (c, nm) else ms.2 i)
theorem mkU_n {ms : MKt} {c : Nat → Nat} {nm : Nat → Int64} {i : Nat} (h : i ≠ ms.1) : (mkU ms c nm).2 i = ms.2 i := if_neg h
theorem mkU_s {ms : MKt} {c : Nat → Nat} {nm : Nat → Int64} : (mkU ms c nm).2 ms.1 = (c, nm) := if_pos rfl
theorem inv_mark {N : Nat} {σ : Sto} (h : INV N σ) {Q : Sto → Prop} (k : ∀ υ, INV N υ → Q υ) : w_X11_mark σ (fun r σ1 => w_X12_mark σ1 (fun r2 σ2 => if r = r2 then Q σ2 else False)) := by
  obtain ⟨c, nm, w, s, hc, hm⟩ := h
  have hnw := hc.nw
  unfold NWD at hnw
  refine c_mark hc.kw hc.1 (by omega) hc.cf hc.co.2.2.1.1 hc.ww.1.1 (fun h3 τ e hk hf hmk hs => ?_) (fun h3 τ e hk hs => ?_)
  · have hw2 : WW (w.1, w.2.1, mkU w.2.2.1 c nm, w.2.2.2) := by
      refine ⟨⟨h3, fun i hi => ?_⟩, hc.ww.2.1, hc.ww.2.2⟩
      by_cases q : i = w.2.2.1.1
      · show OK ((mkU w.2.2.1 c nm).2 i).1 ∧ NmK ((mkU w.2.2.1 c nm).2 i).1 ((mkU w.2.2.1 c nm).2 i).2
        rw [q, mkU_s]
        exact ⟨hc.1, hc.2.1⟩
      · show OK ((mkU w.2.2.1 c nm).2 i).1 ∧ NmK ((mkU w.2.2.1 c nm).2 i).1 ((mkU w.2.2.1 c nm).2 i).2
        rw [mkU_n q]
        exact hc.ww.1.2 i (by have : i < w.2.2.1.1 + 1 := hi; omega)
    have hc1 := hc.re e.2.2 hc.1 hk KP.rf (fun k => e.2.1 _ _ (by unfold SMk SCi; omega)) (fun i k h8 h13 => e.1 _ _ (by unfold SMk SCi; omega)) hw2
      (hc.co.reK hc.ww (fun a k q q2 => e.sme (by unfold PCO at q; unfold SMk SCi; omega)) ⟨hmk, fun i hi => by
        by_cases q : i = w.2.2.1.1
        · rw [q, mkU_s]; exact hf
        · rw [mkU_n q]
          have hi2 : i < w.2.2.1.1 + 1 := hi
          exact (hc.co.2.2.1.2 i (by omega)).sm (fun j k hj => e.sme (by unfold SMk SCi; omega))⟩) hs
    have hm1 := hm.lo hc.1 hc.ww (fun a k ha => e.sme (by unfold SMk SCi; omega))
    refine m_mark hc.1 hm1.1 hm1.mo.2.2.1.1 hc.ww.1.1 (fun _ υ e2 hf2 hmk2 hs2 => ?_) (fun q => absurd h3 q)
    rw [if_pos rfl]
    refine k υ ⟨c, nm, _, _, hc1.hi (e2.mo (fun a k q => by unfold SMm SBl at q; omega)), hm1.1.sm hc.1 (fun k q1 q2 => e2.sme (by unfold SMm SBl; omega)) (fun k q1 q2 => e2.sme (by unfold SMm SBl; omega)), hs2, hm1.mo.reK (zK := mkU w.2.2.1 c nm) hc.ww (fun a k q q2 => e2.sme (by unfold PMO at q; unfold SMm SBl; have := hc.ww.1.1; omega)) ⟨hmk2, fun i hi => ?_⟩⟩
    by_cases q : i = w.2.2.1.1
    · rw [q, mkU_s]; exact hf2
    · rw [mkU_n q]
      have hi2 : i < w.2.2.1.1 + 1 := hi
      exact (hm1.mo.2.2.1.2 i (by omega)).sm (hc.ww.1.2 i (by omega)).1 (fun k q1 q2 => e2.sme (by unfold SMm SBl; omega)) (fun k q1 q2 => e2.sme (by unfold SMm SBl; omega))
  · have hc1 := hc.ask e hk hs
    have hm1 := hm.lo hc.1 hc.ww (SQlo e)
    refine m_mark hc.1 hm1.1 hm1.mo.2.2.1.1 hc.ww.1.1 (fun q => absurd q h3) (fun _ υ e2 hs2 => ?_)
    rw [if_pos rfl]
    exact k υ ⟨c, nm, w, _, hc1.hi (SMhi e2), hm1.ask hc.1 hc.ww e2 hs2⟩
theorem IC.up {N : Nat} {σ : Sto} {c : Nat → Nat} {nm : Nat → Int64} {w : Wd} {s : Int32} (h : IC N σ c nm w s) : IC (N + 1) σ c nm w s := ⟨h.1, h.2.1, h.2.2.1, h.kw.mono (Nat.le_succ N), h.2.2.2.2⟩
theorem nn0 {n : Nat} (h : n < 2147483648) : ¬ nI n < 0 := by
  rw [N0, jI_lt h (by decide)]
  omega
theorem nlt {n f : Nat} (h : n ≤ f) (hf : f < 2147483648) : ¬ nI f < nI n := by
  rw [jI_lt hf (by omega)]
  omega
theorem inv_back {N : Nat} (hN : N ≤ 2000) {σ : Sto} (h : INV N σ) {Q : Sto → Prop} (k : ∀ υ, INV (N + 1) υ → Q υ) : w_X11_back σ (fun r σ1 => w_X12_back σ1 (fun r2 σ2 => if r = r2 then Q σ2 else False)) := by
  obtain ⟨c, nm, w, s, hc, hm⟩ := h
  have hnw := hc.nw
  unfold NWD at hnw
  have h3 := hc.ww.1.1
  have hok : 0 < w.2.2.1.1 → OK (w.2.2.1.2 (w.2.2.1.1 - 1)).1 := fun q => (hc.ww.1.2 _ (by omega)).1
  refine c_back hc.kw hN (by omega) hc.co.2.2.1.1 h3 hok (fun q => hc.co.2.2.1.2 _ (by omega)) (fun h0 τ e hk hf hmk hs => ?_) (fun h0 τ e hk hs => ?_)
  · have hw2 : WW (w.1, w.2.1, (w.2.2.1.1 - 1, w.2.2.1.2), w.2.2.2) := ⟨⟨show w.2.2.1.1 - 1 ≤ 3 by omega, fun i hi => hc.ww.1.2 i (by have : i < w.2.2.1.1 - 1 := hi; omega)⟩, hc.ww.2.1, hc.ww.2.2⟩
    have hc1 : IC (N + 1) τ (w.2.2.1.2 (w.2.2.1.1 - 1)).1 (w.2.2.1.2 (w.2.2.1.1 - 1)).2 (w.1, w.2.1, (w.2.2.1.1 - 1, w.2.2.1.2), w.2.2.2) 0 := by
      refine ⟨hok h0, (hc.ww.1.2 _ (by omega)).2, hw2, hk, ?_, ?_, hs, ?_⟩
      · unfold NWD
        rw [e.2.2, e.2.2]
        exact hnw
      · rw [e.2.2]; exact hf
      · exact hc.co.reK hc.ww (fun a k q q2 => e.sme (by unfold PCO at q; unfold SBk SCi STn; omega)) ⟨hmk, fun i hi => (hc.co.2.2.1.2 i (by have : i < w.2.2.1.1 - 1 := hi; omega)).sm (fun j k hj => e.sme (by have : i < w.2.2.1.1 - 1 := hi; unfold SBk SCi STn; omega))⟩
    have hm1 := hm.lo hc.1 hc.ww (fun a k ha => e.sme (by unfold SBk SCi STn; omega))
    refine m_back (nm' := (w.2.2.1.2 (w.2.2.1.1 - 1)).2) hm1.mo.2.2.1.1 h3 hok (fun q => ?_) (fun _ υ e2 hf2 hmk2 hs2 => ?_) (fun q => absurd h0 q)
    · have := hm1.mo.2.2.1.2 (w.2.2.1.1 - 1) (by omega)
      rw [show w.2.2.1.1 - 1 + 1 = w.2.2.1.1 by omega] at this
      exact this
    · rw [if_pos rfl]
      refine k υ ⟨_, _, _, _, hc1.hi (e2.mo (fun a k q => by unfold SMm SBl at q; omega)), hf2, hs2, hm1.mo.reK (zK := (w.2.2.1.1 - 1, w.2.2.1.2)) hc.ww (fun a k q q2 => e2.sme (by unfold PMO at q; unfold SMm SBl; omega)) ⟨hmk2, fun i hi => ?_⟩⟩
      have hi2 : i < w.2.2.1.1 - 1 := hi
      exact (hm1.mo.2.2.1.2 i (by omega)).sm (hc.ww.1.2 i (by omega)).1 (fun k q1 q2 => e2.sme (by unfold SMm SBl; omega)) (fun k q1 q2 => e2.sme (by unfold SMm SBl; omega))
  · have hc1 := hc.ask e hk hs
    have hm1 := hm.lo hc.1 hc.ww (SQlo e)
    refine m_back (nm' := (w.2.2.1.2 (w.2.2.1.1 - 1)).2) hm1.mo.2.2.1.1 h3 hok (fun q => absurd q h0) (fun q => absurd q h0) (fun _ υ e2 hs2 => ?_)
    rw [if_pos rfl]
    exact k υ ⟨c, nm, w, _, (hc1.up).hi (SMhi e2), hm1.ask hc.1 hc.ww e2 hs2⟩
