/-! ===== calls keep what holds, going on ===== -/
theorem IC.kw {N : Nat} {σ : Sto} {c : Nat → Nat} {nm : Nat → Int64} {w : Wd} {s : Int32} (h : IC N σ c nm w s) : KW N σ c := h.2.2.2.1
theorem IC.ww {N : Nat} {σ : Sto} {c : Nat → Nat} {nm : Nat → Int64} {w : Wd} {s : Int32} (h : IC N σ c nm w s) : WW w := h.2.2.1
theorem IC.nw {N : Nat} {σ : Sto} {c : Nat → Nat} {nm : Nat → Int64} {w : Wd} {s : Int32} (h : IC N σ c nm w s) : NWD σ := h.2.2.2.2.1
theorem IC.cf {N : Nat} {σ : Sto} {c : Nat → Nat} {nm : Nat → Int64} {w : Wd} {s : Int32} (h : IC N σ c nm w s) : CF σ (gr σ 1 11) c nm := h.2.2.2.2.2.1
theorem IC.st {N : Nat} {σ : Sto} {c : Nat → Nat} {nm : Nat → Int64} {w : Wd} {s : Int32} (h : IC N σ c nm w s) : gi σ 1 15 = s := h.2.2.2.2.2.2.1
theorem IC.co {N : Nat} {σ : Sto} {c : Nat → Nat} {nm : Nat → Int64} {w : Wd} {s : Int32} (h : IC N σ c nm w s) : CO σ w := h.2.2.2.2.2.2.2
theorem IM.mo {σ : Sto} {c : Nat → Nat} {nm : Nat → Int64} {w : Wd} {s : Int32} (h : IM σ c nm w s) : MO σ w := h.2.2
theorem Eo.sme {S : Nat → Nat → Prop} {σ τ : Sto} (e : Eo S σ τ) {a k : Nat} (h : ¬ S a k) : Sme σ τ a k := ⟨e.1 a k h, e.2.1 a k h⟩
theorem Er.sme {S R : Nat → Nat → Prop} {σ τ : Sto} (e : Er S R σ τ) {a k : Nat} (h : ¬ S a k) : Sme σ τ a k := ⟨e.1 a k h, e.2.1 a k h⟩
/-- the class's city stays, its frame leaves the city's cells -/
theorem IC.same {N : Nat} {S : Nat → Nat → Prop} {σ τ : Sto} {c : Nat → Nat} {nm : Nat → Int64} {w w' : Wd} {s s' : Int32} (h : IC N σ c nm w s) (e : Eo S σ τ) (hk : KW N τ c) (hS : ∀ a k, (13 ≤ a ∧ a ≤ 40) → ¬ S a k) (hw : WW w') (co : CO τ w') (hs : gi τ 1 15 = s') : IC N τ c nm w' s' :=
  h.re e.2.2 h.1 hk KP.rf (fun k => e.2.1 _ _ (hS _ _ (by have := h.nw; unfold NWD at this; omega))) (fun i k h8 h13 => e.1 _ _ (hS _ _ (by have := h.nw; unfold NWD at this; omega))) hw co hs
theorem IM.same {S : Nat → Nat → Prop} {σ τ : Sto} {c : Nat → Nat} {nm : Nat → Int64} {w w' : Wd} {s s' : Int32} (h : IM σ c nm w s) (e : Eo S σ τ) (mr : MR τ c) (hS : ∀ k, ¬ S 108 k) (mo : MO τ w') (hs : gi τ 101 0 = s') : IM τ c nm w' s' :=
  h.re mr KP.rf (fun k => e.2.1 _ _ (hS k)) mo hs
theorem inv_tr {N : Nat} {X Y : (Int32 → Sto → Prop) → Sto → Prop} (A : TD → Int32 × Int32 × TD)
    (hX : ∀ D σ P, TC σ D → (∀ τ, Eo STr σ τ → TC τ (A D).2.2 → gi τ 1 15 = (A D).2.1 → P (A D).1 τ) → X P σ)
    (hY : ∀ D σ P, TM σ D → (∀ τ, Eo SMT σ τ → TM τ (A D).2.2 → gi τ 101 0 = (A D).2.1 → P (A D).1 τ) → Y P σ)
    {σ : Sto} (h : INV N σ) {Q : Sto → Prop} (k : ∀ υ, INV N υ → Q υ) : X (fun r σ1 => Y (fun r2 σ2 => if r = r2 then Q σ2 else False) σ1) σ := by
  obtain ⟨c, nm, w, s, hc, hm⟩ := h
  refine hX w.1 σ _ hc.co.1 (fun τ e ht hs => ?_)
  have hc1 := hc.same (w' := ((A w.1).2.2, w.2)) e (hc.kw.tr e) (fun a k q => by unfold STr; omega) hc.ww (hc.co.reT hc.ww (fun a k q q2 => e.sme (by unfold PCO at q; unfold STr; omega)) ht) hs
  have hm1 := hm.lo hc.1 hc.ww (fun a k ha => e.sme (by unfold STr; omega))
  refine hY w.1 τ _ hm1.mo.1 (fun υ e2 ht2 hs2 => ?_)
  rw [if_pos rfl]
  exact k υ ⟨c, nm, _, _, hc1.hi (e2.mo (fun a k q => by unfold SMT at q; omega)), hm1.same e2 (hm1.mr.tr e2) (fun k q => by unfold SMT at q; omega) (hm1.mo.reT hc.ww (fun a k q q2 => e2.sme (by unfold PMO at q; unfold SMT; omega)) ht2) hs2⟩
theorem inv_read {N : Nat} {x y : Int32} {σ : Sto} (h : INV N σ) {Q : Sto → Prop} (k : ∀ υ, INV N υ → Q υ) : w_X11_read x y σ (fun r σ1 => w_X12_read x y σ1 (fun r2 σ2 => if lg_cmp r r2 = 0 then Q σ2 else False)) := by
  obtain ⟨c, nm, w, s, hc, hm⟩ := h
  refine c_read hc.co.1 (fun τ e ht hs => ?_)
  have hc1 := hc.same (w' := w) e (hc.kw.tr e) (fun a k q => by unfold STr; omega) hc.ww (hc.co.reT (zT := w.1) hc.ww (fun a k q q2 => e.sme (by unfold PCO at q; unfold STr; omega)) ht) hs
  have hm1 := hm.lo hc.1 hc.ww (fun a k ha => e.sme (by unfold STr; omega))
  refine m_read hm1.mo.1 (fun υ e2 ht2 hs2 => ?_)
  rw [if_pos (lg_eq.mpr rfl)]
  exact k υ ⟨c, nm, w, _, hc1.hi (e2.mo (fun a k q => by unfold SMT at q; omega)), hm1.same e2 (hm1.mr.tr e2) (fun k q => by unfold SMT at q; omega) (hm1.mo.reT (zT := w.1) hc.ww (fun a k q q2 => e2.sme (by unfold PMO at q; unfold SMT; omega)) ht2) hs2⟩
theorem inv_copyWorth {N : Nat} (hN : N ≤ 2000) {x : Int32} {σ : Sto} (h : INV N σ) {Q : Sto → Prop} (k : ∀ υ, INV N υ → Q υ) : w_X11_copyWorth x σ (fun r σ1 => w_X12_copyWorth x σ1 (fun r2 σ2 => if r = r2 then Q σ2 else False)) := by
  obtain ⟨c, nm, w, s, hc, hm⟩ := h
  refine c_copyWorth hc.kw hc.1 hN hc.co.1 (fun τ e hk ht hs => ?_)
  have hc1 := hc.same (w' := ((copyWA w.1 c x).2.2, w.2)) e hk (fun a k q => by unfold SCW SQ; omega) hc.ww (hc.co.reT hc.ww (fun a k q q2 => e.sme (by unfold PCO at q; unfold SCW SQ; omega)) ht) hs
  have hm1 := hm.lo hc.1 hc.ww (fun a k ha => e.sme (by unfold SCW SQ; omega))
  refine m_copyWorth hm1.mr hc.1 hm1.mo.1 (fun υ e2 ht2 hs2 => ?_)
  rw [if_pos rfl]
  exact k υ ⟨c, nm, _, _, hc1.hi (e2.mo (fun a k q => by unfold SMC SM at q; omega)), hm1.same e2 (hm1.mr.eo e2 (fun k q => by unfold SMC SM at q; omega)) (fun k q => by unfold SMC SM at q; omega) (hm1.mo.reT hc.ww (fun a k q q2 => e2.sme (by unfold PMO at q; unfold SMC SM; omega)) ht2) hs2⟩
theorem inv_feed {N : Nat} {p q r s t : Int32} {σ : Sto} (h : INV N σ) {Q : Sto → Prop} (k : ∀ υ, INV N υ → Q υ) : w_X11_feed p q r s t σ (fun r1 σ1 => w_X12_feed p q r s t σ1 (fun r2 σ2 => if r1 = r2 then Q σ2 else False)) := by
  obtain ⟨c, nm, w, s0, hc, hm⟩ := h
  refine c_feed hc.co.2.1 (fun τ e ht => ?_)
  have hc1 : IC N τ c nm (w.1, (feedA w.2.1.1 w.2.1.2 p q r s t).2, w.2.2) s0 := hc.same e (hc.kw.er (R := fun _ _ => False) e.er (fun a k q => by unfold ST9; omega) (fun i k hi => by have := hc.nw; unfold NWD at this; unfold ST9; omega) (fun q => q) (fun a k _ q => q)) (fun a k q => by unfold ST9; omega) hc.ww (hc.co.reP hc.ww (fun a k q q2 => e.sme (by unfold ST9; omega)) ht) ((e.1 1 15 (by unfold ST9; omega)).trans hc.st)
  have hm1 := hm.lo hc.1 hc.ww (fun a k ha => e.sme (by unfold ST9; omega))
  refine m_feed hm1.mo.2.1 (fun υ e2 ht2 => ?_)
  rw [if_pos rfl]
  exact k υ ⟨c, nm, _, _, hc1.hi (e2.mo (fun a k q => by unfold SM9 at q; omega)), hm1.same e2 (hm1.mr.eo e2 (fun k q => by unfold SM9 at q; omega)) (fun k q => by unfold SM9 at q; omega) (hm1.mo.reP hc.ww (fun a k q q2 => e2.sme (by unfold PMO at q; unfold SM9; omega)) ht2) ((e2.1 101 0 (by unfold SM9; omega)).trans hm1.2.1)⟩
theorem inv_s1 {N : Nat} {σ : Sto} {v : Int32} (h : INV N σ) : INV N (si σ 101 1 v) := by
  obtain ⟨c, nm, w, s, hc, hm⟩ := h
  have e : Eo SM σ (si σ 101 1 v) := Eo.si (by unfold SM; omega)
  exact ⟨c, nm, w, s, hc.hi (SMhi e), hm.ask hc.1 hc.ww e (by rw [gi_si_k (by decide)]; exact hm.2.1)⟩
theorem inv_status {N : Nat} {σ : Sto} (h : INV N σ) {Q : Sto → Prop} (k : ∀ υ, INV N υ → Q υ) : w_X11_status σ (fun r σ1 => w_X12_status σ1 (fun r2 σ2 => if r = r2 then Q σ2 else False)) := by
  unfold w_X11_status w_X12_status
  intro σ1 e1
  have h1 : INV N σ1 := by rw [e1]; exact inv_s1 h
  obtain ⟨c, nm, w, s, hc, hm⟩ := h
  rw [if_pos (by rw [e1, gi_si_k (by decide), hc.st, hm.2.1])]
  exact k σ1 h1
theorem inv_top {N : Nat} {σ : Sto} (h : INV N σ) {Q : Sto → Prop} (k : ∀ υ, INV N υ → Q υ) : w_X11_top σ (fun r σ1 => w_X12_top σ1 (fun r2 σ2 => if lg_cmp r r2 = 0 then Q σ2 else False)) := by
  unfold w_X11_top w_X12_top
  intro σ1 e1
  have h1 : INV N σ1 := by rw [e1]; exact inv_s1 h
  obtain ⟨c, nm, w, s, hc, hm⟩ := h
  rw [if_pos (by rw [e1, gl_si, hc.co.2.2.2.2.2.1.1, hm.mo.2.2.2.2.2.1.1]; exact lg_eq.mpr rfl)]
  exact k σ1 h1
theorem inv_bottom {N : Nat} {σ : Sto} (h : INV N σ) {Q : Sto → Prop} (k : ∀ υ, INV N υ → Q υ) : w_X11_bottom σ (fun r σ1 => w_X12_bottom σ1 (fun r2 σ2 => if lg_cmp r r2 = 0 then Q σ2 else False)) := by
  unfold w_X11_bottom w_X12_bottom
  intro σ1 e1
  have h1 : INV N σ1 := by rw [e1]; exact inv_s1 h
  obtain ⟨c, nm, w, s, hc, hm⟩ := h
  rw [if_pos (by rw [e1, gl_si, hc.co.2.2.2.2.2.1.2, hm.mo.2.2.2.2.2.1.2]; exact lg_eq.mpr rfl)]
  exact k σ1 h1
theorem inv_fault {N : Nat} {x : Int32} {σ : Sto} (h : INV N σ) {Q : Sto → Prop} (k : ∀ υ, INV N υ → Q υ) : w_X11_fault x σ (fun r σ1 => w_X12_fault x σ1 (fun r2 σ2 => if r = r2 then Q σ2 else False)) := by
  have h1 : ∀ σ1, σ1 = si σ 101 1 0 → INV N σ1 := fun σ1 e1 => by rw [e1]; exact inv_s1 h
  obtain ⟨c, nm, w, s, hc, hm⟩ := h
  unfold w_X11_fault
  by_cases h0 : x = 0
  · rw [if_pos h0]
    unfold w_X12_fault
    dsimp only
    rw [if_pos h0]
    intro σ1 e1
    rw [if_pos (by rw [e1, gi_si_k (by decide), hc.co.2.2.2.2.2.2.1.1, hm.mo.2.2.2.2.2.2.1.1])]
    exact k σ1 (h1 _ e1)
  · rw [if_neg h0]
    by_cases h01 : x = 1
    · rw [if_pos h01]
      unfold w_X12_fault
      dsimp only
      rw [if_neg h0, if_pos h01]
      intro σ1 e1
      rw [if_pos (by rw [e1, gi_si_k (by decide), hc.co.2.2.2.2.2.2.1.2, hm.mo.2.2.2.2.2.2.1.2])]
      exact k σ1 (h1 _ e1)
    · rw [if_neg h01]
      unfold w_X12_fault
      dsimp only
      rw [if_neg h0, if_neg h01, if_pos rfl]
      exact k _ (h1 _ rfl)
theorem inv_sway {N : Nat} (hN : N ≤ 2000) {x : Int32} {σ : Sto} (h : INV N σ) {Q : Sto → Prop} (k : ∀ υ, INV N υ → Q υ) : w_X11_sway x σ (fun r σ1 => w_X12_sway x σ1 (fun r2 σ2 => if r = r2 then Q σ2 else False)) := by
  obtain ⟨c, nm, w, s, hc, hm⟩ := h
  refine c_sway hc.kw hc.1 hN (fun τ e hk hs => ?_)
  have hc1 := hc.ask e hk hs
  have hm1 := hm.lo hc.1 hc.ww (SQlo e)
  refine m_sway hm1.mr hc.1 (fun υ e2 hr2 hs2 => ?_)
  rw [if_pos rfl]
  exact k υ ⟨c, nm, w, _, hc1.hi (e2.mo (fun a k q => by unfold SMS SM at q; omega)), hm1.same e2 hr2 (fun k q => by unfold SMS SM at q; omega) (hm1.mo.sm hc.ww (fun a k q => e2.sme (by unfold PMO at q; unfold SMS SM; omega))) hs2⟩
def agO (o : Option (Nat × (Nat → Nat))) (ag : NFt) : NFt := match o with
  | none => ag
  | some p => p
theorem agendaA_le {c : Nat → Nat} {x : Int32} {ag : NFt} (h : ag.1 ≤ 6) : (agO (agendaA c x).2.2 ag).1 ≤ 6 := by
  unfold agendaA
  refine if_p2 (P := fun z : Int32 × Int32 × Option (Nat × (Nat → Nat)) => (agO z.2.2 ag).1 ≤ 6) (fun _ => ?_) (fun _ => h)
  unfold agendaF
  refine if_p2 (P := fun z : Int32 × Int32 × Option (Nat × (Nat → Nat)) => (agO z.2.2 ag).1 ≤ 6) (fun _ => h) (fun q => if_p2 (P := fun z : Int32 × Int32 × Option (Nat × (Nat → Nat)) => (agO z.2.2 ag).1 ≤ 6) (fun _ => ?_) (fun _ => h))
  show card (tn x) ≤ 6
  omega
theorem AGC.ag {σ τ : Sto} {ag : NFt} (h : AGC σ ag) : ∀ o, agR o (gi σ 93 4) (gi τ 93 4) (gi σ 94) (gi τ 94) → AGC τ (agO o ag)
  | none, g => ⟨g.1.trans h.1, fun k hk => (g.2 k).trans (h.2 k hk)⟩
  | some p, g => g
theorem AGM.ag {σ τ : Sto} {ag : NFt} (h : AGM σ ag) : ∀ o, agR o (gi σ 101 31) (gi τ 101 31) (gi σ 113) (gi τ 113) → AGM τ (agO o ag)
  | none, g => ⟨g.1.trans h.1, fun k hk => (g.2 k).trans (h.2 k hk)⟩
  | some p, g => g
theorem inv_agenda {N : Nat} (hN : N ≤ 2000) {x : Int32} {σ : Sto} (h : INV N σ) {Q : Sto → Prop} (k : ∀ υ, INV N υ → Q υ) : w_X11_agenda x σ (fun r σ1 => w_X12_agenda x σ1 (fun r2 σ2 => if r = r2 then Q σ2 else False)) := by
  obtain ⟨c, nm, w, s, hc, hm⟩ := h
  refine c_agenda hc.kw hc.1 hN (fun τ e hk hs ha => ?_)
  have hw2 : WW (w.1, w.2.1, w.2.2.1, w.2.2.2.1, agO (agendaA c x).2.2 w.2.2.2.2.1, w.2.2.2.2.2) := ⟨hc.ww.1, hc.ww.2.1, agendaA_le hc.ww.2.2⟩
  have hc1 := hc.same e hk (fun a k q => by unfold SQL SQ SL; omega) hw2 (hc.co.reA hc.ww (fun a k q q2 => e.sme (by unfold PCO at q; unfold SQL SQ SL; omega)) (hc.co.2.2.2.2.1.ag _ ha)) hs
  have hm1 := hm.lo hc.1 hc.ww (fun a k ha => e.sme (by unfold SQL SQ SL; omega))
  refine m_agenda hm1.mr hc.1 (fun υ e2 hs2 ha2 => ?_)
  rw [if_pos rfl]
  exact k υ ⟨c, nm, _, _, hc1.hi (e2.mo (fun a k q => by unfold SMA SM at q; omega)), hm1.same e2 (hm1.mr.eo e2 (fun k q => by unfold SMA SM at q; omega)) (fun k q => by unfold SMA SM at q; omega) (hm1.mo.reA hc.ww (fun a k q q2 => e2.sme (by unfold PMO at q; unfold SMA SM; omega)) (hm1.mo.2.2.2.2.1.ag _ ha2)) hs2⟩
theorem inv_agendaAt {N : Nat} {x : Int32} {σ : Sto} (h : INV N σ) {Q : Sto → Prop} (k : ∀ υ, INV N υ → Q υ) : w_X11_agendaAt x σ (fun r σ1 => w_X12_agendaAt x σ1 (fun r2 σ2 => if r = r2 then Q σ2 else False)) := by
  obtain ⟨c, nm, w, s, hc, hm⟩ := h
  refine c_agendaAt hc.kw hc.co.2.2.2.2.1.1 hc.ww.2.2 hc.co.2.2.2.2.1.2 (fun τ e hk hs => ?_)
  have hc1 := hc.ask e hk hs
  have hm1 := hm.lo hc.1 hc.ww (SQlo e)
  refine m_agendaAt hm1.mo.2.2.2.2.1.1 hc.ww.2.2 hm1.mo.2.2.2.2.1.2 (fun υ e2 hs2 => ?_)
  rw [if_pos rfl]
  exact k υ ⟨c, nm, w, _, hc1.hi (SMhi e2), hm1.ask hc.1 hc.ww e2 hs2⟩
theorem inv_odds {N : Nat} {x y : Int32} {σ : Sto} (h : INV N σ) {Q : Sto → Prop} (k : ∀ υ, INV N υ → Q υ) : w_X11_aheadOdds x y σ (fun r σ1 => w_X12_aheadOdds x y σ1 (fun r2 σ2 => if r = r2 then Q σ2 else False)) := by
  obtain ⟨c, nm, w, s, hc, hm⟩ := h
  refine c_aheadOdds hc.kw hc.1 (fun τ e hk hs ha => ?_)
  rw [hc.co.2.2.2.2.2.1.1, hc.co.2.2.2.2.2.1.2] at ha
  have hc1 : IC N τ c nm (w.1, w.2.1, w.2.2.1, w.2.2.2.1, w.2.2.2.2.1, fr (oddsA c x y).2.2 w.2.2.2.2.2.1.1 w.2.2.2.2.2.1.2, w.2.2.2.2.2.2) _ := hc.same e hk (fun a k q => by unfold SQF SQ SF; omega) hc.ww (hc.co.reF hc.ww (fun a k q q2 => e.sme (by unfold PCO at q; unfold SQF SQ SF; omega)) ⟨congrArg Prod.fst ha, congrArg Prod.snd ha⟩) hs
  have hm1 := hm.lo hc.1 hc.ww (fun a k ha => e.sme (by unfold SQF SQ SF; omega))
  refine m_aheadOdds hm1.mr hc.1 (fun υ e2 hs2 ha2 => ?_)
  rw [hm1.mo.2.2.2.2.2.1.1, hm1.mo.2.2.2.2.2.1.2] at ha2
  rw [if_pos rfl]
  exact k υ ⟨c, nm, _, _, hc1.hi (e2.mo (fun a k q => by unfold SMF SM at q; omega)), hm1.same e2 (hm1.mr.eo e2 (fun k q => by unfold SMF SM at q; omega)) (fun k q => by unfold SMF SM at q; omega) (hm1.mo.reF hc.ww (fun a k q q2 => e2.sme (by unfold PMO at q; unfold SMF SM; omega)) ⟨congrArg Prod.fst ha2, congrArg Prod.snd ha2⟩) hs2⟩
theorem inv_lived {N : Nat} {x : Int32} {σ : Sto} (h : INV N σ) {Q : Sto → Prop} (k : ∀ υ, INV N υ → Q υ) : w_X11_lived x σ (fun r σ1 => w_X12_lived x σ1 (fun r2 σ2 => if r = r2 then Q σ2 else False)) := by
  obtain ⟨c, nm, w, s, hc, hm⟩ := h
  refine c_lived hc.kw hc.co.2.2.2.1.1 hc.ww.2.1 hc.co.2.2.2.1.2 (fun τ e hk hs => ?_)
  have hc1 := hc.ask e hk hs
  have hm1 := hm.lo hc.1 hc.ww (SQlo e)
  refine m_lived hm1.mo.2.2.2.1.1 hc.ww.2.1 hm1.mo.2.2.2.1.2 (fun υ e2 hs2 => ?_)
  rw [if_pos rfl]
  exact k υ ⟨c, nm, w, _, hc1.hi (SMhi e2), hm1.ask hc.1 hc.ww e2 hs2⟩
