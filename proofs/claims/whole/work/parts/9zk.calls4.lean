/-! ===== centuries keep what holds ===== -/
theorem inv_centuries {N : Nat} {x : Int32} {σ : Sto} (h : INV N σ) {Q : Sto → Prop} (k : ∀ υ, INV N υ → Q υ) : w_X11_centuries x σ (fun r σ1 => w_X12_centuries x σ1 (fun r2 σ2 => if r = r2 then Q σ2 else False)) := by
  obtain ⟨c, nm, w, s, hc, hm⟩ := h
  have hnw := hc.nw
  unfold NWD at hnw
  have hf := hc.co.2.1.2.1
  have hin : ∀ n, n ≤ w.2.1.1 → n ≤ 300 → x = nI n → (¬ x < 0 ∧ ¬ nI w.2.1.1 < x ∧ ¬ nI 300 < x) := fun n q1 q3 q2 => by
    rw [q2]
    exact ⟨nn0 (by omega), nlt q1 (by omega), nlt q3 (by omega)⟩
  obtain ⟨g, hg⟩ : ∃ g : Int32 → Nat, ∀ v, v = nI (g v) := ⟨fun v => Classical.choose (nI_sj v), fun v => Classical.choose_spec (nI_sj v)⟩
  obtain ⟨m0, hm0⟩ : ∃ m0 : Nat → Nat, m0 = fun j => if j < 144 then c j else g (gi σ 106 (1684 + j)) := ⟨_, rfl⟩
  have hlo : ∀ j, j < 144 → m0 j = c j := fun j hj => by rw [hm0]; exact if_pos hj
  have hhi : ∀ j, 144 ≤ j → nI (m0 j) = gi σ 106 (1684 + j) := fun j hj => by rw [hm0]; dsimp only; rw [if_neg (by omega)]; exact (hg _).symm
  have mcs : ∀ τ, (∀ a k, 101 ≤ a → Sme σ τ a k) → MC τ m0 := fun τ e j h1 h2 => by rw [hhi j h1]; exact (e 106 _ (by decide)).1
  refine c_centuries hc.kw hc.1 hc.nw hc.cf hc.2.1 hc.co.2.1 hc.co.2.2.2.2.2.2.2 (m0 := m0) (hlo 0 (by decide)) (hlo 2 (by decide)) (fun h5 => ?_) (fun n hn hnf hn3 y t' hy hy30 τ e hk hcf hs h2 h18 h19 => ?_) (fun n hn hnf hn3 er her τ e hk hcf hs h2 h18 h19 => ?_)
  · have e : Eo SQ σ (si σ 1 15 5) := Eo.si (by unfold SQ; omega)
    have hc1 := hc.ask (s' := 5) e hc.kw.st gi_si_s
    have hm1 := hm.lo hc.1 hc.ww (SQlo e)
    refine m_centuries hc.1 hm1.1 hc.2.1 hm1.mo.2.1 (mcs _ (SQlo e)) (fun _ υ e2 hs2 => ?_) (fun n hn hnf hn3 => absurd (hin n hnf hn3 hn) h5) (fun n hn hnf hn3 => absurd (hin n hnf hn3 hn) h5)
    rw [if_pos rfl]
    exact k υ ⟨c, nm, w, _, hc1.hi (SMhi e2), hm1.ask hc.1 hc.ww e2 hs2⟩
  · have h11 := e.2.2 1 11 (by unfold RSs; omega)
    have h12 := e.2.2 1 12 (by unfold RSs; omega)
    have lo : ∀ a k, 101 ≤ a → Sme σ τ a k := fun a k ha => e.sme (by unfold SCs; omega)
    have hc1 : IC N τ (csF c y) nm (w.1, (0, w.2.1.2), w.2.2.1, w.2.2.2.1, w.2.2.2.2.1, w.2.2.2.2.2.1, (0, -1)) 0 := by
      refine ⟨hc.1.cg (fun j hj => csF_lo hj), hc.2.1.cg (csF_lo (by decide)) (csF_lo (by decide)) (csF_lo (by decide)), hc.ww, hk, ?_, ?_, hs, ?_⟩
      · unfold NWD
        rw [h11, h12]
        exact hnw
      · rw [h11]; exact hcf
      · exact hc.co.rePX hc.ww (fun a k q q2 => e.sme (by unfold PCO at q; unfold SCs; omega)) (PC.none h2) ⟨h18, h19⟩
    have hm1 := hm.lo hc.1 hc.ww lo
    refine m_centuries hc.1 hm1.1 hc.2.1 hm1.mo.2.1 (mcs _ lo) (fun q => absurd (hin n hnf hn3 hn) q) (fun n' hn' hnf' hn3' y' t'' hy' hy30' υ e2 hb2 hs2 h82 h102 h112 => ?_) (fun n' hn' hnf' hn3' er her => ?_)
    · have en : n' = n := (jI_eq (by omega) (by omega)).mp (hn'.symm.trans hn)
      rw [en, hy] at hy'
      have ey : y = y' := congrArg Prod.fst (Sum.inr.inj hy')
      rw [← ey] at hb2 ⊢
      rw [if_pos rfl]
      exact k υ ⟨_, _, _, _, hc1.hi (e2.mo (fun a k q => by unfold SMx at q; omega)), hb2, hs2, hm1.mo.rePX (zP := (0, w.2.1.2)) (zX := (0, -1)) hc.ww (fun a k q q2 => e2.sme (by unfold PMO at q; unfold SMx; omega)) (PM.none h82) ⟨h102, h112⟩⟩
    · have en : n' = n := (jI_eq (by omega) (by omega)).mp (hn'.symm.trans hn)
      rw [en, hy] at her
      cases her
  · have h11 := e.2.2 1 11 (by unfold RSs; omega)
    have h12 := e.2.2 1 12 (by unfold RSs; omega)
    have lo : ∀ a k, 101 ≤ a → Sme σ τ a k := fun a k ha => e.sme (by unfold SCs; omega)
    have hc1 : IC N τ c nm (w.1, (0, w.2.1.2), w.2.2.1, w.2.2.2.1, w.2.2.2.2.1, w.2.2.2.2.2.1, (nI er.1, nI er.2)) 10 := by
      refine ⟨hc.1, hc.2.1, hc.ww, hk, ?_, ?_, hs, ?_⟩
      · unfold NWD
        rw [h11, h12]
        exact hnw
      · rw [h11]; exact hcf
      · exact hc.co.rePX hc.ww (fun a k q q2 => e.sme (by unfold PCO at q; unfold SCs; omega)) (PC.none h2) ⟨h18, h19⟩
    have hm1 := hm.lo hc.1 hc.ww lo
    refine m_centuries hc.1 hm1.1 hc.2.1 hm1.mo.2.1 (mcs _ lo) (fun q => absurd (hin n hnf hn3 hn) q) (fun n' hn' hnf' hn3' y' t'' hy' => ?_) (fun n' hn' hnf' hn3' er2 her2 υ e2 hb2 hs2 h82 h102 h112 => ?_)
    · have en : n' = n := (jI_eq (by omega) (by omega)).mp (hn'.symm.trans hn)
      rw [en, her] at hy'
      cases hy'
    · have en : n' = n := (jI_eq (by omega) (by omega)).mp (hn'.symm.trans hn)
      rw [en, her] at her2
      have ee : er = er2 := Sum.inl.inj her2
      rw [← ee] at h102 h112
      rw [if_pos rfl]
      exact k υ ⟨c, nm, _, _, hc1.hi (e2.mo (fun a k q => by unfold SMx at q; omega)), hb2, hs2, hm1.mo.rePX (zP := (0, w.2.1.2)) (zX := (nI er.1, nI er.2)) hc.ww (fun a k q q2 => e2.sme (by unfold PMO at q; unfold SMx; omega)) (PM.none h82) ⟨h102, h112⟩⟩
