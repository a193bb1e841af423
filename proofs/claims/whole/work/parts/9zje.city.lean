/-! ===== the city's text ===== -/
theorem PC.none {σ : Sto} {T : Nat → Nat} (h : gi σ 10 2 = 0) : PC σ 0 T := ⟨h, by decide, fun k hk => absurd hk (Nat.not_lt_zero k)⟩
theorem PM.none {σ : Sto} {T : Nat → Nat} (h : gi σ 101 8 = 0) : PM σ 0 T := ⟨h, by decide, fun k hk => absurd hk (Nat.not_lt_zero k)⟩
theorem inv_city {N : Nat} (hN : N ≤ 2000) {x : Int32} {σ : Sto} (h : INV N σ) {Q : Sto → Prop} (k : ∀ υ, INV (N + 1) υ → Q υ) : w_X11_city x σ (fun r σ1 => w_X12_city x σ1 (fun r2 σ2 => if r = r2 then Q σ2 else False)) := by
  obtain ⟨c, nm, w, s, hc, hm⟩ := h
  have hnw := hc.nw
  unfold NWD at hnw
  have hf := hc.co.2.1.2.1
  have hin : ∀ n, n ≤ w.2.1.1 → x = nI n → (¬ x < 0 ∧ ¬ nI w.2.1.1 < x) := fun n q1 q2 => by
    rw [q2]
    exact ⟨nn0 (by omega), nlt q1 (by omega)⟩
  refine c_city hc.kw hN hc.nw hc.co.2.1 hc.co.2.2.2.2.2.2.2 (fun h5 => ?_) (fun n hn hnf y t' hy τ e hd hk hcf h11 h12 hs h2 h18 h19 => ?_) (fun n hn hnf er her τ e hk hs h2 h18 h19 => ?_)
  · have e : Eo SQ σ (si σ 1 15 5) := Eo.si (by unfold SQ; omega)
    have hc1 := hc.ask (s' := 5) e hc.kw.st gi_si_s
    have hm1 := hm.lo hc.1 hc.ww (SQlo e)
    refine m_city hm1.mo.2.1 (fun _ υ e2 hs2 => ?_) (fun n hn hnf => absurd (hin n hnf hn) h5) (fun n hn hnf => absurd (hin n hnf hn) h5)
    rw [if_pos rfl]
    exact k υ ⟨c, nm, w, _, (hc1.up).hi (SMhi e2), hm1.ask hc.1 hc.ww e2 hs2⟩
  · have hc1 : IC (N + 1) τ y.1 y.2.1 (w.1, (0, w.2.1.2), w.2.2.1, w.2.2.2.1, w.2.2.2.2.1, w.2.2.2.2.2.1, (0, -1)) 0 := by
      refine ⟨hd.1, hd.2.1, hc.ww, hk, ?_, ?_, hs, ?_⟩
      · unfold NWD
        rw [h11, h12]
        omega
      · rw [h11]; exact hcf
      · exact hc.co.rePX hc.ww (fun a k q q2 => e.sme (by unfold PCO at q; unfold SCt SCi STn; omega)) (PC.none h2) ⟨h18, h19⟩
    have hm1 := hm.lo hc.1 hc.ww (fun a k ha => e.sme (by unfold SCt SCi STn; omega))
    refine m_city hm1.mo.2.1 (fun q => absurd (hin n hnf hn) q) (fun n' hn' hnf' y' t'' hy' υ e2 hd2 hb2 hs2 h82 h102 h112 => ?_) (fun n' hn' hnf' er her => ?_)
    · have en : n' = n := (jI_eq (by omega) (by omega)).mp (hn'.symm.trans hn)
      rw [en, hy] at hy'
      have ey : y = y' := congrArg Prod.fst (Sum.inr.inj hy')
      rw [← ey] at hb2 ⊢
      rw [if_pos rfl]
      exact k υ ⟨_, _, _, _, hc1.hi (e2.mo (fun a k q => by unfold SMc at q; omega)), hb2, hs2, hm1.mo.rePX (zP := (0, w.2.1.2)) (zX := (0, -1)) hc.ww (fun a k q q2 => e2.sme (by unfold PMO at q; unfold SMc; omega)) (PM.none h82) ⟨h102, h112⟩⟩
    · have en : n' = n := (jI_eq (by omega) (by omega)).mp (hn'.symm.trans hn)
      rw [en, hy] at her
      cases her
  · have hc1 : IC N τ c nm (w.1, (0, w.2.1.2), w.2.2.1, w.2.2.2.1, w.2.2.2.2.1, w.2.2.2.2.2.1, (nI er.1, nI er.2)) 10 := by
      have h11 := e.2.2 1 11 (by unfold RTa; omega)
      have h12 := e.2.2 1 12 (by unfold RTa; omega)
      refine ⟨hc.1, hc.2.1, hc.ww, hk, ?_, ?_, hs, ?_⟩
      · unfold NWD
        rw [h11, h12]
        exact hnw
      · rw [h11]
        exact hc.cf.sm (fun i k hi => e.sme (by unfold SCt SCi STn; omega))
      · exact hc.co.rePX hc.ww (fun a k q q2 => e.sme (by unfold PCO at q; unfold SCt SCi STn; omega)) (PC.none h2) ⟨h18, h19⟩
    have hm1 := hm.lo hc.1 hc.ww (fun a k ha => e.sme (by unfold SCt SCi STn; omega))
    refine m_city hm1.mo.2.1 (fun q => absurd (hin n hnf hn) q) (fun n' hn' hnf' y' t'' hy' => ?_) (fun n' hn' hnf' er2 her2 υ e2 h6 h8 hs2 h82 h102 h112 => ?_)
    · have en : n' = n := (jI_eq (by omega) (by omega)).mp (hn'.symm.trans hn)
      rw [en, her] at hy'
      cases hy'
    · have en : n' = n := (jI_eq (by omega) (by omega)).mp (hn'.symm.trans hn)
      rw [en, her] at her2
      have ee : er = er2 := Sum.inl.inj her2
      rw [← ee] at h102 h112
      rw [if_pos rfl]
      refine k υ ⟨c, nm, _, _, (hc1.up).hi (e2.mo (fun a k q => by unfold SMc at q; omega)), ⟨fun j hj => ?_, fun j hj => ?_⟩, hs2, hm1.mo.rePX (zP := (0, w.2.1.2)) (zX := (nI er.1, nI er.2)) hc.ww (fun a k q q2 => e2.sme (by unfold PMO at q; unfold SMc; omega)) (PM.none h82) ⟨h102, h112⟩⟩
      · have := hm1.1.1 j hj
        rw [Nat.mul_zero, Nat.zero_add] at this ⊢
        rw [h6 j hj]; exact this
      · have := hm1.1.2 j hj
        rw [Nat.mul_zero, Nat.zero_add] at this ⊢
        rw [h8 j (vN.lt hc.1 hj)]; exact this
