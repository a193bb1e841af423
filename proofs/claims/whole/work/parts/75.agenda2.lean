/-! ===== promises 39, 40: the class's agenda ===== -/
/-- what is left behind so many steps; the steps -/
def itL (c : Nat → Nat) (f L : Nat) : Nat → Nat
  | 0 => L
  | k + 1 => sd (itL c f L k) (2 ^ agT c f (itL c f L k))
def grF (c : Nat → Nat) (f L k : Nat) : Nat := agT c f (itL c f L k)
theorem itL_s {c : Nat → Nat} {f L : Nat} : ∀ k, itL c f L (k + 1) = itL c f (sd L (2 ^ agT c f L)) k
  | 0 => rfl
  | k + 1 => by
    show sd (itL c f L (k + 1)) (2 ^ agT c f (itL c f L (k + 1))) = sd (itL c f (sd L (2 ^ agT c f L)) k) (2 ^ agT c f (itL c f (sd L (2 ^ agT c f L)) k))
    rw [itL_s k]
theorem card_sd {s t : Nat} (hs : s < 4096) (h : s.testBit t = true) : card (sd s (2 ^ t)) + 1 = card s := by
  have h1 := card_or (g := sd s (2 ^ t)) (t := t) (bit_12 hs h) (by rw [sd_bit, two_bit]; simp)
  rw [or_sd_two h] at h1
  exact h1.symm
theorem itL_in {c : Nat → Nat} {f L n : Nat} (hn : n = c 0) (hn12 : n ≤ 12) (hL : L < 2 ^ n) : ∀ k, k ≤ card L → sub (itL c f L k) L ∧ card (itL c f L k) + k = card L
  | 0, _ => ⟨sub.rf, rfl⟩
  | k + 1, hk => by
    have ih := itL_in (c := c) (f := f) hn hn12 hL k (by omega)
    have hlt := sub_lt ih.1 hL
    have h0 : itL c f L k ≠ 0 := fun e => by rw [e, card_0] at ih; omega
    have h1 := (agT_in (f := f) hn hlt h0).1
    have h2 := card_sd (p12 hlt hn12) h1
    exact ⟨sub_sd.tr ih.1, by show card (sd (itL c f L k) (2 ^ agT c f (itL c f L k))) + (k + 1) = card L; omega⟩
def SL (a k : Nat) : Prop := a = 94 ∨ (a = 93 ∧ k = 4)
def SQL (a k : Nat) : Prop := SQ a k ∨ SL a k
theorem sql {σ τ : Sto} (e : Eo SQ σ τ) : Eo SQL σ τ := e.mo (fun _ _ => Or.inl)
theorem KW.sl {N : Nat} {σ τ : Sto} {c : Nat → Nat} (h : KW N σ c) (e : Eo SL σ τ) : KW N τ c :=
  h.mk e ⟨h.kb.1.eo e (fun a k q => by unfold SL at q; omega), h.kb.2.eo e (fun a k q => by unfold SL at q; omega) (by unfold SL; omega) (fun k q => by unfold SL at q; omega)⟩
theorem c_listFor {σ : Sto} {c : Nat → Nat} {P : Int32 → Sto → Prop} {N : Nat} (h : KW N σ c) (ok : OK c) (hN : N ≤ 2000) {f : Nat} (hf : f < 2 ^ c 0) (hc : card f ≤ 6)
    (k : ∀ τ, Eo SQL σ τ → KW N τ c → gi τ 93 4 = nI (card f) → (∀ i, i < card f → gi τ 94 i = nI (grF c f f i)) → P (nI (AV c f f)) τ) : w_X5_listFor (nI f) σ P := by
  have := ok.n0
  have hf12 := p12 hf ok.n0
  have hcf := card_le (a := f)
  have hp : 2 ^ card f ≤ 4096 := by
    have : (4096 : Nat) = 2 ^ 12 := by decide
    rw [this]; exact Nat.pow_le_pow_right (by decide) hcf
  unfold w_X5_listFor
  rw [t_bitCount12 hf12]
  refine Lp_for (2 ^ card f) (fun m q => ∃ e, q.1 = nI (sd f e) ∧ sub e f ∧ q.2.1 = nI m ∧ Eo SAG σ q.2.2 ∧ KW N q.2.2 c ∧ ((rkF f e 12 = m ∧ Ag q.2.2 c f e) ∨ Ag q.2.2 c f (f + 1))) ⟨0, by rw [sd_0], fun k hk => by simp at hk, rfl, Eo.rf, h, Or.inl ⟨rk_zero 12 (fun i _ => Nat.zero_testBit i), fun s _ q => absurd q (Nat.not_lt_zero _)⟩⟩ ?_ ?_
  · rintro m hm K ⟨x3, x4, τ⟩ ⟨e, r3, hsub, r4, e1, hw, hph⟩ hK
    dsimp only at r3 r4 e1 hw hph hK ⊢
    subst r3 r4
    have he := sub_le hsub
    have hdone := sub_le (sub_sd (a := f) (b := e))
    have hag : Ag τ c f e := by
      rcases hph with ⟨-, p⟩ | p
      · exact p
      · exact fun s hs hlt => p s hs (by omega)
    have go : ∀ υ, Eo S89 τ υ → KW N υ c → w_X5_listFor_43 K (nI f) (nI (card f)) (nI (sd f e)) (nI m) (nI (AV c f e)) (nI (sd f e)) υ P := fun υ e2 hw2 => by
      unfold w_X5_listFor_43
      rw [jI_pv hsub hf12, tn_nI (by omega), N1, jI_add]
      refine ⟨vp_nI (by omega) (by decide), ?_⟩
      rintro x rfl
      rintro y rfl
      have e3 : Eo SX υ (si υ 87 (sd f e) (nI (AV c f e))) := Eo.si (Or.inl rfl)
      have keep : ∀ s, sub s f → gi τ 87 (sd f s) = nI (AV c f s) → gi (si υ 87 (sd f e) (nI (AV c f e))) 87 (sd f s) = nI (AV c f s) := fun s hs hv => by
        by_cases hse : s = e
        · subst hse; exact gi_si_s
        · rw [gi_si_k (fun q => hse (by
            have h1 : sd f (sd f s) = sd f (sd f e) := by rw [q]
            have h2 : ∀ s, sub s f → sd f (sd f s) = s := fun s hs => Nat.eq_of_testBit_eq (fun k => by
              rw [sd_bit, sd_bit]
              have := hs k
              cases h1 : s.testBit k <;> cases h2 : f.testBit k <;> simp_all)
            rw [h2 s hs, h2 e hsub] at h1
            exact h1)), e2.1 87 _ (by unfold S89; decide)]
          exact hv
      refine hK _ ⟨nxN f e, rfl, nx_sub hsub hf12, rfl, (e1.tr (e2.mo (fun _ _ => Or.inr))).tr (Eo.si (Or.inl rfl)), hw2.ex e3, ?_⟩
      dsimp only
      rcases hph with ⟨p1, p2⟩ | p
      · by_cases hef : e = f
        · refine Or.inr (fun s hs hlt => ?_)
          by_cases hse : s = e
          · subst hse; exact gi_si_s
          · exact keep s hs (p2 s hs (by omega))
        · refine Or.inl ⟨by rw [rk_next hsub hf12 hef, p1], fun s hs hlt => ?_⟩
          by_cases hse : s = e
          · subst hse; exact gi_si_s
          · by_cases hsl : s < e
            · exact keep s hs (p2 s hs hsl)
            · have := nx_next hsub hf12 hef hs (by omega)
              omega
      · exact Or.inr (fun s hs hlt => keep s hs (p s hs hlt))
    unfold w_X5_listFor_10
    rw [bit1 (by omega), if_neg (by rw [jI_le (by omega) (by omega)]; omega)]
    by_cases he0 : e = 0
    · have e2 : sd f e = f := by rw [he0, sd_0]
      rw [if_pos (by rw [e2])]
      have e3 : AV c f e = 0 := by rw [he0, AV_eq (by decide)]; rfl
      rw [e3] at go
      exact go τ Eo.rf hw
    · have hne : sd f e ≠ f := sd_ne hsub he0
      rw [if_neg (by rw [jI_eq (by omega) (by omega)]; exact hne)]
      refine c_bestNext hw ok hN hf hsub he0 hag (fun υ e2 hw2 => ?_)
      have hT := (agT_in (f := f) rfl (sub_lt hsub hf) he0).1
      refine c_worthOfNext hw2 ok hN hf hsub hT ?_ (fun φ e3 hw3 => ?_)
      · rw [e2.1 87 _ (by unfold S89; decide)]
        exact hag _ (sub_sd.tr hsub) (sd_two_lt hT)
      · rw [← AV_T ok (sub_lt hsub hf) he0]
        exact go φ (e2.tr e3) hw3
  · rintro K ⟨x3, x4, τ⟩ ⟨e, r3, hsub, r4, e1, hw, hph⟩
    dsimp only at r3 r4 e1 hw hph ⊢
    subst r3 r4
    have hag : Ag τ c f (f + 1) := by
      rcases hph with ⟨p, -⟩ | p
      · have := rk_lt (f := f) (e := e)
        omega
      · exact p
    have e1' : Eo SQL σ τ := e1.mo (fun _ _ q => Or.inl (SAGq q))
    unfold w_X5_listFor_10
    rw [bit1 (by omega), if_pos (by rw [jI_le (by omega) (by omega)]; exact Nat.le_refl _)]
    refine Lp_for (card f) (fun j q => q.1 = nI (sd f (itL c f f j)) ∧ q.2.1 = nI j ∧ Eo SQL σ q.2.2 ∧ KW N q.2.2 c ∧ Ag q.2.2 c f (f + 1) ∧ gi q.2.2 93 4 = nI j ∧ ∀ i, i < j → gi q.2.2 94 i = nI (grF c f f i)) ⟨by show nI 0 = nI (sd f f); rw [sd_zero.mpr sub.rf], rfl, e1'.tr (Eo.si (Or.inr (Or.inr ⟨rfl, rfl⟩))), hw.sl (Eo.si (Or.inr ⟨rfl, rfl⟩)), fun s hs hlt => by dsimp only; rw [gi_si_a (by decide)]; exact hag s hs hlt, gi_si_s, fun i hi => absurd hi (Nat.not_lt_zero _)⟩ ?_ ?_
    · rintro j hj K2 ⟨x3, x4, υ⟩ ⟨r3, r4, e2, hw2, hag2, hli, hls⟩ hK2
      dsimp only at r3 r4 e2 hw2 hag2 hli hls hK2 ⊢
      subst r3 r4
      have hit := itL_in (c := c) (f := f) rfl ok.n0 hf j (by omega)
      have hLlt := sub_lt hit.1 hf
      have h0 : itL c f f j ≠ 0 := fun q => by rw [q, card_0] at hit; omega
      have hT := (agT_in (f := f) rfl hLlt h0).1
      have hTn := bit_n hLlt hT
      unfold w_X5_listFor_66
      rw [if_neg (by rw [jI_le (by omega) (by omega)]; omega), if_neg (by rw [N6, jI_le (by omega) (by omega)]; omega)]
      refine c_bestNext hw2 ok hN hf hit.1 h0 (fun s hs hlt => hag2 s hs (by have := sub_le hit.1; omega)) (fun φ e3 hw3 => ?_)
      rw [tn_nI (by omega)]
      refine ⟨vp_nI (by omega) (by decide), ?_⟩
      rintro σ9 rfl
      rintro σ11 rfl
      rw [gi_si_a (by decide), gi_si_s, gi_si_a (by decide), e3.1 93 4 (by unfold S89; decide), hli, bit1 (by omega), jI_or, or_sd hit.1 hT, N1, jI_add]
      rintro x rfl
      rintro y rfl
      have e4 : Eo SL φ (si (si φ 94 j (nI (agT c f (itL c f f j)))) 93 4 (nI (j + 1))) := Eo.tr (S := SL) (Eo.si (Or.inl rfl)) (Eo.si (Or.inr ⟨rfl, rfl⟩))
      refine hK2 _ ⟨rfl, rfl, (e2.tr (e3.mo (fun _ _ q => Or.inl (S89q q)))).tr (e4.mo (fun _ _ => Or.inr)), hw3.sl e4, fun s hs hlt => ?_, gi_si_s, fun i hi => ?_⟩
      · dsimp only
        rw [e4.1 87 _ (by unfold SL; omega), e3.1 87 _ (by unfold S89; decide)]
        exact hag2 s hs hlt
      · dsimp only
        rw [gi_si_a (by decide)]
        by_cases hij : i = j
        · subst hij; exact gi_si_s
        · rw [gi_si_k hij, e3.1 94 i (by unfold S89; decide)]
          exact hls i (by omega)
    · rintro K2 ⟨x3, x4, υ⟩ ⟨r3, r4, e2, hw2, hag2, hli, hls⟩
      dsimp only at r3 r4 e2 hw2 hag2 hli hls ⊢
      subst r3 r4
      have h0 := hag2 f sub.rf (by omega)
      rw [sd_zero.mpr sub.rf] at h0
      unfold w_X5_listFor_66
      rw [if_pos (by rw [jI_le (by omega) (by omega)]; exact Nat.le_refl _), h0]
      exact k υ e2 hw2 hli hls
/-- the agenda told, or as it was -/
def agR (o : Option (Nat × (Nat → Nat))) (m0 m1 : Int32) (l0 l1 : Nat → Int32) : Prop := match o with
  | none => m1 = m0 ∧ ∀ k, l1 k = l0 k
  | some p => m1 = nI p.1 ∧ ∀ k, k < p.1 → l1 k = nI (p.2 k)
def agendaF (c : Nat → Nat) (t : Nat) : Int32 × Int32 × Option (Nat × (Nat → Nat)) := if t = 0 ∨ 6 < card t then (-1, 5, none) else if sd t (nowF c) = 0 then (nI (AV c t t), 0, some (card t, grF c t t)) else (-1, 9, none)
def agendaA (c : Nat → Nat) (x : Int32) : Int32 × Int32 × Option (Nat × (Nat → Nat)) := if ¬ x < 0 ∧ x < nI (2 ^ c 0) then agendaF c (tn x) else (-1, 5, none)
theorem c_agenda {σ : Sto} {c : Nat → Nat} {P : Int32 → Sto → Prop} {N : Nat} (h : KW N σ c) (ok : OK c) (hN : N ≤ 2000) {x : Int32}
    (k : ∀ τ, Eo SQL σ τ → KW N τ c → gi τ 1 15 = (agendaA c x).2.1 → agR (agendaA c x).2.2 (gi σ 93 4) (gi τ 93 4) (gi σ 94) (gi τ 94) → P (agendaA c x).1 τ) : w_X11_agenda x σ P := by
  have := ok.n0
  have := pw12 ok
  have bad : ∀ (v : Int32) τ, Eo S89 σ τ → KW N τ c → agendaA c x = (-1, v, none) → P (-1) (si τ 1 15 v) := fun v τ e hw ea => by
    rw [ea] at k
    refine k _ (sql ((e.mo (fun _ _ => S89q)).tr stq)) hw.st gi_si_s ⟨?_, fun i => ?_⟩
    · rw [gi_si_a (by decide)]; exact e.1 93 4 (by unfold S89; decide)
    · rw [gi_si_a (by decide)]; exact e.1 94 i (by unfold S89; decide)
  unfold w_X11_agenda
  refine t_noSet h ok (fun hx => ?_) (fun hx => ?_)
  · rw [if_pos rfl]
    obtain ⟨t, ht, rfl⟩ := hx
    have e1 : agendaA c (nI t) = agendaF c t := by
      unfold agendaA
      rw [ifD_pos ht (by omega), tn_nI (by omega)]
    have ht12 := p12 ht ok.n0
    have hct := card_le (a := t)
    rw [e1] at k bad
    unfold agendaF at k bad
    by_cases h0 : t = 0
    · rw [if_pos (Or.inl h0)] at bad
      rw [if_pos (by rw [h0]; rfl)]
      exact bad 5 σ Eo.rf h rfl
    rw [if_neg (show ¬ nI t = 0 by rw [N0, jI_eq (by omega) (by decide)]; exact h0), t_bitCount12 ht12, N6]
    by_cases h6 : card t ≤ 6
    · rw [if_neg (fun q => q.elim h0 (by omega))] at k bad
      rw [if_pos ((jI_le (by omega) (by omega)).mpr h6)]
      refine t_atPresent h.kb.1 ok hN (fun τ e hs => ?_)
      have hw := h.e89 e hs
      have hsd := sd_12' (b := nowF c) ht12
      rw [jI_andn]
      by_cases hd : sd t (nowF c) = 0
      · rw [if_pos hd] at k
        rw [if_pos (show nI (sd t (nowF c)) = 0 by rw [hd]; rfl)]
        refine c_listFor hw ok hN ht h6 (fun υ e2 hw2 h4 hl => ?_)
        refine k _ (((sql (e.mo (fun _ _ => S89q))).tr e2).tr (sql stq)) hw2.st gi_si_s ⟨?_, fun i hi => ?_⟩
        · rw [gi_si_a (by decide)]; exact h4
        · rw [gi_si_a (by decide)]; exact hl i hi
      · rw [if_neg hd] at bad
        rw [if_neg (show ¬ nI (sd t (nowF c)) = 0 by rw [N0, jI_eq (by omega) (by decide)]; exact hd)]
        exact bad 9 τ e hw rfl
    · rw [if_pos (Or.inr (by omega))] at bad
      rw [if_neg (fun q => h6 ((jI_le (by omega) (by omega)).mp q))]
      exact bad 5 σ Eo.rf h rfl
  · rw [if_neg (by decide)]
    exact bad 5 σ Eo.rf h (ifD_neg hx (by omega))
/-- the k-th of so many told -/
def agAtA (m : Nat) (l : Nat → Nat) (x : Int32) : Int32 × Int32 := if ¬ x < 0 ∧ x < nI m then (nI (l (tn x)), 0) else (-1, 8)
theorem c_agendaAt {σ : Sto} {c : Nat → Nat} {P : Int32 → Sto → Prop} {N : Nat} (h : KW N σ c) {m : Nat} {l : Nat → Nat} (hm : gi σ 93 4 = nI m) (hm6 : m ≤ 6) (hl : ∀ k, k < m → gi σ 94 k = nI (l k)) {x : Int32} (k : ∀ τ, Eo SQ σ τ → KW N τ c → gi τ 1 15 = (agAtA m l x).2 → P (agAtA m l x).1 τ) : w_X11_agendaAt x σ P := by
  have hx := inD_iff (x := x) (N := m) (by omega)
  have bad : ¬ inD x m → w_X11_agendaAt_15 σ P := fun q => by
    have e1 : agAtA m l x = (-1, 8) := ifD_neg q (by omega)
    rw [e1] at k
    exact k _ stq h.st gi_si_s
  unfold w_X11_agendaAt
  by_cases h1 : x < 0
  · rw [if_pos h1]
    exact bad (fun q => (hx.mp q).1 h1)
  rw [if_neg h1, hm]
  by_cases h2 : x < nI m
  · rw [if_pos h2]
    obtain ⟨i, hi, rfl⟩ := hx.mpr ⟨h1, h2⟩
    have e1 : agAtA m l (nI i) = (nI (l i), 0) := by
      unfold agAtA
      rw [ifD_pos hi (by omega), tn_nI (by omega)]
    rw [e1] at k
    refine ⟨vp_nI (by omega) (by decide), ?_⟩
    rw [tn_nI (by omega), hl i hi]
    exact k _ stq h.st gi_si_s
  · rw [if_neg h2]
    exact bad (fun q => h2 (hx.mp q).2)
