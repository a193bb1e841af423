/-! ===== promises 39, 40: the model's agenda ===== -/
def SO (a k : Nat) : Prop := a = 112 ∨ a = 113 ∨ (a = 101 ∧ (k = 31 ∨ k = 32))
theorem SO.m {σ τ : Sto} {c : Nat → Nat} (h : MR σ c) (e : Eo SO σ τ) : MR τ c := h.eo e (fun k q => by unfold SO at q; omega)
/-- the best told so far: told anew if there is none, or a lesser one -/
def better (b : Nat) (v : Nat) : Prop := b = 0 ∨ b - 1 < v
/-- what stands told: b (0 none, else one more), behind a call that offers v with n told ahead and L left -/
def agQ (c : Nat → Nat) (f L n v b : Nat) (row : Nat → Int32) (σ τ : Sto) : Prop :=
  (∀ k, k < n → gi τ 112 k = gi σ 112 k) ∧
  (better b v → gi τ 101 32 = nI v ∧ gi τ 101 31 = nI (n + card L) ∧ (∀ k, k < n → gi τ 113 k = row k) ∧ ∀ k, k < card L → gi τ 113 (n + k) = nI (grF c f L k)) ∧
  (¬ better b v → gi τ 101 32 = gi σ 101 32 ∧ gi τ 101 31 = gi σ 101 31 ∧ ∀ k, gi τ 113 k = gi σ 113 k)
theorem m_leaf {σ : Sto} {c : Nat → Nat} {P : Sto → Prop} {rec : Int32 → Int32 → Int32 → Int32 → Sto → (Sto → Prop) → Prop} {f n w b : Nat} (hn : n ≤ 6) (hb : better b w)
    (k : ∀ τ, Eo SO σ τ → agQ c f 0 n w b (gi σ 112) σ τ → P τ) : w_X12_orders_21 rec (nI n) (nI w) σ P := by
  unfold w_X12_orders_21
  refine Lp_for n (fun j q => q.1 = nI j ∧ Eo SO σ q.2 ∧ (∀ i, gi q.2 112 i = gi σ 112 i) ∧ gi q.2 101 32 = nI w ∧ gi q.2 101 31 = nI n ∧ ∀ i, i < j → gi q.2 113 i = gi σ 112 i) ⟨rfl, (Eo.si (by unfold SO; omega)).tr (Eo.si (by unfold SO; omega)), fun i => by dsimp only; rw [gi_si_a (by decide), gi_si_a (by decide)], by dsimp only; rw [gi_si_k (by decide), gi_si_s], gi_si_s, fun i hi => absurd hi (Nat.not_lt_zero _)⟩ ?_ ?_
  · rintro j hj K ⟨x5, τ⟩ ⟨r5, e, h1, h2, h3, h4⟩ hK
    dsimp only at r5 e h1 h2 h3 h4 hK ⊢
    subst r5
    unfold w_X12_orders_35
    rw [if_neg (by rw [jI_le (by omega) (by omega)]; omega), tn_nI (by omega), h1, N1, jI_add]
    refine ⟨vp_nI (by omega) (by decide), ?_⟩
    rintro x rfl
    refine hK _ ⟨rfl, e.tr (Eo.si (by unfold SO; omega)), fun i => ?_, ?_, ?_, fun i hi => ?_⟩
    · dsimp only; rw [gi_si_a (by decide)]; exact h1 i
    · dsimp only; rw [gi_si_a (by decide)]; exact h2
    · dsimp only; rw [gi_si_a (by decide)]; exact h3
    · dsimp only
      by_cases hij : i = j
      · subst hij; exact gi_si_s
      · rw [gi_si_k hij]; exact h4 i (by omega)
  · rintro K ⟨x5, τ⟩ ⟨r5, e, h1, h2, h3, h4⟩
    dsimp only at r5 e h1 h2 h3 h4 ⊢
    subst r5
    unfold w_X12_orders_35
    rw [if_pos (by rw [jI_le (by omega) (by omega)]; exact Nat.le_refl _)]
    refine k τ e ⟨fun i _ => h1 i, fun _ => ⟨h2, by rw [h3, card_0]; rfl, h4, fun i hi => by rw [card_0] at hi; exact absurd hi (Nat.not_lt_zero _)⟩, fun q => absurd hb q⟩
theorem m_orders {c : Nat → Nat} (ok : OK c) {f : Nat} (hf : f < 2 ^ c 0) : ∀ (m L n w b : Nat) (σ : Sto) (P : Sto → Prop), card L < m → sub L f → n + card L ≤ 6 → w ≤ 12 * n → b ≤ 2000 → MR σ c → gi σ 101 32 = oI b → (∀ τ, Eo SO σ τ → agQ c f L n (w + AV c f L) b (gi σ 112) σ τ → P τ) → w_X12_orders m (nI L) (nI (c 6 ||| sd f L)) (nI n) (nI w) σ P
  | 0, _, _, _, _, _, _, h, _, _, _, _, _, _, _ => absurd h (Nat.not_lt_zero _)
  | m + 1, L, n, w, b, σ, P, hm, hs, hn, hw, hb, hmr, hbest, k => by
    have := ok.n0
    have hL := sub_lt hs hf
    have hL12 := p12 hL ok.n0
    have hAV := AV_le ok (f := f) 12 L card_le hL
    have hcl := card_le (a := L)
    show w_X12_orders_e (w_X12_orders m) (nI L) (nI (c 6 ||| sd f L)) (nI n) (nI w) σ P
    unfold w_X12_orders_e
    rw [N0]
    by_cases h0 : L = 0
    · have hA0 : AV c f L = 0 := by rw [h0, AV_eq (by decide)]; rfl
      rw [hA0, h0, Nat.add_zero] at k
      rw [if_pos (by rw [h0]), hbest]
      by_cases hb0 : b = 0
      · rw [if_pos (show oI b < nI 0 from (oI_neg (by omega)).mpr hb0)]
        exact m_leaf (by omega) (Or.inl hb0) k
      · rw [if_neg (show ¬ oI b < nI 0 from fun q => hb0 ((oI_neg (by omega)).mp q))]
        obtain ⟨b', rfl⟩ : ∃ b', b = b' + 1 := ⟨b - 1, by omega⟩
        by_cases hl : b' < w
        · rw [if_pos (show oI (b' + 1) < nI w from (jI_lt (by omega) (by omega)).mpr hl)]
          exact m_leaf (by omega) (Or.inr hl) k
        · rw [if_neg (show ¬ oI (b' + 1) < nI w from fun q => hl ((jI_lt (by omega) (by omega)).mp q))]
          exact k σ Eo.rf ⟨fun _ _ => rfl, fun q => q.elim (fun z => absurd z hb0) (fun z => absurd z hl), fun _ => ⟨rfl, rfl, fun _ => rfl⟩⟩
    rw [if_neg (by rw [jI_eq (by omega) (by decide)]; exact h0)]
    have hcp := card_pos hL12 h0
    -- the state behind things below j
    refine Lp_for (c 0) (fun j q => q.1 = nI j ∧ Eo SO σ q.2 ∧ (∀ i, i < n → gi q.2 112 i = gi σ 112 i) ∧
      (((agP c f L j).1 = 0 ∨ ¬ better b (w + (agP c f L j).2)) → gi q.2 101 32 = gi σ 101 32 ∧ gi q.2 101 31 = gi σ 101 31 ∧ ∀ i, gi q.2 113 i = gi σ 113 i) ∧
      ((agP c f L j).1 ≠ 0 → better b (w + (agP c f L j).2) → gi q.2 101 32 = nI (w + (agP c f L j).2) ∧ gi q.2 101 31 = nI (n + card L) ∧ (∀ i, i < n → gi q.2 113 i = gi σ 112 i) ∧ gi q.2 113 n = nI ((agP c f L j).1 - 1) ∧ ∀ i, i + 1 < card L → gi q.2 113 (n + (i + 1)) = nI (grF c f (sd L (2 ^ ((agP c f L j).1 - 1))) i))) ⟨rfl, Eo.rf, fun _ _ => rfl, fun _ => ⟨rfl, rfl, fun _ => rfl⟩, fun q => absurd rfl q⟩ ?_ ?_
    · rintro j hj K ⟨x5, τ⟩ ⟨r5, e, hrow, hold, hnew⟩ hK
      dsimp only at r5 e hrow hold hnew hK ⊢
      subst r5
      have hmt := SO.m hmr e
      have hnj : ¬ c 0 ≤ j := by omega
      rw [agP_s] at hK
      have hpl : (agP c f L j).2 ≤ 156 := by
        rcases agP_in (c := c) (f := f) (L := L) j with ⟨a, b, d⟩ | ⟨t, a, b, d⟩
        · omega
        · rw [d]; exact valF_le ok hL
      generalize agP c f L j = p at hK hpl hold hnew
      have hvl := valF_le ok (f := f) (t := j) hL
      unfold w_X12_orders_65
      rw [hmt 0 (by decide), if_neg (by rw [jI_le (by omega) (by omega)]; exact hnj), t_has (by omega)]
      cases hbL : L.testBit j
      · rw [if_pos (show bI false = 0 from rfl), N1, jI_add]
        have hno : ¬ (false = true ∧ (p.1 = 0 ∨ p.2 < valF c f L j)) := fun q => by cases q.1
        rw [hbL, if_neg hno] at hK
        rintro x rfl
        exact hK _ ⟨rfl, e, hrow, hold, hnew⟩
      · rw [if_neg (show ¬ bI true = 0 by decide)]
        have hDlt : sd f (sd L (2 ^ j)) < 2 ^ c 0 := sub_lt sub_sd hf
        have hor : c 6 ||| sd f L ||| 2 ^ j = c 6 ||| sd f (sd L (2 ^ j)) := by rw [Nat.or_assoc, or_sd hs hbL]
        have hcs := card_sd hL12 hbL
        have hAV2 := AV_le ok (f := f) 12 (sd L (2 ^ j)) card_le (sub_lt sub_sd hL)
        have hcl2 := card_le (a := sd L (2 ^ j))
        have hwd : wdF c (sd f (sd L (2 ^ j))) ≤ 12 := card_le
        refine ⟨vp_nI (by omega) (by decide), ?_⟩
        rw [bit1 (by omega), jI_or, hor, tn_nI (by omega)]
        rintro x6 rfl
        have e1 : Eo SO τ (si τ 112 n (nI j)) := Eo.si (Or.inl rfl)
        have hm1 := SO.m hmt e1
        refine t_standing hm1 ok (t_doneBy hm1 ok ?_)
        refine t_sizeOf12 (doneF_12 ok) ?_
        rw [show card (doneF c (upF c (c 6 ||| sd f (sd L (2 ^ j))))) = wdF c (sd f (sd L (2 ^ j))) from rfl, jI_andn, N1, jI_add, jI_add, jI_add]
        -- what is told as the call begins
        have hvv : w + wdF c (sd f (sd L (2 ^ j))) + AV c f (sd L (2 ^ j)) = w + valF c f L j := by unfold valF; omega
        obtain ⟨b1, hb1, hb1l, hbc⟩ : ∃ b1, gi (si τ 112 n (nI j)) 101 32 = oI b1 ∧ b1 ≤ 2000 ∧ ((p.1 = 0 ∨ ¬ better b (w + p.2)) ∧ b1 = b ∨ (p.1 ≠ 0 ∧ better b (w + p.2)) ∧ b1 = w + p.2 + 1) := by
          rw [gi_si_a (by decide)]
          by_cases hq : p.1 = 0 ∨ ¬ better b (w + p.2)
          · exact ⟨b, by rw [(hold hq).1]; exact hbest, hb, Or.inl ⟨hq, rfl⟩⟩
          · have hq1 : p.1 ≠ 0 := fun z => hq (Or.inl z)
            have hq2 : better b (w + p.2) := Classical.byContradiction (fun z => hq (Or.inr z))
            exact ⟨w + p.2 + 1, (hnew hq1 hq2).1, by omega, Or.inr ⟨⟨hq1, hq2⟩, rfl⟩⟩
        refine m_orders ok hf m (sd L (2 ^ j)) (n + 1) (w + wdF c (sd f (sd L (2 ^ j)))) b1 (si τ 112 n (nI j)) _ (by omega) (sub_sd.tr hs) (by omega) (by omega) hb1l hm1 hb1 (fun υ e2 hq => ?_)
        rw [hvv] at hq
        obtain ⟨q1, q2, q3⟩ := hq
        rintro x rfl
        have hrow2 : ∀ i, i < n → gi (si τ 112 n (nI j)) 112 i = gi σ 112 i := fun i hi => by rw [gi_si_k (by omega)]; exact hrow i hi
        refine hK _ ⟨rfl, (e.tr e1).tr e2, fun i hi => ?_, ?_, ?_⟩
        · dsimp only; rw [q1 i (by omega)]; exact hrow2 i hi
        · dsimp only
          rw [hbL]
          intro hno
          by_cases htk : true = true ∧ (p.1 = 0 ∨ p.2 < valF c f L j)
          · rw [if_pos htk] at hno
            have hnb : ¬ better b (w + valF c f L j) := hno.elim (fun z => absurd z (Nat.succ_ne_zero _)) (fun z => z)
            have hnb1 : ¬ better b1 (w + valF c f L j) := by
              rcases hbc with ⟨-, z⟩ | ⟨⟨z1, z2⟩, z⟩
              · rw [z]; exact hnb
              · unfold better at hnb z2 ⊢
                rcases htk.2 with y | y <;> omega
            have hb1b : b1 = b := by
              rcases hbc with ⟨-, z⟩ | ⟨⟨z1, z2⟩, z⟩
              · exact z
              · unfold better at hnb z2
                rcases htk.2 with y | y <;> omega
            have hq' : p.1 = 0 ∨ ¬ better b (w + p.2) := by
              rcases hbc with ⟨z, -⟩ | ⟨⟨z1, z2⟩, z⟩
              · exact z
              · unfold better at hnb z2
                rcases htk.2 with y | y <;> omega
            obtain ⟨o1, o2, o3⟩ := hold hq'
            obtain ⟨a1, a2, a3⟩ := q3 hnb1
            exact ⟨by rw [a1, gi_si_a (by decide)]; exact o1, by rw [a2, gi_si_a (by decide)]; exact o2, fun i => by rw [a3, gi_si_a (by decide)]; exact o3 i⟩
          · rw [if_neg htk] at hno
            have hp1 : p.1 ≠ 0 := fun z => htk ⟨rfl, Or.inl z⟩
            have hp2 : ¬ p.2 < valF c f L j := fun z => htk ⟨rfl, Or.inr z⟩
            have hnb : ¬ better b (w + p.2) := hno.elim (fun z => absurd z hp1) (fun z => z)
            have hb1b : b1 = b := by
              rcases hbc with ⟨-, z⟩ | ⟨⟨z1, z2⟩, z⟩
              · exact z
              · exact absurd z2 hnb
            have hnb1 : ¬ better b1 (w + valF c f L j) := by
              rw [hb1b]
              unfold better at hnb ⊢
              omega
            obtain ⟨o1, o2, o3⟩ := hold (Or.inr hnb)
            obtain ⟨a1, a2, a3⟩ := q3 hnb1
            exact ⟨by rw [a1, gi_si_a (by decide)]; exact o1, by rw [a2, gi_si_a (by decide)]; exact o2, fun i => by rw [a3, gi_si_a (by decide)]; exact o3 i⟩
        · dsimp only
          rw [hbL]
          intro hne hbt
          by_cases htk : true = true ∧ (p.1 = 0 ∨ p.2 < valF c f L j)
          · rw [if_pos htk] at hne hbt ⊢
            dsimp only at hne hbt ⊢
            have hb1t : better b1 (w + valF c f L j) := by
              rcases hbc with ⟨-, z⟩ | ⟨⟨z1, z2⟩, z⟩
              · rw [z]; exact hbt
              · unfold better
                rcases htk.2 with y | y <;> omega
            obtain ⟨a1, a2, a3, a4⟩ := q2 hb1t
            rw [Nat.add_sub_cancel]
            refine ⟨a1, by rw [a2]; congr 1; omega, fun i hi => by rw [a3 i (by omega)]; exact hrow2 i hi, ?_, fun i hi => ?_⟩
            · rw [a3 n (by omega)]; exact gi_si_s
            · have := a4 i (by omega)
              rw [show n + (i + 1) = n + 1 + i by omega]
              exact this
          · rw [if_neg htk] at hne hbt ⊢
            have hp2 : ¬ p.2 < valF c f L j := fun z => htk ⟨rfl, Or.inr z⟩
            have hb1b : b1 = w + p.2 + 1 := by
              rcases hbc with ⟨z, -⟩ | ⟨-, z⟩
              · exact absurd hbt (z.elim (fun y => absurd y hne) (fun y => y))
              · exact z
            have hnb1 : ¬ better b1 (w + valF c f L j) := by
              unfold better
              omega
            obtain ⟨a1, a2, a3⟩ := q3 hnb1
            obtain ⟨o1, o2, o3, o4, o5⟩ := hnew hne hbt
            refine ⟨by rw [a1, gi_si_a (by decide)]; exact o1, by rw [a2, gi_si_a (by decide)]; exact o2, fun i hi => by rw [a3, gi_si_a (by decide)]; exact o3 i hi, by rw [a3, gi_si_a (by decide)]; exact o4, fun i hi => by rw [a3, gi_si_a (by decide)]; exact o5 i hi⟩
    · rintro K ⟨x5, τ⟩ ⟨r5, e, hrow, hold, hnew⟩
      dsimp only at r5 e hrow hold hnew ⊢
      subst r5
      have hmt := SO.m hmr e
      unfold w_X12_orders_65
      rw [hmt 0 (by decide), if_pos (by rw [jI_le (by omega) (by omega)]; exact Nat.le_refl _)]
      have hT := agT_in (f := f) rfl hL h0
      rw [hT.2] at hold hnew
      rw [← AV_T ok hL h0] at hold hnew
      dsimp only at hold hnew
      rw [Nat.add_sub_cancel] at hnew
      refine k τ e ⟨hrow, fun hbt => ?_, fun hnb => hold (Or.inr hnb)⟩
      obtain ⟨o1, o2, o3, o4, o5⟩ := hnew (Nat.succ_ne_zero _) hbt
      refine ⟨o1, o2, o3, fun i hi => ?_⟩
      cases i with
      | zero => exact o4
      | succ i =>
        rw [o5 i hi]
        unfold grF
        rw [itL_s]
def SMA (a k : Nat) : Prop := SM a k ∨ a = 113 ∨ (a = 101 ∧ k = 31)
theorem sma {σ τ : Sto} (e : Eo SM σ τ) : Eo SMA σ τ := e.mo (fun _ _ => Or.inl)
theorem SOa {a k : Nat} (h : SO a k) : SMA a k := by unfold SO at h; unfold SMA SM; omega
theorem in16 {n : Nat} (h : n < 1000) : ((1 : Int64) ≤ (nI n).toInt64 ∧ (nI n).toInt64 ≤ 6) ↔ 1 ≤ n ∧ n ≤ 6 := by
  have h1' : (1 : Int64).toInt = 1 := by decide
  have h4' : (6 : Int64).toInt = 6 := by decide
  rw [Int64.le_iff_toInt_le, Int64.le_iff_toInt_le, i64_int, h1', h4', jI_toInt (by omega)]
  omega
theorem m_agenda {σ : Sto} {c : Nat → Nat} {P : Int32 → Sto → Prop} (h : MR σ c) (ok : OK c) {x : Int32}
    (k : ∀ τ, Eo SMA σ τ → gi τ 101 0 = (agendaA c x).2.1 → agR (agendaA c x).2.2 (gi σ 101 31) (gi τ 101 31) (gi σ 113) (gi τ 113) → P (agendaA c x).1 τ) : w_X12_agenda x σ P := by
  have := ok.n0
  have := pw12 ok
  have hs : MR (si (si σ 101 1 0) 101 0 0) c := h.sm sm10
  have hst0 : gi (si (si σ 101 1 0) 101 0 0) 101 0 = 0 := gi_si_s
  have h31 : gi (si (si σ 101 1 0) 101 0 0) 101 31 = gi σ 101 31 := by rw [gi_si_k (by decide), gi_si_k (by decide)]
  have h113 : ∀ i, gi (si (si σ 101 1 0) 101 0 0) 113 i = gi σ 113 i := fun i => by rw [gi_si_a (by decide), gi_si_a (by decide)]
  have he : Eo SM σ (si (si σ 101 1 0) 101 0 0) := sm10
  unfold w_X12_agenda
  generalize si (si σ 101 1 0) 101 0 0 = υ at hs hst0 h31 h113 he ⊢
  have bad : ∀ (v : Int32), agendaA c x = (-1, v, none) → P (-1) (si υ 101 0 v) := fun v ea => by
    rw [ea] at k
    exact k _ (sma (he.tr sm0)) gi_si_s ⟨by rw [gi_si_k (by decide)]; exact h31, fun i => by rw [gi_si_a (by decide)]; exact h113 i⟩
  refine t_isSet hs ok (fun hx => ?_) (fun hx => ?_)
  · rw [if_neg (by decide)]
    obtain ⟨t, ht, rfl⟩ := hx
    have e1 : agendaA c (nI t) = agendaF c t := by
      unfold agendaA
      rw [ifD_pos ht (by omega), tn_nI (by omega)]
    have ht12 := p12 ht ok.n0
    have hct := card_le (a := t)
    rw [e1] at k bad
    unfold agendaF at k bad
    refine t_sizeOf12 ht12 ?_
    rw [t_isIn]
    by_cases h16 : 1 ≤ card t ∧ card t ≤ 6
    · have hno : ¬ (t = 0 ∨ 6 < card t) := fun q => q.elim (fun z => by rw [z, card_0] at h16; omega) (by omega)
      rw [if_neg hno] at k bad
      rw [decide_eq_true ((in16 (by omega)).mpr h16), if_neg (show ¬ bI true = 0 by decide)]
      refine t_now hs ok ?_
      have hsd := sd_12' (b := nowF c) ht12
      rw [jI_andn]
      by_cases hd : sd t (nowF c) = 0
      · rw [if_pos hd] at k
        rw [if_pos (show nI (sd t (nowF c)) = 0 by rw [hd]; rfl)]
        rintro σ14 rfl
        have e2 : Eo SO υ (si υ 101 32 (-1)) := Eo.si (by unfold SO; omega)
        have hm2 := SO.m hs e2
        rw [hm2 6 (by decide)]
        have ho := m_orders ok ht 16 t 0 0 0 (si υ 101 32 (-1)) (fun σ_16 => P (gi σ_16 101 32) σ_16) (by omega) sub.rf (by omega) (by decide) (by decide) hm2 gi_si_s (fun φ e3 hq => by
          obtain ⟨-, q2, -⟩ := hq
          rw [Nat.zero_add] at q2
          obtain ⟨a1, a2, -, a4⟩ := q2 (Or.inl rfl)
          rw [Nat.zero_add] at a2
          rw [a1]
          refine k φ ((sma he).tr ((e2.tr e3).mo (fun _ _ => SOa))) ?_ ⟨a2, fun i hi => ?_⟩
          · rw [e3.1 101 0 (by unfold SO; omega), gi_si_k (by decide)]
            exact hst0
          · have := a4 i hi
            rw [Nat.zero_add] at this
            exact this)
        rw [sd_zero.mpr sub.rf, Nat.or_zero] at ho
        exact ho
      · rw [if_neg hd] at bad
        rw [if_neg (show ¬ nI (sd t (nowF c)) = 0 by rw [N0, jI_eq (by omega) (by decide)]; exact hd)]
        exact bad 9 rfl
    · have hyes : t = 0 ∨ 6 < card t := by
        by_cases hz : t = 0
        · exact Or.inl hz
        · have := card_pos ht12 hz
          exact Or.inr (by omega)
      rw [if_pos hyes] at bad
      rw [decide_eq_false (fun q => h16 ((in16 (by omega)).mp q)), if_pos (show bI false = 0 from rfl)]
      exact bad 5 rfl
  · rw [if_pos rfl]
    exact bad 5 (ifD_neg hx (by omega))
theorem m_agendaAt {σ : Sto} {m : Nat} {P : Int32 → Sto → Prop} {l : Nat → Nat} (hm : gi σ 101 31 = nI m) (hm6 : m ≤ 6) (hl : ∀ k, k < m → gi σ 113 k = nI (l k)) {x : Int32} (k : ∀ τ, Eo SM σ τ → gi τ 101 0 = (agAtA m l x).2 → P (agAtA m l x).1 τ) : w_X12_agendaAt x σ P := by
  unfold w_X12_agendaAt
  rintro σ1 rfl
  have h31 : gi (si (si σ 101 1 0) 101 0 0) 101 31 = nI m := by rw [gi_si_k (by decide), gi_si_k (by decide)]; exact hm
  rw [h31, t_isIn]
  by_cases hx : inD x m
  · rw [decide_eq_true ((rangeI (by omega)).mpr hx), if_neg (show ¬ bI true = 0 by decide)]
    obtain ⟨i, hi, rfl⟩ := hx
    have e1 : agAtA m l (nI i) = (nI (l i), 0) := by
      unfold agAtA
      rw [ifD_pos hi (by omega), tn_nI (by omega)]
    rw [e1] at k
    refine ⟨vp_nI (by omega) (by decide), ?_⟩
    rw [tn_nI (by omega), gi_si_a (by decide), gi_si_a (by decide), hl i hi]
    exact k _ sm10 gi_si_s
  · rw [decide_eq_false (fun q => hx ((rangeI (by omega)).mp q)), if_pos (show bI false = 0 from rfl)]
    have e1 : agAtA m l x = (-1, 8) := ifD_neg hx (by omega)
    rw [e1] at k
    exact k _ (sm10.tr sm0) gi_si_s
