/-! ===== texts: things named up to a sign ===== -/
def thF (T : Nat → Nat) (n : Nat) (c : Nat → Nat) (nm : Nat → Int64) (b : Nat) : Nat → Nat → TKn → RS Nat
  | 0, _, _ => Sum.inl (0, 0)
  | d + 1, s, t => bS (toE T n c nm 0 b t) (fun x t' => if t'.1 = 3 ∧ t'.2.2.2.1 = 59 then Sum.inr (s ||| 2 ^ x, t') else thF T n c nm b d (s ||| 2 ^ x) t')
def thE (T : Nat → Nat) (n : Nat) (c : Nat → Nat) (nm : Nat → Int64) (b : Nat) (t : TKn) : RS Nat := thF T n c nm b 900 0 t
/-- enough rounds are left -/
def pg (T : Nat → Nat) (n d : Nat) (t : TKn) : Prop := ∃ p, p ≤ n ∧ n ≤ 900 ∧ t = tokF T n p ∧ (n + 801 ≤ p + 2 * d ∨ (n + 800 ≤ p + 2 * d ∧ ¬ (p < n ∧ 97 ≤ T p ∧ T p ≤ 122)))
theorem pg.nx {T : Nat → Nat} {n d : Nat} {t : TKn} (h : pg T n (d + 1) t) (h1 : t.1 = 1) : pg T n d (nxF T n t) := by
  obtain ⟨p, p1, p2, rfl, p3⟩ := h
  obtain ⟨a1, a2, a3, a4, a5⟩ := tokF_f (T := T) p1
  obtain ⟨b1, b2, b3, b4, b5, b6⟩ := a5 h1
  refine ⟨_, a3, p2, rfl, Or.inr ⟨?_, b6⟩⟩
  rcases p3 with p3 | ⟨p3, p4⟩
  · omega
  · have : (tokF T n p).2.1 ≠ p := fun q => by
      rw [q] at b1 b2 b3
      exact p4 ⟨by omega, b1, b2⟩
    omega
theorem pg.st {T : Nat → Nat} {n q : Nat} {t : TKn} (h : isTk T n q t) : pg T n 900 t := by
  obtain ⟨p, p1, p2, p3, rfl⟩ := h
  exact ⟨p, p2, p3, rfl, Or.inl (by omega)⟩
theorem pg.ab {T : Nat → Nat} {n : Nat} {t : TKn} (h : pg T n 0 t) : False := by
  obtain ⟨p, p1, p2, rfl, p3⟩ := h
  omega
theorem toE_r {T : Nat → Nat} {n : Nat} {c : Nat → Nat} {nm : Nat → Int64} {s b x : Nat} {t t' : TKn} (h : toE T n c nm s b t = Sum.inr (x, t')) : t.1 = 1 ∧ idF c nm s t = x + 1 ∧ x ≠ b ∧ t' = nxF T n t := by
  unfold toE at h
  by_cases z : t.1 = 1 ∧ t.2.2.2.2 ≤ 8 ∧ kwF t.2.2.2.1 = 0
  · rw [if_pos z] at h
    by_cases z0 : idF c nm s t = 0
    · rw [if_pos z0] at h
      exact absurd h (by intro q; cases q)
    · rw [if_neg z0] at h
      by_cases z1 : idF c nm s t = b + 1
      · rw [if_pos z1] at h
        exact absurd h (by intro q; cases q)
      · rw [if_neg z1] at h
        have e := Sum.inr.inj h
        have e1 : idF c nm s t - 1 = x := congrArg Prod.fst e
        have e2 : nxF T n t = t' := congrArg Prod.snd e
        exact ⟨z.1, by omega, by omega, e2.symm⟩
  · rw [if_neg z] at h
    exact absurd h (by intro q; cases q)
theorem orb_lt {s x m : Nat} (hs : s < 2 ^ m) (hx : x < m) : s ||| 2 ^ x < 2 ^ m := Nat.or_lt_two_pow hs (Nat.pow_lt_pow_right (by decide) hx)
theorem orb_bit {s x b : Nat} (hs : s.testBit b = false) (hx : x ≠ b) : (s ||| 2 ^ x).testBit b = false := by
  rw [Nat.testBit_or, hs, Nat.testBit_two_pow_of_ne hx]; rfl
theorem orb_n0 {s x : Nat} : s ||| 2 ^ x ≠ 0 := fun q => by
  have h : (s ||| 2 ^ x).testBit x = true := by rw [Nat.testBit_or, Nat.testBit_two_pow_self, Bool.or_true]
  rw [q, Nat.zero_testBit] at h
  exact absurd h (by decide)
/-- what the class's reader of a city stands on -/
def NC (σ : Sto) (a : Nat) (c : Nat → Nat) (nm : Nat → Int64) : Prop := isCity a ∧ gr σ 41 1 = a ∧ (∀ k, k < 24 → gl σ (a + 1) k = nm k) ∧ NmK c nm
theorem NC.eo {σ τ : Sto} {a : Nat} {c : Nat → Nat} {nm : Nat → Int64} (h : NC σ a c nm) (e : Eo ST0 σ τ) : NC τ a c nm := by
  have hr := h.1.rg
  exact ⟨h.1, by rw [e.2.2]; exact h.2.1, fun k hk => by rw [e.2.1 _ _ (by unfold ST0; omega)]; exact h.2.2.1 k hk, h.2.2.2⟩
def isBut (b : Nat) (x : Int32) : Prop := (b = 99 ∧ x = -1) ∨ (b < 12 ∧ x = nI b)
theorem isBut.ne {b m : Nat} {x : Int32} (h : isBut b x) (hm : m < 12) : nI m = x ↔ m = b := by
  rcases h with ⟨h1, h2⟩ | ⟨h1, h2⟩
  · rw [h2]
    exact ⟨fun q => absurd q (nn1 (by omega)), fun q => by omega⟩
  · rw [h2, jI_eq (by omega) (by omega)]
theorem c_ths_end {σ : Sto} {T : Nat → Nat} {n s d : Nat} {t : TKn} {x1 : Int32} {P : Int32 → Sto → Prop} (h : RdC σ T n t) (hs : s < 4096) (s0 : s ≠ 0) (hd : d ≤ 900) (z : isSg t 59) (k : P (nI s) σ) : LpB (fun (K : Int32 × Int32 × Sto → Prop) z => w_X2_readThings_4 K x1 z.1 z.2.1 z.2.2 P) (d + 1) (nI s, nI (900 - d), σ) := by
  refine LpB.go (fun K hK => ?_)
  dsimp only
  unfold w_X2_readThings_4
  rw [N900]
  by_cases q : 900 ≤ 900 - d
  · rw [if_pos ((jI_le (by decide) (by omega)).mpr q)]; exact k
  · rw [if_neg (fun y => q ((jI_le (by decide) (by omega)).mp y)), N0, if_neg (by rw [jI_eq (by omega) (by decide)]; exact s0)]
    refine c_isSign (x := 59) h.2.2.1 h.2.2.2.1 (by decide) (fun _ => ?_) (fun y => absurd z y)
    rw [if_neg (show ¬ (1 : Int32) = nI 0 by decide)]
    exact k
theorem c_ths0 {T : Nat → Nat} {n q a b : Nat} {c : Nat → Nat} {nm : Nat → Int64} {x1 : Int32} {P : Int32 → Sto → Prop} (hb : isBut b x1) : ∀ d s t σ, d ≤ 900 → RdC σ T n t → isTk T n q t → pg T n d t → NC σ a c nm → s < 2 ^ c 0 → s.testBit b = false → (s = 0 ∨ ¬ isSg t 59) →
    OC ST0 σ T n q (thF T n c nm b d s t) (fun x τ => x < 2 ^ c 0 → x.testBit b = false → P (nI x) τ) (fun τ => P (-1) τ) → LpB (fun (K : Int32 × Int32 × Sto → Prop) z => w_X2_readThings_4 K x1 z.1 z.2.1 z.2.2 P) (d + 1) (nI s, nI (900 - d), σ)
  | 0, s, t, σ, hd, h, ht, hp, hc, hs, hsb, hg, k => absurd hp (fun q => q.ab)
  | d + 1, s, t, σ, hd, h, ht, hp, hc, hs, hsb, hg, k => by
    have h0 := hc.2.2.2.1
    have hs12 : s < 4096 := Nat.lt_of_lt_of_le hs (Nat.pow_le_pow_right (n := 2) (by decide) h0)
    have go27 : ∀ K : Int32 × Int32 × Sto → Prop, (∀ s', LpB (fun (K : Int32 × Int32 × Sto → Prop) z => w_X2_readThings_4 K x1 z.1 z.2.1 z.2.2 P) (d + 1) s' → K s') → w_X2_readThings_27 K x1 (nI s) (nI (900 - (d + 1))) σ P := fun K hK => by
      unfold w_X2_readThings_27
      rw [hc.2.1]
      refine ⟨hc.1, c_see (s := 0) h ht hc.1 hc.2.2.1 hc.2.2.2 (by decide) (fun z m hm => ?_) (fun z y τ e g9 g10 => ?_) (fun z τ e g9 g10 => ?_)⟩
      · have hm0 : m < c 0 := by
          have := (idF_le (t := t) (s := 0) hc.2.2.2 (by decide)).1
          have e1 : cnt c 0 = c 0 := rfl
          omega
        rw [if_neg (nn1 (by omega))]
        by_cases he : m = b
        · have hr : toE T n c nm 0 b t = Sum.inl (5, t.2.1) := toE_5 z (by omega)
          rw [if_pos ((hb.ne (by omega)).mpr he)]
          refine c_fail (f := 5) h.2.2.1 h.2.2.2.1 (fun τ e g9 g10 => k.ff hr τ (e.mo (fun _ _ => STf0)) ?_ g10)
          rw [g9]
          unfold fkF
          rw [if_neg (by rw [z.1]; decide)]
        · have hr : toE T n c nm 0 b t = Sum.inr (m, nxF T n t) := toE_k z hm he
          rw [if_neg (fun y => he ((hb.ne (by omega)).mp y)), sh1 (by omega), jI_or]
          rintro _ rfl
          refine c_adv h (fun τ e h' => ?_)
          have e' : Eo ST0 σ τ := e.mo (fun _ _ => STk0)
          have k' := k.nx hr e'
          have hs' := orb_lt hs hm0
          rw [N1, jI_add, show 900 - (d + 1) + 1 = 900 - d by omega]
          rintro _ rfl
          refine hK _ ?_
          by_cases g : (nxF T n t).1 = 3 ∧ (nxF T n t).2.2.2.1 = 59
          · rw [if_pos g] at k'
            exact c_ths_end h' (Nat.lt_of_lt_of_le hs' (Nat.pow_le_pow_right (n := 2) (by decide) h0)) orb_n0 (by omega) g (k'.2 _ _ rfl τ Eo.rf h' ht.n1 hs' (orb_bit hsb he))
          · rw [if_neg g] at k'
            exact c_ths0 hb d _ _ τ (by omega) h' ht.n1 (hp.nx z.1) (hc.eo e') hs' (orb_bit hsb he) (Or.inr g) k'
      · have hr : toE T n c nm 0 b t = Sum.inl (3, t.2.1) := toE_0 z y
        rw [if_pos rfl]
        exact k.ff hr τ e g9 g10
      · have hr : toE T n c nm 0 b t = Sum.inl (fkF t 2, t.2.1) := toE_n z
        rw [if_pos rfl]
        exact k.ff hr τ e g9 g10
    refine LpB.go (fun K hK => ?_)
    dsimp only
    unfold w_X2_readThings_4
    rw [N900, if_neg (by rw [jI_le (by decide) (by omega)]; omega), N0]
    by_cases s0 : s = 0
    · rw [if_pos (by rw [s0])]
      exact go27 K hK
    · rw [if_neg (by rw [jI_eq (by omega) (by decide)]; exact s0)]
      refine c_isSign (x := 59) h.2.2.1 h.2.2.2.1 (by decide) (fun y => ?_) (fun _ => ?_)
      · rcases hg with hg | hg
        · exact absurd hg s0
        · exact absurd y hg
      · rw [if_pos (show (0 : Int32) = nI 0 from rfl)]
        exact go27 K hK
theorem c_ths {σ : Sto} {T : Nat → Nat} {n q a b : Nat} {c : Nat → Nat} {nm : Nat → Int64} {t : TKn} {x1 : Int32} {P : Int32 → Sto → Prop} (h : RdC σ T n t) (ht : isTk T n q t) (hc : NC σ a c nm) (hb : isBut b x1) (k : OC ST0 σ T n q (thE T n c nm b t) (fun x τ => x < 2 ^ c 0 → x.testBit b = false → P (nI x) τ) (fun τ => P (-1) τ)) : w_X2_readThings x1 σ P := by
  unfold w_X2_readThings
  have g := c_ths0 (P := P) hb 900 0 t σ (Nat.le_refl _) h ht (pg.st ht) hc (Nat.two_pow_pos _) (Nat.zero_testBit b) (Or.inl rfl) k
  exact g.lp
/-- the model's outcome, where it can also go on before a sign that isn't ';' -/
def OH {α : Type} (S : Nat → Nat → Prop) (σ : Sto) (T : Nat → Nat) (n q : Nat) (r : RS α) (P : Nat → Sto → Prop) : Prop :=
  ∀ t', r = Sum.inl (fkF t' 2, t'.2.1) → ¬ isSg t' 59 → ∀ x τ, x < 4096 → Eo S σ τ → gi τ 101 12 = nI 0 → RdM τ T n t' → isTk T n q t' → P x τ
theorem m_ths_bad {σ : Sto} {x1 : Int32} {b : Nat} {P : Int32 → Sto → Prop} (hb : gi σ 101 12 = nI b) (h0 : b ≠ 0) (h7 : b ≤ 7) (k : P 0 σ) : w_X12_readThings x1 σ P := by
  unfold w_X12_readThings
  refine (LpB.go (B := 0) (fun K hK => ?_)).lp
  dsimp only
  unfold w_X12_readThings_4
  rw [hb, if_neg (by rw [N0, jI_eq (by omega) (by decide)]; exact h0)]
  exact k
theorem m_ths_out {σ : Sto} {x1 : Int32} {b s d : Nat} {P : Int32 → Sto → Prop} (hb : gi σ 101 12 = nI b) (h0 : b ≠ 0) (h7 : b ≤ 7) {y : Int32} (k : P (nI s) σ) : LpB (fun (K : Int32 × Int32 × Sto → Prop) z => w_X12_readThings_4 K x1 z.1 z.2.1 z.2.2 P) (d + 1) (nI s, y, σ) := by
  refine LpB.go (fun K hK => ?_)
  dsimp only
  unfold w_X12_readThings_4
  rw [hb, if_neg (by rw [N0, jI_eq (by omega) (by decide)]; exact h0)]
  exact k
theorem OH.nx {α β : Type} {S : Nat → Nat → Prop} {σ τ : Sto} {T : Nat → Nat} {n q : Nat} {r : RS α} {g : α → TKn → RS β} {P : Nat → Sto → Prop} {x : α} {t : TKn} (k : OH S σ T n q (bS r g) P) (h : r = Sum.inr (x, t)) (e : Eo S σ τ) : OH S τ T n q (g x t) P :=
  fun t' he hg x' τ' hx e1 => k t' (by rw [bS_r h]; exact he) hg x' τ' hx (e.tr e1)
theorem NB.eo {σ τ : Sto} {b : Nat} {c : Nat → Nat} {nm : Nat → Int64} (h : NB σ b c nm) (e : Eo SM0 σ τ) : NB τ b c nm :=
  ⟨by rw [e.1 _ _ (by unfold SM0; omega)]; exact h.1, by rw [e.1 _ _ (by unfold SM0; omega)]; exact h.2.1, by rw [e.1 _ _ (by unfold SM0; omega)]; exact h.2.2.1, fun k hk => by rw [e.2.1 _ _ (by unfold SM0; omega)]; exact h.2.2.2 k hk⟩
theorem m_ths0 {T : Nat → Nat} {n q b : Nat} {c : Nat → Nat} {nm : Nat → Int64} {x1 : Int32} {P : Int32 → Sto → Prop} (hb : isBut b x1) (hk : NmK c nm) : ∀ d s t σ, RdM σ T n t → isTk T n q t → pg T n d t → gi σ 101 12 = nI 0 → NB σ 4 c nm → s < 2 ^ c 0 → s.testBit b = false →
    OM 4096 SM0 σ T n q (thF T n c nm b d s t) (fun x τ => x < 2 ^ c 0 → x.testBit b = false → P (nI x) τ) (fun x τ => P (nI x) τ) → OH SM0 σ T n q (thF T n c nm b d s t) (fun x τ => P (nI x) τ) → LpB (fun (K : Int32 × Int32 × Sto → Prop) z => w_X12_readThings_4 K x1 z.1 z.2.1 z.2.2 P) (d + 2) (nI s, 1, σ)
  | 0, s, t, σ, h, ht, hp, h12, hn, hs, hsb, k, kh => absurd hp (fun q => q.ab)
  | d + 1, s, t, σ, h, ht, hp, h12, hn, hs, hsb, k, kh => by
    have h0 := hk.1
    have h4096 : ∀ {x : Nat}, x < 2 ^ c 0 → x < 4096 := fun hx => Nat.lt_of_lt_of_le hx (Nat.pow_le_pow_right (n := 2) (by decide) h0)
    have hs12 := h4096 hs
    refine LpB.go (B := d + 2) (fun K hK => ?_)
    dsimp only
    unfold w_X12_readThings_4
    rw [h12, if_pos (show nI 0 = 0 from rfl), if_neg (show ¬ (1 : Int32) = 0 by decide)]
    refine m_told (a := 4) (s := 0) h ht h12 (by decide) hn hk (by decide) hb ⟨fun e he e0 e7 v τ hv e1 g12 g13 => ?_, fun x t' hr τ e1 g12 h' ht' hx => ?_⟩
    · dsimp only
      have hv' : s ||| 2 ^ v < 2 ^ 12 := orb_lt (by omega) hv
      rw [sh1 (by omega), jI_or]
      rintro _ rfl
      have fin : ∀ y : Int32, K (nI (s ||| 2 ^ v), y, τ) := fun y => hK _ (m_ths_out g12 e0 e7 (k.ff he e0 e7 _ τ hv' e1 g12 g13))
      by_cases z : gi τ 101 14 = 1
      · rw [if_pos z]; exact fin 1
      · rw [if_neg z]; exact fin 0
    · obtain ⟨r1, r2, r3, r4⟩ := toE_r hr
      have hx' : x < c 0 := hx
      have hs' := orb_lt hs hx'
      have hsb' := orb_bit hsb r3
      have k' := k.nx hr e1
      have kh' := kh.nx hr e1
      rw [sh1 (by omega), jI_or]
      rintro _ rfl
      have h14 := h'.2.2.1.1
      have hp' : pg T n d t' := by rw [r4]; exact hp.nx r1
      rw [h'.2.1.2.2.1, N1]
      by_cases z : t'.1 = 1
      · have ng : ¬ (t'.1 = 3 ∧ t'.2.2.2.1 = 59) := fun y => by omega
        rw [if_neg ng] at k' kh'
        rw [if_pos (by rw [z])]
        exact hK _ (m_ths0 hb hk d _ t' τ h' ht' hp' g12 (hn.eo e1) hs' hsb' k' kh')
      · rw [if_neg (by rw [jI_eq (by omega) (by decide)]; exact z)]
        refine hK _ (LpB.go (B := d + 1) (fun K' hK' => ?_))
        dsimp only
        unfold w_X12_readThings_4
        rw [g12, if_pos (show nI 0 = 0 from rfl), if_pos rfl]
        by_cases g : t'.1 = 3 ∧ t'.2.2.2.1 = 59
        · rw [if_pos g] at k'
          exact k'.2 _ _ rfl τ Eo.rf g12 h' ht' hs' hsb'
        · rw [if_neg g] at kh'
          obtain ⟨d', rfl⟩ : ∃ d', d = d' + 1 := ⟨d - 1, by
            rcases Nat.eq_zero_or_pos d with y | y
            · subst y; exact absurd hp' (fun q => q.ab)
            · omega⟩
          have hr' : toE T n c nm 0 b t' = Sum.inl (fkF t' 2, t'.2.1) := toE_n (fun y => z y.1)
          refine kh' t' ?_ g _ τ (h4096 hs') Eo.rf g12 h' ht'
          exact bS_l hr'
theorem m_ths {σ : Sto} {T : Nat → Nat} {n q b : Nat} {c : Nat → Nat} {nm : Nat → Int64} {t : TKn} {x1 : Int32} {P : Int32 → Sto → Prop} (h : RdM σ T n t) (ht : isTk T n q t) (h12 : gi σ 101 12 = nI 0) (hn : NB σ 4 c nm) (hk : NmK c nm) (hb : isBut b x1) (k : OM 4096 SM0 σ T n q (thE T n c nm b t) (fun x τ => x < 2 ^ c 0 → x.testBit b = false → P (nI x) τ) (fun x τ => P (nI x) τ)) (kh : OH SM0 σ T n q (thE T n c nm b t) (fun x τ => P (nI x) τ)) : w_X12_readThings x1 σ P := by
  unfold w_X12_readThings
  have g := m_ths0 (P := P) hb hk 900 0 t σ h ht (pg.st ht) h12 hn (Nat.two_pow_pos _) (Nat.zero_testBit b) k kh
  exact g.lp
