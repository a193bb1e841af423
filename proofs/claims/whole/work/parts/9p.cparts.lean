/-! ===== texts: parts of a city, read by the class ===== -/
theorem jI_inc {n : Nat} : nI n + 1 = nI (n + 1) := by rw [N1, jI_add]
theorem one0 : ¬ (1 : Int32) = 0 := by decide
theorem newE_n {T : Nat → Nat} {n : Nat} {nm : Nat → Int64} {t : TKn} (z : ¬ isNm t) : newE T n nm t = Sum.inl (fkF t 2, t.2.1) := if_neg z
theorem newE_3 {T : Nat → Nat} {n : Nat} {nm : Nat → Int64} {t : TKn} (z : isNm t) (h : tkF nm t ≠ 0) : newE T n nm t = Sum.inl (3, t.2.1) := (if_pos z).trans (if_neg h)
theorem newE_k {T : Nat → Nat} {n : Nat} {nm : Nat → Int64} {t : TKn} (z : isNm t) (h : tkF nm t = 0) : newE T n nm t = Sum.inr (lI t.2.2.2.1, nxF T n t) := (if_pos z).trans (if_pos h)
theorem woE_1 {T : Nat → Nat} {n b : Nat} {c : Nat → Nat} {t : TKn} (z : isKw t 1) : woE T n b c t = bS (nuE T n 0 99 (nxF T n t)) (fun w t' => Sum.inr (updC c (8 + b) w, t')) := if_pos z
theorem woE_0 {T : Nat → Nat} {n b : Nat} {c : Nat → Nat} {t : TKn} (z : ¬ isKw t 1) : woE T n b c t = Sum.inr (c, t) := if_neg z
theorem exE_1 {T : Nat → Nat} {n b : Nat} {c : Nat → Nat} {t : TKn} (z : isKw t 2) : exE T n b c t = Sum.inr (updC c 7 (c 7 ||| 2 ^ b), nxF T n t) := if_pos z
theorem exE_0 {T : Nat → Nat} {n b : Nat} {c : Nat → Nat} {t : TKn} (z : ¬ isKw t 2) : exE T n b c t = Sum.inr (c, t) := if_neg z
theorem fk_1 {t : TKn} {f : Nat} (h : t.1 ≠ 4) : fkF t f = f := if_neg h
theorem SDc0 {a x k : Nat} (h : ST0 x k) : SDc a x k := Or.inl h
theorem SDcC {a i k : Nat} (h : i ≤ 13) : SDc a (a + i) k := Or.inr (Or.inl ⟨by omega, by omega⟩)
theorem c_begin {σ : Sto} {T : Nat → Nat} {n x y : Nat} {t : TKn} {P : Int32 → Sto → Prop} (h : RdC σ T n t) (h4 : t.1 ≠ 4) (hx : x < 100) (hy : y < 100) (k1 : x < y → ∀ τ, Eo ST0 σ τ → RdC τ T n (nxF T n t) → P 1 τ) (k0 : ¬ x < y → ∀ τ, Eo ST0 σ τ → gi τ 10 9 = nI 6 → gi τ 10 10 = nI t.2.1 → P 0 τ) : w_X2_begin (nI x) (nI y) σ P := by
  unfold w_X2_begin
  by_cases z : x < y
  · rw [if_pos ((jI_lt (by omega) (by omega)).mpr z)]
    exact c_adv h (fun τ e h' => k1 z τ (e.mo (fun _ _ => STk0)) h')
  · rw [if_neg (fun q => z ((jI_lt (by omega) (by omega)).mp q))]
    refine c_fail (f := 6) h.2.2.1 h.2.2.2.1 (fun τ e g9 g10 => ⟨Or.inl rfl, k0 z τ (e.mo (fun _ _ => STf0)) ?_ g10⟩)
    rw [g9, fk_1 h4]
theorem c_new {σ : Sto} {T : Nat → Nat} {n q a l k : Nat} {c : Nat → Nat} {nm : Nat → Int64} {t : TKn} {P : Int32 → Sto → Prop} (h : RdC σ T n t) (ht : isTk T n q t) (hd : DrC σ a c nm l) (hs : k < 24) (kk : OC (SDc a) σ T n q (newE T n nm t) (fun v τ => DrC τ a c (nmU nm k v) l → P 1 τ) (fun τ => P 0 τ)) : w_X2_readNewName (nI k) σ P := by
  have hw := h.2.2.2.1
  have hi := (c_kind h.2.2.1 hw).2.1
  have hc := hd.1.1
  unfold w_X2_readNewName
  by_cases z : isNm t
  · rw [if_pos (hi.mpr z), hd.1.2.1]
    have hg : gl σ 10 8 = lI t.2.2.2.1 := ((h.2.2.1.2.2.2.1 z.1).1 z.2.1).1
    rw [hg]
    refine ⟨hc, c_isTaken hc hd.2.2.2.1 (fun y => ?_) (fun y => ?_)⟩
    · have h3 : tkF nm t ≠ 0 := fun q => by
        obtain ⟨i, i1, i2⟩ := y
        have := (fdF_zero 24).mp q i i1
        rw [Nat.zero_add] at this
        exact this i2
      rw [if_neg one0]
      refine c_fail (f := 3) h.2.2.1 hw (fun τ e g9 g10 => ⟨Or.inl rfl, kk.1 _ (newE_3 z h3) τ (e.mo (fun _ _ q => SDc0 (STf0 q))) ?_ g10⟩)
      rw [g9, fk_1 (by rw [z.1]; decide)]
    · have h0 : tkF nm t = 0 := (fdF_zero 24).mpr (fun i hi => by rw [Nat.zero_add]; exact y i hi)
      rw [if_pos rfl, hd.1.2.1, hg, tn_nI (by omega)]
      refine ⟨hc, vp_nI hs (by decide), ?_⟩
      have e1 : Eo (fun x k => SCi a x k ∨ (x = 41 ∧ k = 2)) σ (sl σ (a + 1) k (lI t.2.2.2.1)) := Eo.sl (Or.inl ⟨by omega, by omega⟩)
      refine c_adv (h.city hc e1) (fun τ e h' => ?_)
      exact kk.2 _ _ (newE_k z h0) τ ((Eo.sl (SDcC (by decide))).tr (e.mo (fun _ _ q => SDc0 (STk0 q)))) h' ht.n1 (hd.name.eo (e.mo (fun _ _ => STk0)))
  · rw [if_neg (fun y => z (hi.mp y))]
    exact c_fail (f := 2) h.2.2.1 hw (fun τ e g9 g10 => ⟨Or.inl rfl, kk.1 _ (newE_n z) τ (e.mo (fun _ _ q => SDc0 (STf0 q))) g9 g10⟩)
theorem c_ex {σ : Sto} {T : Nat → Nat} {n q a l b : Nat} {c : Nat → Nat} {nm : Nat → Int64} {t : TKn} {P : Int32 → Sto → Prop} {Q : Sto → Prop} (h : RdC σ T n t) (ht : isTk T n q t) (hd : DrC σ a c nm l) (hb : b < 12) (kk : OC (SDc a) σ T n q (exE T n b c t) (fun c' τ => DrC τ a c' nm l → P 1 τ) Q) : w_X2_readThing_87 (nI b) σ P := by
  have hc := hd.1.1
  unfold w_X2_readThing_87
  refine c_isKeyword (i := 2) h.2.2.1 h.2.2.2.1 (by decide) (fun z => ?_) (fun z => ?_)
  · rw [if_neg one0]
    refine c_adv h (fun τ e h' => ?_)
    have hd' := hd.eo (e.mo (fun _ _ => STk0))
    have f7 : gi τ a 15 = nI (c 7) := hd'.f (k := 7) (by decide)
    rw [hd'.1.2.1, f7, sh1 (by omega), jI_or]
    refine ⟨hc, ?_⟩
    have e1 : Eo (fun x k => SCi a x k ∨ (x = 41 ∧ k = 2)) τ (si τ a 15 (nI (c 7 ||| 2 ^ b))) := Eo.si (Or.inl ⟨by omega, by omega⟩)
    exact kk.2 _ _ (exE_1 z) _ ((e.mo (fun _ _ q => SDc0 (STk0 q))).tr (Eo.si (SDcC (i := 0) (by decide)))) (h'.city hc e1) ht.n1 (hd'.put (i := 7) (v := c 7 ||| 2 ^ b) (by decide) (by decide) (by omega))
  · rw [if_pos rfl]
    exact kk.2 _ _ (exE_0 z) σ Eo.rf h ht hd
theorem c_rdThing {σ : Sto} {T : Nat → Nat} {n q a l : Nat} {c : Nat → Nat} {nm : Nat → Int64} {t : TKn} {P : Int32 → Sto → Prop} (h : RdC σ T n t) (ht : isTk T n q t) (h4 : t.1 ≠ 4) (hd : DrC σ a c nm l) (hk : NmK c nm) (k : OC (SDc a) σ T n q (thingE T n c nm l t) (fun x τ => DrC τ a x.1 x.2.1 x.2.2 → P 1 τ) (fun τ => P 0 τ)) : w_X2_readThing σ P := by
  have hc := hd.1.1
  have hr := hc.rg
  have k0 := hk.1
  have f0 : gi σ a 8 = nI (c 0) := hd.f (k := 0) (by decide)
  unfold w_X2_readThing
  rw [hd.1.2.1, f0]
  refine ⟨hc, ?_⟩
  rintro _ rfl
  unfold thingE at k
  refine c_begin (y := 12) h h4 (by omega) (by decide) (fun hlt τ e1 h1 => ?_) (fun hlt τ e1 g9 g10 => ?_)
  · rw [if_pos hlt] at k
    have e1' : Eo (SDc a) σ τ := e1.mo (fun _ _ => SDc0)
    rw [if_neg one0]
    refine c_new h1 ht.n1 (hd.eo e1) (by omega) ⟨fun e he τ2 e2 g9 g10 => ?_, fun v t1 hv τ2 e2 h2 ht2 hd2 => ?_⟩
    · try dsimp only
      rw [if_pos rfl]; exact k.ff he τ2 (e1'.tr e2) g9 g10
    · have k2 := k.nx hv (e1'.tr e2)
      have f2 : gi τ2 a 8 = nI (c 0) := hd2.f (k := 0) (by decide)
      try dsimp only
      rw [if_neg one0, hd2.1.2.1, f2, jI_inc]
      refine ⟨hc, ?_⟩
      have hd3 := hd2.thing hlt
      have h3 := h2.city hc (Eo.si (σ := τ2) (a := a) (k := 8) (v := nI (c 0 + 1)) (Or.inl ⟨by omega, by omega⟩))
      have e3 : Eo (SDc a) τ2 (si τ2 a 8 (nI (c 0 + 1))) := Eo.si (SDcC (i := 0) (by decide))
      generalize si τ2 a 8 (nI (c 0 + 1)) = σ3 at hd3 h3 e3 ⊢
      have hlt1 : c 0 < updC (updC c (8 + c 0) 1) 0 (c 0 + 1) 0 := by rw [updC_s]; omega
      generalize updC (updC c (8 + c 0) 1) 0 (c 0 + 1) = c1 at hd3 k2 hlt1
      refine c_isKeyword (i := 1) h3.2.2.1 h3.2.2.2.1 (by decide) (fun z => ?_) (fun z => ?_)
      · rw [if_neg one0]
        refine c_adv h3 (fun τ4 e4 h4 => ?_)
        have e4' : Eo (SDc a) τ2 τ4 := e3.tr (e4.mo (fun _ _ q => SDc0 (STk0 q)))
        refine c_nu (lo := 0) (hi := 99) h4 ht2.n1 (by decide) (by decide) ⟨fun e he τ5 e5 g9 g10 => ?_, fun w t2 hw τ5 e5 h5 ht5 w0 w9 => ?_⟩
        · try dsimp only
          rw [if_pos rfl]
          exact k2.ff ((woE_1 z).trans (bS_l he)) τ5 (e4'.tr (e5.mo (fun _ _ => SDc0))) g9 g10
        · have k3 := k2.nx ((woE_1 z).trans (bS_r hw)) (e4'.tr (e5.mo (fun _ _ => SDc0)))
          have hd5 := (hd3.eo (e4.mo (fun _ _ => STk0))).eo e5
          try dsimp only
          rw [if_neg (nn1 (by omega)), hd5.1.2.1, tn_nI (by omega)]
          refine ⟨hc, vp_nI hlt (by decide), ?_⟩
          have hd6 := hd5.put (i := 8 + c 0) (v := w) (by omega) (by omega) (by omega)
          have cs := lcs (8 + c 0)
          rw [show lA (8 + c 0) = 2 by omega, show lK (8 + c 0) = c 0 by omega] at hd6
          have h6 := h5.city hc (Eo.si (σ := τ5) (a := a + 2) (k := c 0) (v := nI w) (Or.inl ⟨by omega, by omega⟩))
          have e6 : Eo (SDc a) τ5 (si τ5 (a + 2) (c 0) (nI w)) := Eo.si (SDcC (by decide))
          refine c_ex (Q := fun _ => True) h6 ht5 hd6 hlt ⟨fun e he τ7 e7 g9 g10 => trivial, fun c3 t3 hx τ7 e7 h7 ht7 hd7 => ?_⟩
          exact (k3.nx hx (e6.tr e7)).2 _ _ rfl τ7 Eo.rf h7 ht7 hd7
      · rw [if_pos rfl]
        have k3 := k2.nx (woE_0 z) e3
        refine c_ex (Q := fun _ => True) h3 ht2 hd3 hlt ⟨fun e he τ7 e7 g9 g10 => trivial, fun c3 t3 hx τ7 e7 h7 ht7 hd7 => ?_⟩
        exact (k3.nx hx e7).2 _ _ rfl τ7 Eo.rf h7 ht7 hd7
  · rw [if_neg hlt] at k
    rw [if_pos rfl]
    exact k.1 _ rfl τ (e1.mo (fun _ _ => SDc0)) g9 g10
theorem c_rdMakes {σ : Sto} {T : Nat → Nat} {n q a l : Nat} {c : Nat → Nat} {nm : Nat → Int64} {t : TKn} {P : Int32 → Sto → Prop} (h : RdC σ T n t) (ht : isTk T n q t) (h4 : t.1 ≠ 4) (hd : DrC σ a c nm l) (hk : NmK c nm) (hc1 : c 1 ≤ 16) (k : OC (SDc a) σ T n q (makesE T n c nm l t) (fun x τ => DrC τ a x.1 x.2.1 x.2.2 → P 1 τ) (fun τ => P 0 τ)) : w_X2_readMakes σ P := by
  have hc := hd.1.1
  have hr := hc.rg
  have k0 := hk.1
  have f0 : gi σ a 9 = nI (c 1) := hd.f (k := 1) (by decide)
  unfold w_X2_readMakes
  rw [hd.1.2.1, f0]
  refine ⟨hc, ?_⟩
  rintro _ rfl
  unfold makesE at k
  refine c_begin (y := 16) h h4 (by omega) (by decide) (fun hlt τ e1 h1 => ?_) (fun hlt τ e1 g9 g10 => ?_)
  · rw [if_pos hlt] at k
    have e1' : Eo (SDc a) σ τ := e1.mo (fun _ _ => SDc0)
    have hd1 := hd.eo e1
    rw [if_neg one0, hd1.1.2.1]
    refine ⟨hc, c_told (s := 0) h1 ht.n1 hc hd1.2.2.2.1 hk (by decide) ⟨fun e he τ2 e2 g9 g10 => ?_, fun p t1 hp τ2 e2 h2 ht2 hp0 => ?_⟩⟩
    · try dsimp only
      rw [if_pos rfl]; exact k.ff he τ2 (e1'.tr (e2.mo (fun _ _ => SDc0))) g9 g10
    · have e2' := e1'.tr (e2.mo (fun _ _ => SDc0 (a := a)))
      have k2 := k.nx hp e2'
      have hp1 : p < c 0 := hp0
      try dsimp only
      rw [if_neg (nn1 (by omega))]
      refine c_kw (i := 4) h2 ht2 (by decide) ⟨fun e he τ3 e3 g9 g10 => ?_, fun _ t2 hq τ3 e3 h3 ht3 => ?_⟩
      · try dsimp only
        rw [if_pos rfl]; exact k2.ff he τ3 (e3.mo (fun _ _ => SDc0)) g9 g10
      · have k3 := k2.nx hq (e3.mo (fun _ _ => SDc0 (a := a)))
        have hd3 := (hd1.eo e2).eo e3
        try dsimp only
        rw [if_neg one0]
        refine c_ths (b := p) h3 ht3 (hd3.nc hk) (Or.inr ⟨by omega, rfl⟩) ⟨fun e he τ4 e4 g9 g10 => ?_, fun s t3 hs τ4 e4 h4 ht4 hs1 hs2 => ?_⟩
        · try dsimp only
          rw [if_pos rfl]; exact k3.ff he τ4 (e4.mo (fun _ _ => SDc0)) g9 g10
        · have k4 := k3.nx hs (e4.mo (fun _ _ => SDc0 (a := a)))
          have hd4 := hd3.eo e4
          have hs4 : s < 4096 := Nat.lt_of_lt_of_le hs1 (Nat.pow_le_pow_right (n := 2) (by decide) k0)
          try dsimp only
          rw [if_neg (nn1 (by omega)), hd4.1.2.1, tn_nI (by omega)]
          refine ⟨hc, vp_nI hlt (by decide), ?_⟩
          rintro _ rfl
          rw [show gr (si τ4 (a + 3) (c 1) (nI p)) 41 1 = a from hd4.1.2.1]
          refine ⟨hc, ?_⟩
          rintro _ rfl
          rw [show gr (si (si τ4 (a + 3) (c 1) (nI p)) (a + 4) (c 1) (nI s)) 41 1 = a from hd4.1.2.1]
          refine ⟨hc, ?_⟩
          rw [gi_si_a (by omega), gi_si_a (by omega), show gi τ4 a 9 = nI (c 1) from hd4.f (k := 1) (by decide), jI_inc]
          have hd5 := hd4.making (p := p) (s := s) hlt
          have e5 : Eo (fun x k => SCi a x k ∨ (x = 41 ∧ k = 2)) τ4 (si (si (si τ4 (a + 3) (c 1) (nI p)) (a + 4) (c 1) (nI s)) a 9 (nI (c 1 + 1))) := ((Eo.si (Or.inl ⟨by omega, by omega⟩)).tr (Eo.si (Or.inl ⟨by omega, by omega⟩))).tr (Eo.si (Or.inl ⟨by omega, by omega⟩))
          exact k4.2 _ _ rfl _ (e5.mo (fun _ _ q => Or.inr q)) (h4.city hc e5) ht4 hd5
  · rw [if_neg hlt] at k
    rw [if_pos rfl]
    exact k.1 _ rfl τ (e1.mo (fun _ _ => SDc0)) g9 g10
/-- the names of things alone matter, where things are named -/
theorem thF_cg {T : Nat → Nat} {n b : Nat} {c d : Nat → Nat} {nm nm' : Nat → Int64} (h : ∀ t, idF c nm 0 t = idF d nm' 0 t) : ∀ f s t, thF T n c nm b f s t = thF T n d nm' b f s t
  | 0, _, _ => rfl
  | f + 1, s, t => by
    have e : toE T n c nm 0 b t = toE T n d nm' 0 b t := by
      unfold toE
      rw [h]
    have ih := fun s t => thF_cg (b := b) (T := T) (n := n) h f s t
    show bS (toE T n c nm 0 b t) (fun x t' => if t'.1 = 3 ∧ t'.2.2.2.1 = 59 then Sum.inr (s ||| 2 ^ x, t') else thF T n c nm b f (s ||| 2 ^ x) t') = bS (toE T n d nm' 0 b t) (fun x t' => if t'.1 = 3 ∧ t'.2.2.2.1 = 59 then Sum.inr (s ||| 2 ^ x, t') else thF T n d nm' b f (s ||| 2 ^ x) t')
    rw [e]
    congr 1
    funext x t'
    rw [ih]
theorem fdF_cg {nm nm' : Nat → Int64} {f : Nat} {v : Int64} : ∀ m, (∀ k, k < m → nm (f + k) = nm' (f + k)) → fdF nm f v m = fdF nm' f v m
  | 0, _ => rfl
  | m + 1, h => by
    have ih := fdF_cg (v := v) m (fun k hk => h k (by omega))
    show (if fdF nm f v m ≠ 0 then fdF nm f v m else if nm (f + m) = v then m + 1 else 0) = (if fdF nm' f v m ≠ 0 then fdF nm' f v m else if nm' (f + m) = v then m + 1 else 0)
    rw [ih, h m (by omega)]
theorem NmK.add {c : Nat → Nat} {nm : Nat → Int64} {k i : Nat} {v : Int64} (h : NmK c nm) (hi : (i = 0 ∧ k = c 0 ∧ c 0 < 12) ∨ (i = 2 ∧ k = 12 + c 2 ∧ c 2 < 6) ∨ (i = 3 ∧ k = 18 + c 3 ∧ c 3 < 6)) : NmK (updC c i (c i + 1)) (nmU nm k v) := by
  obtain ⟨h0, h2, h3, h4⟩ := h
  rcases hi with ⟨rfl, rfl, hl⟩ | ⟨rfl, rfl, hl⟩ | ⟨rfl, rfl, hl⟩
  · refine ⟨by rw [updC_s]; omega, by rw [updC_n (by decide)]; exact h2, by rw [updC_n (by decide)]; exact h3, fun k hk q => ?_⟩
    unfold vN at q
    rw [updC_s, updC_n (by decide), updC_n (by decide)] at q
    rw [nmU_n (by omega)]
    exact h4 k hk (fun z => q (by unfold vN at z; omega))
  · refine ⟨by rw [updC_n (by decide)]; exact h0, by rw [updC_s]; omega, by rw [updC_n (by decide)]; exact h3, fun k hk q => ?_⟩
    unfold vN at q
    rw [updC_s, updC_n (by decide), updC_n (by decide)] at q
    rw [nmU_n (by omega)]
    exact h4 k hk (fun z => q (by unfold vN at z; omega))
  · refine ⟨by rw [updC_n (by decide)]; exact h0, by rw [updC_n (by decide)]; exact h2, by rw [updC_s]; omega, fun k hk q => ?_⟩
    unfold vN at q
    rw [updC_s, updC_n (by decide), updC_n (by decide)] at q
    rw [nmU_n (by omega)]
    exact h4 k hk (fun z => q (by unfold vN at z; omega))
theorem c_rdWork {σ : Sto} {T : Nat → Nat} {n q a l : Nat} {c : Nat → Nat} {nm : Nat → Int64} {t : TKn} {P : Int32 → Sto → Prop} (h : RdC σ T n t) (ht : isTk T n q t) (h4 : t.1 ≠ 4) (hd : DrC σ a c nm l) (hk : NmK c nm) (k : OC (SDc a) σ T n q (workE T n c nm l t) (fun x τ => DrC τ a x.1 x.2.1 x.2.2 → P 1 τ) (fun τ => P 0 τ)) : w_X2_readWork σ P := by
  have hc := hd.1.1
  have hr := hc.rg
  have k0 := hk.1
  have k2 := hk.2.1
  have f0 : gi σ a 10 = nI (c 2) := hd.f (k := 2) (by decide)
  unfold w_X2_readWork
  rw [hd.1.2.1, f0]
  refine ⟨hc, ?_⟩
  rintro _ rfl
  unfold workE at k
  refine c_begin (y := 6) h h4 (by omega) (by decide) (fun hlt τ e1 h1 => ?_) (fun hlt τ e1 g9 g10 => ?_)
  · rw [if_pos hlt] at k
    have e1' : Eo (SDc a) σ τ := e1.mo (fun _ _ => SDc0)
    rw [if_neg one0, N12, jI_add]
    refine c_new (k := 12 + c 2) h1 ht.n1 (hd.eo e1) (by omega) ⟨fun e he τ2 e2 g9 g10 => ?_, fun v t1 hv τ2 e2 h2 ht2 hd2 => ?_⟩
    · try dsimp only
      rw [if_pos rfl]; exact k.ff he τ2 (e1'.tr e2) g9 g10
    · have kk2 := k.nx hv (e1'.tr e2)
      try dsimp only
      rw [if_neg one0]
      refine c_kw (i := 6) h2 ht2 (by decide) ⟨fun e he τ3 e3 g9 g10 => ?_, fun _ t2 hq τ3 e3 h3 ht3 => ?_⟩
      · try dsimp only
        rw [if_pos rfl]; exact kk2.ff he τ3 (e3.mo (fun _ _ => SDc0)) g9 g10
      · have k3 := kk2.nx hq (e3.mo (fun _ _ => SDc0 (a := a)))
        have hd3 := hd2.eo e3
        try dsimp only
        rw [if_neg one0]
        have hk' := hk.add (i := 2) (v := v) (Or.inr (Or.inl ⟨rfl, rfl, hlt⟩))
        have hth : thE T n c nm 99 t2 = thE T n (updC c 2 (c 2 + 1)) (nmU nm (12 + c 2) v) 99 t2 := thF_cg (fun t => by
          unfold idF
          have e1 : cnt (updC c 2 (c 2 + 1)) 0 = c 0 := updC_n (c := c) (k := 2) (v := c 2 + 1) (show (0 : Nat) ≠ 2 by decide)
          have e2 : cnt c 0 = c 0 := rfl
          have e3 : grp 0 = 0 := rfl
          rw [e1, e2]
          exact fdF_cg _ (fun k hk => (nmU_n (by omega)).symm)) 900 0 t2
        rw [hth] at k3
        refine c_ths (b := 99) h3 ht3 ⟨hd3.1.1, hd3.1.2.1, hd3.2.2.2.1, hk'⟩ (Or.inl ⟨rfl, rfl⟩) ⟨fun e he τ4 e4 g9 g10 => ?_, fun s t3 hs τ4 e4 h4 ht4 hs1 hs2 => ?_⟩
        · try dsimp only
          rw [if_pos rfl]; exact k3.ff he τ4 (e4.mo (fun _ _ => SDc0)) g9 g10
        · have k4 := k3.nx hs (e4.mo (fun _ _ => SDc0 (a := a)))
          have hd4 := hd3.eo e4
          rw [updC_n (show (0 : Nat) ≠ 2 by decide)] at hs1
          have hs4 : s < 4096 := Nat.lt_of_lt_of_le hs1 (Nat.pow_le_pow_right (n := 2) (by decide) k0)
          try dsimp only
          rw [if_neg (nn1 (by omega)), hd4.1.2.1, tn_nI (by omega)]
          refine ⟨hc, vp_nI hlt (by decide), ?_⟩
          rintro _ rfl
          rw [show gr (si τ4 (a + 5) (c 2) (nI s)) 41 1 = a from hd4.1.2.1]
          refine ⟨hc, ?_⟩
          rw [gi_si_a (by omega), show gi τ4 a 10 = nI (c 2) from hd4.f (k := 2) (by decide), jI_inc]
          have hd5 := hd4.put (i := 52 + c 2) (v := s) (by omega) (by omega) (by omega)
          have cs := lcs (52 + c 2)
          rw [show lA (52 + c 2) = 5 by omega, show lK (52 + c 2) = c 2 by omega] at hd5
          have hd6 : DrC (si (si τ4 (a + 5) (c 2) (nI s)) a 10 (nI (c 2 + 1))) a (updC (updC c (52 + c 2) s) 2 (c 2 + 1)) (nmU nm (12 + c 2) v) l := hd5.put (i := 2) (v := c 2 + 1) (by decide) (by decide) (by omega)
          have e5 : Eo (fun x k => SCi a x k ∨ (x = 41 ∧ k = 2)) τ4 (si (si τ4 (a + 5) (c 2) (nI s)) a 10 (nI (c 2 + 1))) := (Eo.si (Or.inl ⟨by omega, by omega⟩)).tr (Eo.si (Or.inl ⟨by omega, by omega⟩))
          exact k4.2 _ _ rfl _ (e5.mo (fun _ _ q => Or.inr q)) (h4.city hc e5) ht4 hd6
  · rw [if_neg hlt] at k
    rw [if_pos rfl]
    exact k.1 _ rfl τ (e1.mo (fun _ _ => SDc0)) g9 g10
theorem c_rdVoter {σ : Sto} {T : Nat → Nat} {n q a l : Nat} {c : Nat → Nat} {nm : Nat → Int64} {t : TKn} {P : Int32 → Sto → Prop} (h : RdC σ T n t) (ht : isTk T n q t) (h4 : t.1 ≠ 4) (hd : DrC σ a c nm l) (hk : NmK c nm) (k : OC (SDc a) σ T n q (voterE T n c nm l t) (fun x τ => DrC τ a x.1 x.2.1 x.2.2 → P 1 τ) (fun τ => P 0 τ)) : w_X2_readVoter σ P := by
  have hc := hd.1.1
  have hr := hc.rg
  have k3 := hk.2.2.1
  have f0 : gi σ a 11 = nI (c 3) := hd.f (k := 3) (by decide)
  unfold w_X2_readVoter
  rw [hd.1.2.1, f0]
  refine ⟨hc, ?_⟩
  rintro _ rfl
  unfold voterE at k
  refine c_begin (y := 6) h h4 (by omega) (by decide) (fun hlt τ e1 h1 => ?_) (fun hlt τ e1 g9 g10 => ?_)
  · rw [if_pos hlt] at k
    have e1' : Eo (SDc a) σ τ := e1.mo (fun _ _ => SDc0)
    rw [if_neg one0, show (18 : Int32) = nI 18 from rfl, jI_add]
    refine c_new (k := 18 + c 3) h1 ht.n1 (hd.eo e1) (by omega) ⟨fun e he τ2 e2 g9 g10 => ?_, fun v t1 hv τ2 e2 h2 ht2 hd2 => ?_⟩
    · try dsimp only
      rw [if_pos rfl]; exact k.ff he τ2 (e1'.tr e2) g9 g10
    · have kk2 := k.nx hv (e1'.tr e2)
      try dsimp only
      rw [if_neg one0, hd2.1.2.1, show gi τ2 a 11 = nI (c 3) from hd2.f (k := 3) (by decide), jI_inc]
      refine ⟨hc, ?_⟩
      have hd6 : DrC (si τ2 a 11 (nI (c 3 + 1))) a (updC c 3 (c 3 + 1)) (nmU nm (18 + c 3) v) l := hd2.put (i := 3) (v := c 3 + 1) (by decide) (by decide) (by omega)
      have e5 : Eo (fun x k => SCi a x k ∨ (x = 41 ∧ k = 2)) τ2 (si τ2 a 11 (nI (c 3 + 1))) := Eo.si (Or.inl ⟨by omega, by omega⟩)
      exact kk2.2 _ _ rfl _ (e5.mo (fun _ _ q => Or.inr q)) (h2.city hc e5) ht2 hd6
  · rw [if_neg hlt] at k
    rw [if_pos rfl]
    exact k.1 _ rfl τ (e1.mo (fun _ _ => SDc0)) g9 g10
theorem c_rdHates {σ : Sto} {T : Nat → Nat} {n q a l : Nat} {c : Nat → Nat} {nm : Nat → Int64} {t : TKn} {P : Int32 → Sto → Prop} (h : RdC σ T n t) (ht : isTk T n q t) (hd : DrC σ a c nm l) (hk : NmK c nm) (k : OC (SDc a) σ T n q (hatesE T n c nm l t) (fun x τ => DrC τ a x.1 x.2.1 x.2.2 → P 1 τ) (fun τ => P 0 τ)) : w_X2_readHates σ P := by
  have hc := hd.1.1
  have hr := hc.rg
  have h0 := hk.1
  have h3 := hk.2.2.1
  unfold w_X2_readHates
  unfold hatesE at k
  refine c_adv h (fun τ e h1 => ?_)
  have e1 : Eo ST0 σ τ := e.mo (fun _ _ => STk0)
  have e1' : Eo (SDc a) σ τ := e1.mo (fun _ _ => SDc0)
  have hd1 := hd.eo e1
  rw [hd1.1.2.1]
  refine ⟨hc, c_told (s := 2) h1 ht.n1 hc hd1.2.2.2.1 hk (by decide) ⟨fun e he τ2 e2 g9 g10 => ?_, fun v t1 hv τ2 e2 h2 ht2 hv0 => ?_⟩⟩
  · try dsimp only
    rw [if_pos rfl]
    unfold w_X2_readHates_42 w_X2_readHates_62
    rw [if_pos rfl, if_pos rfl]
    exact k.ff he τ2 (e1'.tr (e2.mo (fun _ _ => SDc0))) g9 g10
  · have e2' := e1'.tr (e2.mo (fun _ _ => SDc0 (a := a)))
    have k2 := k.nx hv e2'
    have hd2 := hd1.eo e2
    have hv1 : v < c 3 := hv0
    try dsimp only
    rw [if_neg (nn1 (by omega)), hd2.1.2.1]
    refine ⟨hc, c_told (s := 0) h2 ht2 hc hd2.2.2.2.1 hk (by decide) ⟨fun e he τ3 e3 g9 g10 => ?_, fun x t2 hx τ3 e3 h3 ht3 hx0 => ?_⟩⟩
    · unfold w_X2_readHates_42 w_X2_readHates_62
      try dsimp only
      rw [if_pos rfl, if_pos rfl]
      exact k2.ff he τ3 (e3.mo (fun _ _ => SDc0)) g9 g10
    · have k3 := k2.nx hx (e3.mo (fun _ _ => SDc0 (a := a)))
      have hd3 := hd2.eo e3
      have hx1 : x < c 0 := hx0
      unfold w_X2_readHates_42
      rw [if_neg (nn1 (by omega))]
      refine c_nu (lo := 0) (hi := 9) h3 ht3 (by decide) (by decide) ⟨fun e he τ4 e4 g9 g10 => ?_, fun m t3 hm τ4 e4 h4 ht4 m0 m9 => ?_⟩
      · unfold w_X2_readHates_62
        try dsimp only
        rw [if_pos rfl]
        exact k3.ff he τ4 (e4.mo (fun _ _ => SDc0)) g9 g10
      · have k4 := k3.nx hm (e4.mo (fun _ _ => SDc0 (a := a)))
        have hd4 := hd3.eo e4
        unfold w_X2_readHates_62
        rw [if_neg (nn1 (by omega)), hd4.1.2.1, N12, jI_mul, jI_add, tn_nI (by omega)]
        refine ⟨hc, vp_nI (by omega) (by decide), ?_⟩
        have hd5 := hd4.put (i := 58 + 12 * v + x) (v := m) (by omega) (by omega) (by omega)
        have cs := lcs (58 + 12 * v + x)
        rw [show lA (58 + 12 * v + x) = 6 by omega, show lK (58 + 12 * v + x) = v * 12 + x by omega] at hd5
        have e5 : Eo (fun x k => SCi a x k ∨ (x = 41 ∧ k = 2)) τ4 (si τ4 (a + 6) (v * 12 + x) (nI m)) := Eo.si (Or.inl ⟨by omega, by omega⟩)
        exact k4.2 _ _ rfl _ (e5.mo (fun _ _ q => Or.inr q)) (h4.city hc e5) ht4 hd5
theorem c_rdAhead {σ : Sto} {T : Nat → Nat} {n q a l : Nat} {c : Nat → Nat} {nm : Nat → Int64} {t : TKn} {P : Int32 → Sto → Prop} (h : RdC σ T n t) (ht : isTk T n q t) (hd : DrC σ a c nm l) (hk : NmK c nm) (k : OC (SDc a) σ T n q (aheadE T n c nm l t) (fun x τ => DrC τ a x.1 x.2.1 x.2.2 → P 1 τ) (fun τ => P 0 τ)) : w_X2_readAhead σ P := by
  have hc := hd.1.1
  have hr := hc.rg
  have h0 := hk.1
  unfold w_X2_readAhead
  unfold aheadE at k
  refine c_adv h (fun τ e h1 => ?_)
  have e1 : Eo ST0 σ τ := e.mo (fun _ _ => STk0)
  have e1' : Eo (SDc a) σ τ := e1.mo (fun _ _ => SDc0)
  have hd1 := hd.eo e1
  rw [hd1.1.2.1]
  refine ⟨hc, c_told (s := 0) h1 ht.n1 hc hd1.2.2.2.1 hk (by decide) ⟨fun e he τ2 e2 g9 g10 => ?_, fun v t1 hv τ2 e2 h2 ht2 hv0 => ?_⟩⟩
  · try dsimp only
    rw [if_pos rfl]
    unfold w_X2_readAhead_41
    rw [if_pos rfl]
    exact k.ff he τ2 (e1'.tr (e2.mo (fun _ _ => SDc0))) g9 g10
  · have e2' := e1'.tr (e2.mo (fun _ _ => SDc0 (a := a)))
    have k2 := k.nx hv e2'
    have hd2 := hd1.eo e2
    have hv1 : v < c 0 := hv0
    try dsimp only
    rw [if_neg (nn1 (by omega)), hd2.1.2.1]
    refine ⟨hc, c_see (s := 0) h2 ht2 hc hd2.2.2.2.1 hk (by decide) (fun z m hm => ?_) (fun z y τ3 e3 g9 g10 => ?_) (fun z τ3 e3 g9 g10 => ?_)⟩
    · have hm0 : m < c 0 := by
        have := (idF_le (t := t1) (s := 0) hk (by decide)).1
        have e1 : cnt c 0 = c 0 := rfl
        omega
      unfold w_X2_readAhead_41
      rw [if_neg (nn1 (by omega))]
      by_cases he : m = v
      · rw [if_pos (by rw [he])]
        refine c_fail (f := 5) h2.2.2.1 h2.2.2.2.1 (fun τ3 e3 g9 g10 => ⟨Or.inl rfl, k2.ff (toE_5 z (by omega)) τ3 (e3.mo (fun _ _ q => SDc0 (STf0 q))) ?_ g10⟩)
        rw [g9, fk_1 (by rw [z.1]; decide)]
      · rw [if_neg (by rw [jI_eq (by omega) (by omega)]; exact he)]
        refine c_adv h2 (fun τ3 e3 h3 => ?_)
        have k3 := k2.nx (toE_k z hm he) (e3.mo (fun _ _ q => SDc0 (a := a) (STk0 q)))
        have hd3 := hd2.eo (e3.mo (fun _ _ => STk0))
        have cs := lcs (130 + m)
        have fm := hd3.2.1 (130 + m) (by omega) ⟨by omega, by omega⟩
        rw [show lA (130 + m) = 7 by omega, show lK (130 + m) = m by omega] at fm
        rw [hd3.1.2.1, tn_nI (by omega), fm, sh1 (by omega), jI_or]
        refine ⟨hc, vp_nI (by omega) (by decide), ?_⟩
        have hd5 := hd3.put (i := 130 + m) (v := c (130 + m) ||| 2 ^ v) (by omega) (by omega) (by omega)
        rw [show lA (130 + m) = 7 by omega, show lK (130 + m) = m by omega] at hd5
        have e5 : Eo (fun x k => SCi a x k ∨ (x = 41 ∧ k = 2)) τ3 (si τ3 (a + 7) m (nI (c (130 + m) ||| 2 ^ v))) := Eo.si (Or.inl ⟨by omega, by omega⟩)
        exact k3.2 _ _ rfl _ (e5.mo (fun _ _ q => Or.inr q)) (h3.city hc e5) ht2.n1 hd5
    · unfold w_X2_readAhead_41
      rw [if_pos rfl]
      exact k2.ff (toE_0 z y) τ3 (e3.mo (fun _ _ => SDc0)) g9 g10
    · unfold w_X2_readAhead_41
      rw [if_pos rfl]
      exact k2.ff (toE_n z) τ3 (e3.mo (fun _ _ => SDc0)) g9 g10
theorem c_rdLaw {σ : Sto} {T : Nat → Nat} {n q a l : Nat} {c : Nat → Nat} {nm : Nat → Int64} {t : TKn} {P : Int32 → Sto → Prop} (h : RdC σ T n t) (ht : isTk T n q t) (h4 : t.1 ≠ 4) (hl : l ≤ 1) (hd : DrC σ a c nm l) (k : OC (SDc a) σ T n q (lawE T n c nm l t) (fun x τ => DrC τ a x.1 x.2.1 x.2.2 → P 1 τ) (fun τ => P 0 τ)) : w_X2_readLaw σ P := by
  have hc := hd.1.1
  have hr := hc.rg
  unfold w_X2_readLaw
  unfold lawE at k
  rw [hd.1.2.2, N0]
  by_cases l0 : l = 0
  · rw [if_pos l0] at k
    rw [if_pos (by rw [l0])]
    have e0 : Eo (fun x k => SCi a x k ∨ (x = 41 ∧ k = 2)) σ (si σ 41 2 1) := Eo.si (Or.inr ⟨rfl, rfl⟩)
    refine c_adv (h.city hc e0) (fun τ e h1 => ?_)
    have e1 : Eo ST0 (si σ 41 2 1) τ := e.mo (fun _ _ => STk0)
    have e1' : Eo (SDc a) σ τ := (e0.mo (fun _ _ q => Or.inr q)).tr (e1.mo (fun _ _ => SDc0))
    have hd1 : DrC τ a c nm 1 := (show DrC (si σ 41 2 1) a c nm 1 from hd.law (v := 1)).eo e1
    refine c_nu (lo := 0) (hi := 2) h1 ht.n1 (by decide) (by decide) ⟨fun e he τ4 e4 g9 g10 => ?_, fun m t3 hm τ4 e4 h4 ht4 m0 m9 => ?_⟩
    · try dsimp only
      rw [if_pos rfl]
      exact k.ff he τ4 (e1'.tr (e4.mo (fun _ _ => SDc0))) g9 g10
    · have k4 := k.nx hm (e1'.tr (e4.mo (fun _ _ => SDc0 (a := a))))
      have hd4 := hd1.eo e4
      try dsimp only
      rw [if_neg (nn1 (by omega)), hd4.1.2.1]
      refine ⟨hc, ?_⟩
      have e5 : Eo (fun x k => SCi a x k ∨ (x = 41 ∧ k = 2)) τ4 (si τ4 a 12 (nI m)) := Eo.si (Or.inl ⟨by omega, by omega⟩)
      exact k4.2 _ _ rfl _ (e5.mo (fun _ _ q => Or.inr q)) (h4.city hc e5) ht4 (hd4.put (i := 4) (v := m) (by decide) (by decide) (by omega))
  · rw [if_neg l0] at k
    rw [if_neg (by rw [jI_eq (by omega) (by decide)]; exact l0)]
    refine c_fail (f := 5) h.2.2.1 h.2.2.2.1 (fun τ e g9 g10 => ⟨Or.inl rfl, k.1 _ rfl τ (e.mo (fun _ _ q => SDc0 (STf0 q))) ?_ g10⟩)
    rw [g9, fk_1 h4]
