/-! ===== texts: a whole text of a city in the class ===== -/
def ctE (T : Nat → Nat) (n : Nat) : Nat → DS → TKn → RS DS
  | 0, _, _ => Sum.inl (0, 0)
  | d + 1, x, t => if t.1 = 0 then Sum.inr (x, t) else bS (partE T n x.1 x.2.1 x.2.2 t) (fun y t1 => bS (sgE T n 59 t1) (fun _ t2 => ctE T n d y t2))
theorem c_ct {T : Nat → Nat} {n a : Nat} {P : Int32 → Sto → Prop} : ∀ d x t σ, d ≤ 902 → RdC σ T n t → isTk T n (902 - d) t → DrC σ a x.1 x.2.1 x.2.2 → DW x.1 x.2.1 x.2.2 → OC (SDc a) σ T n 0 (ctE T n d x t) (fun y τ => DrC τ a y.1 y.2.1 y.2.2 → DW y.1 y.2.1 y.2.2 → P 1 τ) (fun τ => P 0 τ) → LpB (fun (K : Int32 × Sto → Prop) s => w_X2_takes_24 K s.1 s.2 P) (d + 1) (nI (902 - d), σ)
  | 0, x, t, σ, hd9, h, ht, hd, hw, k => absurd ht.f (fun q => by omega)
  | d + 1, x, t, σ, hd9, h, ht, hd, hw, k => by
    have hf := ht.f
    have hi := (c_kind h.2.2.1 h.2.2.2.1).2.2.2.2.1
    refine LpB.go (fun K hK => ?_)
    dsimp only
    unfold w_X2_takes_24
    rw [show (900 : Int32) = nI 900 from rfl, if_neg (by rw [jI_lt (by decide) (by omega)]; omega)]
    by_cases z : t.1 = 0
    · rw [if_pos (hi.mpr z)]
      exact k.2 x t (if_pos z) σ Eo.rf h (ht.mo (Nat.zero_le _)) hd hw
    · rw [if_neg (fun q => z (hi.mp q))]
      have k1 : OC (SDc a) σ T n 0 (bS (partE T n x.1 x.2.1 x.2.2 t) (fun y t1 => bS (sgE T n 59 t1) (fun _ t2 => ctE T n d y t2))) (fun y τ => DrC τ a y.1 y.2.1 y.2.2 → DW y.1 y.2.1 y.2.2 → P 1 τ) (fun τ => P 0 τ) := by
        have e : ctE T n (d + 1) x t = bS (partE T n x.1 x.2.1 x.2.2 t) (fun y t1 => bS (sgE T n 59 t1) (fun _ t2 => ctE T n d y t2)) := if_neg z
        rw [← e]; exact k
      refine c_rdPart h ht hd hw.2.1 hw.1.n1 hw.2.2.2.2.2.2 ⟨fun e he τ e1 g9 g10 => ?_, fun y t1 hy τ e1 h1 ht1 hd1 => ?_⟩
      · try dsimp only
        rw [if_pos rfl]
        exact k1.ff he τ e1 g9 g10
      · have k2 := k1.nx hy e1
        have hw1 := partE_W hw hy
        have hf1 := ht1.f
        try dsimp only
        rw [if_neg one0]
        refine c_sg (x := 59) h1 ht1 (by decide) ⟨fun e he τ2 e2 g9 g10 => ?_, fun _ t2 hz τ2 e2 h2 ht2 => ?_⟩
        · try dsimp only
          rw [if_pos rfl]
          exact k2.ff he τ2 (e2.mo (fun _ _ => SDc0)) g9 g10
        · have k3 := k2.nx hz (e2.mo (fun _ _ => SDc0 (a := a)))
          try dsimp only
          rw [if_neg one0, jI_inc, show 902 - (d + 1) + 1 = 902 - d by omega]
          rintro _ rfl
          exact hK _ (c_ct d y t2 τ2 (by omega) h2 (ht2.mo (by omega)) (hd1.eo e2) hw1 k3)
theorem c_clear {σ : Sto} {a : Nat} {P : Sto → Prop} (ha : isCity a) (k : ∀ τ, Eo (SCi a) σ τ → (∀ i, i < 142 → dok (fun _ => 0) i → gi τ (a + lA i) (lK i) = 0) → (∀ t, t < 12 → gi τ (a + 2) t = 1) → (∀ k, k < 24 → gl τ (a + 1) k = 0) → gi τ (a + 8) 5 = 0 ∧ gi τ (a + 8) 6 = 0 ∧ gi τ (a + 8) 7 = 0 → P τ) : w_X1_clear a σ P := by
  have hr := ha.rg
  unfold w_X1_clear
  refine ⟨ha, t_fillL ha.a0 (by decide) (fun τ1 e1 _ g1 => t_fill ha.a1 (by decide) (fun τ2 e2 g2 => t_fill ha.a3 (by decide) (fun τ3 e3 g3 => t_fill ha.a4 (by decide) (fun τ4 e4 g4 => t_fill ha.a5 (by decide) (fun τ5 e5 g5 => t_fill ha.a6 (by decide) (fun τ6 e6 g6 => ?_))))))⟩
  have e6' : Eo (SCi a) σ τ6 := (((((e1.mo (fun x k q => by unfold SCi; omega)).tr (e2.mo (fun x k q => by unfold SCi; omega))).tr (e3.mo (fun x k q => by unfold SCi; omega))).tr (e4.mo (fun x k q => by unfold SCi; omega))).tr (e5.mo (fun x k q => by unfold SCi; omega))).tr (e6.mo (fun x k q => by unfold SCi; omega))
  have b5 : ∀ t, t < 72 → gi τ6 (a + 6) t = 0 := fun t ht => by rw [e6.1 _ _ (by omega)]; exact g5 t ht
  have b4 : ∀ t, t < 6 → gi τ6 (a + 5) t = 0 := fun t ht => by rw [e6.1 _ _ (by omega), e5.1 _ _ (by omega)]; exact g4 t ht
  have b3 : ∀ t, t < 16 → gi τ6 (a + 4) t = 0 := fun t ht => by rw [e6.1 _ _ (by omega), e5.1 _ _ (by omega), e4.1 _ _ (by omega)]; exact g3 t ht
  have b2 : ∀ t, t < 12 → gi τ6 (a + 2) t = 1 := fun t ht => by rw [e6.1 _ _ (by omega), e5.1 _ _ (by omega), e4.1 _ _ (by omega), e3.1 _ _ (by omega)]; exact g2 t ht
  have b1 : ∀ t, t < 24 → gl τ6 (a + 1) t = 0 := fun t ht => by rw [e6.2.1 _ _ (by omega), e5.2.1 _ _ (by omega), e4.2.1 _ _ (by omega), e3.2.1 _ _ (by omega), e2.2.1 _ _ (by omega)]; exact g1 t ht
  unfold w_X7_clear
  refine ⟨ha.st, ?_⟩
  refine k _ ?_ (fun i hi hd => ?_) (fun t ht => ?_) (fun k hk => ?_) ⟨?_, ?_, ?_⟩
  · have s1 : ∀ {x : Sto} {b k : Nat} {v : Int32}, (b = a ∨ b = a + 8) → Eo (SCi a) x (si x b k v) := fun hb => Eo.si (by unfold SCi; omega)
    exact ((((((((((e6'.tr (s1 (Or.inr rfl))).tr (s1 (Or.inr rfl))).tr (s1 (Or.inr rfl))).tr (s1 (Or.inl rfl))).tr (s1 (Or.inl rfl))).tr (s1 (Or.inl rfl))).tr (s1 (Or.inl rfl))).tr (s1 (Or.inl rfl))).tr (s1 (Or.inl rfl))).tr (s1 (Or.inl rfl))).tr (s1 (Or.inl rfl))
  · have cs := lcs i
    have hd : (8 ≤ i → i < 20 → i < 8 + 0) ∧ (20 ≤ i → i < 36 → i < 20 + 0) := hd
    by_cases h8 : i < 8
    · rw [show lA i = 0 by omega, show lK i = 8 + i by omega, Nat.add_zero a]
      simp only [gi_si]
      rcases (show i = 0 ∨ i = 1 ∨ i = 2 ∨ i = 3 ∨ i = 4 ∨ i = 5 ∨ i = 6 ∨ i = 7 by omega) with rfl | rfl | rfl | rfl | rfl | rfl | rfl | rfl <;> simp
    · rw [gi_si_a (by omega), gi_si_a (by omega), gi_si_a (by omega), gi_si_a (by omega), gi_si_a (by omega), gi_si_a (by omega), gi_si_a (by omega), gi_si_a (by omega), gi_si_a (by omega), gi_si_a (by omega), gi_si_a (by omega)]
      by_cases h20 : i < 20
      · have := hd.1 (by omega) h20
        omega
      by_cases h36 : i < 36
      · have := hd.2 (by omega) h36
        omega
      by_cases h52 : i < 52
      · rw [show lA i = 4 by omega]; exact b3 _ (by omega)
      by_cases h58 : i < 58
      · rw [show lA i = 5 by omega]; exact b4 _ (by omega)
      by_cases h130 : i < 130
      · rw [show lA i = 6 by omega]; exact b5 _ (by omega)
      rw [show lA i = 7 by omega]; exact g6 _ (by omega)
  · rw [gi_si_a (by omega), gi_si_a (by omega), gi_si_a (by omega), gi_si_a (by omega), gi_si_a (by omega), gi_si_a (by omega), gi_si_a (by omega), gi_si_a (by omega), gi_si_a (by omega), gi_si_a (by omega), gi_si_a (by omega)]
    exact b2 t ht
  · exact b1 k hk
  · rw [gi_si_a (by omega), gi_si_a (by omega), gi_si_a (by omega), gi_si_a (by omega), gi_si_a (by omega), gi_si_a (by omega), gi_si_a (by omega), gi_si_a (by omega), gi_si_k (by decide), gi_si_k (by decide), gi_si_s]
  · rw [gi_si_a (by omega), gi_si_a (by omega), gi_si_a (by omega), gi_si_a (by omega), gi_si_a (by omega), gi_si_a (by omega), gi_si_a (by omega), gi_si_a (by omega), gi_si_k (by decide), gi_si_s]
  · rw [gi_si_a (by omega), gi_si_a (by omega), gi_si_a (by omega), gi_si_a (by omega), gi_si_a (by omega), gi_si_a (by omega), gi_si_a (by omega), gi_si_a (by omega), gi_si_s]
/-- alike but at places S, and but at references R -/
def Er (S R : Nat → Nat → Prop) (σ τ : Sto) : Prop := (∀ a k, ¬ S a k → gi τ a k = gi σ a k) ∧ (∀ a k, ¬ S a k → gl τ a k = gl σ a k) ∧ ∀ a k, ¬ R a k → gr τ a k = gr σ a k
theorem Eo.er {S R : Nat → Nat → Prop} {σ τ : Sto} (h : Eo S σ τ) : Er S R σ τ := ⟨h.1, h.2.1, fun a k _ => h.2.2 a k⟩
theorem Er.tr {S R : Nat → Nat → Prop} {σ τ υ : Sto} (h : Er S R σ τ) (g : Er S R τ υ) : Er S R σ υ := ⟨fun a k ha => (g.1 a k ha).trans (h.1 a k ha), fun a k ha => (g.2.1 a k ha).trans (h.2.1 a k ha), fun a k ha => (g.2.2 a k ha).trans (h.2.2 a k ha)⟩
theorem Er.mo {S T R Q : Nat → Nat → Prop} {σ τ : Sto} (h : Er S R σ τ) (hs : ∀ a k, S a k → T a k) (hr : ∀ a k, R a k → Q a k) : Er T Q σ τ := ⟨fun a k ha => h.1 a k (fun q => ha (hs a k q)), fun a k ha => h.2.1 a k (fun q => ha (hs a k q)), fun a k ha => h.2.2 a k (fun q => ha (hr a k q))⟩
theorem Er.sr {S R : Nat → Nat → Prop} {σ : Sto} {a k v : Nat} (h : R a k) : Er S R σ (sr σ a k v) := ⟨fun _ _ _ => rfl, fun _ _ _ => rfl, fun b j hb => gr_sr_n (fun q => hb (by rw [q.1, q.2]; exact h))⟩
def STa (a x k : Nat) : Prop := (x = 10 ∧ 3 ≤ k ∧ k ≤ 10) ∨ SCi a x k ∨ (x = 41 ∧ k = 2)
def RTa (x k : Nat) : Prop := x = 41 ∧ k = 1
theorem c_takes {σ : Sto} {T : Nat → Nat} {f n a : Nat} {P : Int32 → Sto → Prop} (ha : isCity a) (hp : PC σ f T) (hk : KC σ) (hn : n ≤ f)
    (k1 : ∀ y t', ctE T n 902 ((fun _ => 0), (fun _ => 0), 0) (tokF T n 0) = Sum.inr (y, t') → ∀ τ, Er (STa a) RTa σ τ → DrC τ a y.1 y.2.1 y.2.2 → DW y.1 y.2.1 y.2.2 → P 1 τ)
    (k0 : ∀ e, ctE T n 902 ((fun _ => 0), (fun _ => 0), 0) (tokF T n 0) = Sum.inl e → ∀ τ, Er (STa a) RTa σ τ → gi τ 10 9 = nI e.1 → gi τ 10 10 = nI e.2 → P 0 τ) : w_X2_takes a (nI n) σ P := by
  have hr := ha.rg
  unfold w_X2_takes
  refine ⟨ha, c_clear ha (fun τ e g1 g2 g3 g4 => ?_)⟩
  unfold w_X9_start
  generalize hs0 : si (sr τ 41 1 a) 41 2 0 = σ0
  generalize hs1 : si (si (si (si σ0 10 3 (nI n)) 10 4 0) 10 9 0) 10 10 (-1) = σ1
  have e0 : Er (STa a) RTa σ σ0 := by
    have a1 : Er (STa a) RTa σ τ := (e.mo (fun x k q => Or.inr (Or.inl q))).er
    have a2 : Er (STa a) RTa τ (sr τ 41 1 a) := Er.sr ⟨rfl, rfl⟩
    have a3 : Er (STa a) RTa (sr τ 41 1 a) σ0 := by
      rw [← hs0]
      exact (Eo.si (Or.inr (Or.inr ⟨rfl, rfl⟩))).er
    exact (a1.tr a2).tr a3
  have e01 : Eo (fun x k => x = 10 ∧ 3 ≤ k ∧ k ≤ 10) σ0 σ1 := by
    rw [← hs1]
    have s1 : ∀ {x : Sto} {k : Nat} {v : Int32}, 3 ≤ k ∧ k ≤ 10 → Eo (fun x k => x = 10 ∧ 3 ≤ k ∧ k ≤ 10) x (si x 10 k v) := fun hb => Eo.si ⟨rfl, hb⟩
    exact (((s1 (by decide)).tr (s1 (by decide))).tr (s1 (by decide))).tr (s1 (by decide))
  have e1 : Er (STa a) RTa σ σ1 := e0.tr (e01.mo (fun x k q => Or.inl q)).er
  have q3 : gi σ1 10 3 = nI n := by rw [← hs1, gi_si_k (by decide), gi_si_k (by decide), gi_si_k (by decide), gi_si_s]
  have q4 : gi σ1 10 4 = nI 0 := by rw [← hs1, gi_si_k (by decide), gi_si_k (by decide), gi_si_s]; rfl
  have c0 : DrC σ0 a (fun _ => 0) (fun _ => 0) 0 := by
    rw [← hs0]
    refine ⟨⟨ha, (gr_sr_s (σ := τ) (a := 41) (k := 1) (v := a)), gi_si_s⟩, fun i hi hd => ?_, fun t ht _ => ?_, fun k hk => g3 k hk, ?_, ?_, ?_⟩
    · rw [gi_si_a (by have := lA7 (i := i); omega)]; exact g1 i hi hd
    · rw [gi_si_a (by omega)]; exact g2 t ht
    · rw [gi_si_a (by omega)]; exact g4.1
    · rw [gi_si_a (by omega)]; exact g4.2.1
    · rw [gi_si_a (by omega)]; exact g4.2.2
  have c1 : DrC σ1 a (fun _ => 0) (fun _ => 0) 0 := by
    obtain ⟨⟨h1, h2, h3⟩, h4, h5, h6, h7, h8, h9⟩ := c0
    have g : ∀ i k, gi σ1 (a + i) k = gi σ0 (a + i) k := fun i k => e01.1 _ _ (by omega)
    exact ⟨⟨h1, by rw [e01.2.2]; exact h2, by rw [e01.1 _ _ (by omega)]; exact h3⟩, fun i hi hd => by rw [g]; exact h4 i hi hd, fun t ht hc => by rw [g]; exact h5 t ht hc, fun k hk => by rw [e01.2.1 _ _ (by omega)]; exact h6 k hk, by rw [g]; exact h7, by rw [g]; exact h8, by rw [g]; exact h9⟩
  have hT : TB σ1 T n := ⟨q3, by have := hp.2.1; omega, fun k hk => ⟨by rw [e1.1 _ _ (by unfold STa SCi; omega)]; exact (hp.2.2 k (by omega)).1, (hp.2.2 k (by omega)).2⟩⟩
  have hK : KC σ1 := fun k hk' => by rw [e1.2.1 _ _ (by unfold STa SCi; omega)]; exact hk k hk'
  have w0 : DW (fun _ => 0) (fun _ => 0) 0 := by
    refine ⟨⟨by decide, by decide, by decide, by decide, by decide, by decide, by decide, by decide, fun t ht => absurd (show t < 0 from ht) (Nat.not_lt_zero t), fun t ht => absurd (show t < 0 from ht) (Nat.not_lt_zero t), fun t ht => absurd (show t < 0 from ht) (Nat.not_lt_zero t), fun t ht => absurd (show t < 0 from ht) (Nat.not_lt_zero t), fun t ht => absurd (show t < 0 from ht) (Nat.not_lt_zero t), fun t ht => absurd (show t < 0 from ht) (Nat.not_lt_zero t), fun t ht => absurd (show t < 0 from ht) (Nat.not_lt_zero t), fun t ht => absurd (show t < 0 from ht) (Nat.not_lt_zero t)⟩, ⟨by decide, by decide, by decide, fun _ _ _ => rfl⟩, fun _ _ => Nat.zero_le 9, fun t _ => ⟨Nat.two_pow_pos _, Nat.zero_testBit t⟩, rfl, rfl, by decide⟩
  refine c_advance hT hK (Nat.zero_le n) q4 (fun τ2 e2 ht2 => ?_)
  have e2' : Eo ST0 σ1 τ2 := e2.mo (fun _ _ => STk0)
  have hR : RdC τ2 T n (tokF T n 0) := ⟨hT.tk e2, hK.tk e2, ht2, tokF_V (fun k hk => (hT.2.2 k hk).2) (Nat.zero_le n)⟩
  have hI : isTk T n 0 (tokF T n 0) := ⟨0, Nat.le_refl 0, Nat.zero_le n, hT.2.1, rfl⟩
  have e12 : Er (STa a) RTa σ τ2 := e1.tr (e2'.mo (fun x k q => by unfold ST0 at q; exact Or.inl ⟨q.1, by omega, q.2.2⟩)).er
  have up : ∀ τ3, Eo (SDc a) τ2 τ3 → Er (STa a) RTa σ τ3 := fun τ3 e3 => e12.tr (e3.mo (fun x k q => by
    rcases q with q | q
    · unfold ST0 at q; exact Or.inl ⟨q.1, by omega, q.2.2⟩
    · exact Or.inr q)).er
  have g := c_ct (P := P) 902 ((fun _ => 0), (fun _ => 0), 0) (tokF T n 0) τ2 (Nat.le_refl _) hR hI (c1.eo e2') w0 ⟨fun e he τ3 e3 g9 g10 => k0 e he τ3 (up τ3 e3) g9 g10, fun y t' hy τ3 e3 h3 ht3 hd3 hw3 => k1 y t' hy τ3 (up τ3 e3) hd3 hw3⟩
  exact g.lp
