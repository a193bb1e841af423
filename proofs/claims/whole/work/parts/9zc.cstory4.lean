/-! ===== texts: centuries in the class, all lines ===== -/
theorem stOK.cells {c c' : Nat → Nat} {V O G U V' O' G' U' : Nat → Int32} {s L : Nat} (h : stOK c V O G U s L) (h0 : c' 0 = c 0) (h2 : c' 2 = c 2) (hc : ∀ i, 144 + 9 * s ≤ i → i < 152 + 9 * s → c' i = c i) (e1 : V' L = V L) (e2 : O' L = O L) (e3 : G' L = G L) (e4 : U' L = U L) : stOK c' V' O' G' U' s L := by
  unfold stOK vbF at h ⊢
  rw [hc (144 + 9 * s) (by omega) (by omega), hc (145 + 9 * s) (by omega) (by omega), hc (146 + 9 * s) (by omega) (by omega), hc (150 + 9 * s) (by omega) (by omega), hc (151 + 9 * s) (by omega) (by omega), h0, h2, e1, e2, e3, e4]
  exact h
theorem Lay.up {c : Nat → Nat} {V O G U T : Nat → Int32} : ∀ n d s e L M i, Lay c V O G U T n d s e L M → Lay c V O G U T (n + i) d s e L M
  | 0, d, s, e, L, M, 0, h => h
  | 0, d, s, e, L, M, i + 1, h => Or.inl h
  | n + 1, d, s, e, L, M, i, h => by
    rw [show n + 1 + i = n + i + 1 by omega]
    rcases h with h | ⟨g1, g2, g3, g4⟩
    · exact Or.inl h
    · refine Or.inr ⟨g1, g2, g3, ?_⟩
      rcases g4 with ⟨b1, b2, b3⟩ | ⟨b1, b2, b3, d', m, b4, b5, b6, b7, b8, b9, b10⟩
      · exact Or.inl ⟨b1, b2, Lay.up n d _ _ _ _ i b3⟩
      · exact Or.inr ⟨b1, b2, b3, d', m, b4, b5, Lay.up n d' _ _ _ _ i b6, b7, b8, b9, Lay.up n d _ _ _ _ i b10⟩
theorem Lay.lt2 {c : Nat → Nat} {V O G U T : Nat → Int32} : ∀ n d s e L M, Lay c V O G U T n d s e L M → s ≤ e ∧ L ≤ M
  | 0, d, s, e, L, M, h => ⟨by have := h.1; omega, by have := h.2; omega⟩
  | n + 1, d, s, e, L, M, h => by
    rcases h with h | ⟨g1, g2, g3, g4⟩
    · exact ⟨by omega, by omega⟩
    · rcases g4 with ⟨b1, b2, b3⟩ | ⟨b1, b2, b3, d', m, b4, b5, b6, b7, b8, b9, b10⟩
      · have := Lay.lt2 n d _ _ _ _ b3
        omega
      · have h1 := Lay.lt2 n d' _ _ _ _ b6
        have h2 := Lay.lt2 n d _ _ _ _ b10
        omega
/-- alike on the steps and lines that it is about -/
theorem Lay.rg {c c' : Nat → Nat} {V O G U T V' O' G' U' T' : Nat → Int32} (h0 : c' 0 = c 0) (h2 : c' 2 = c 2) : ∀ n d s e L M, Lay c V O G U T n d s e L M → (∀ i, 144 + 9 * s ≤ i → i < 144 + 9 * e → c' i = c i) → (∀ k, L ≤ k → k < M → V' k = V k ∧ O' k = O k ∧ G' k = G k ∧ U' k = U k ∧ T' k = T k) → Lay c' V' O' G' U' T' n d s e L M
  | 0, d, s, e, L, M, h, _, _ => h
  | n + 1, d, s, e, L, M, h, hc, hl => by
    rcases h with h | ⟨g1, g2, g3, g4⟩
    · exact Or.inl h
    · have hb : blk c' s ↔ blk c s := by unfold blk; rw [hc _ (by omega) (by omega)]
      rcases g4 with ⟨b1, b2, b3⟩ | ⟨b1, b2, b3, d', m, b4, b5, b6, b7, b8, b9, b10⟩
      · have q := Lay.lt2 n d _ _ _ _ b3
        obtain ⟨a1, a2, a3, a4, a5⟩ := hl L (by omega) (by omega)
        refine Or.inr ⟨g1, g2, g3.cells h0 h2 (fun i i1 i2 => hc i (by omega) (by omega)) a1 a2 a3 a4, Or.inl ⟨fun z => b1 (hb.mp z), by rw [hc _ (by omega) (by omega)]; exact b2, Lay.rg h0 h2 n d _ _ _ _ b3 (fun i i1 i2 => hc i (by omega) (by omega)) (fun k k1 k2 => hl k (by omega) (by omega))⟩⟩
      · have q1 := Lay.lt2 n d' _ _ _ _ b6
        have q2 := Lay.lt2 n d _ _ _ _ b10
        obtain ⟨a1, a2, a3, a4, a5⟩ := hl L (by omega) (by omega)
        obtain ⟨m1, m2, m3, m4, m5⟩ := hl m (by omega) (by omega)
        have e8 : c' (152 + 9 * s) = c (152 + 9 * s) := hc _ (by omega) (by omega)
        refine Or.inr ⟨g1, g2, g3.cells h0 h2 (fun i i1 i2 => hc i (by omega) (by omega)) a1 a2 a3 a4, Or.inr ⟨hb.mpr b1, by rw [e8]; exact b2, by rw [e8]; exact b3, d', m, b4, b5, ?_, by rw [m1]; exact b7, by rw [a5]; exact b8, by rw [m5]; exact b9, ?_⟩⟩
        · rw [e8]
          exact Lay.rg h0 h2 n d' _ _ _ _ b6 (fun i i1 i2 => hc i (by omega) (by omega)) (fun k k1 k2 => hl k (by omega) (by omega))
        · rw [e8]
          exact Lay.rg h0 h2 n d _ _ _ _ b10 (fun i i1 i2 => hc i (by omega) (by omega)) (fun k k1 k2 => hl k (by omega) (by omega))
/-- an end is written -/
def SEn (a M L x k : Nat) : Prop := ST0 x k ∨ (x = a + 1 ∧ k = M) ∨ (x = a + 5 ∧ (k = M ∨ k = L)) ∨ (x = a ∧ k = 7) ∨ (x = 42 ∧ k = 2)
theorem SEnS {a M L d x k : Nat} (h : SEn a M L x k) (hL : L ≤ M) : SSt a L d x k := by
  rcases h with h | h | h | h | h
  · exact Or.inl h
  · exact Or.inr (Or.inl (by omega))
  · exact Or.inr (Or.inl (by omega))
  · exact Or.inr (Or.inr (Or.inl (by omega)))
  · exact Or.inr (Or.inr (Or.inr (Or.inl h)))
theorem c_end33 {σ : Sto} {T : Nat → Nat} {n q a b s M d L : Nat} {nm : Nat → Int64} {t : TKn} {K : Int32 × Sto → Prop} {P : Int32 → Sto → Prop} (h : RdC σ T n t) (ht : isTk T n q t) (hc : CS σ a b nm s M (d + 1)) (hd : d < 3) (hM : M < 60) (hL : L < M) (hO : gi σ 43 d = nI L) (z : isKw t 21)
    (kf : ∀ e, sgE T n 59 (nxF T n t) = Sum.inl e → ∀ τ, Eo (SEn a M L) σ τ → gi τ 10 9 = nI e.1 → gi τ 10 10 = nI e.2 → P 0 τ)
    (kk : ∀ t4, sgE T n 59 (nxF T n t) = Sum.inr ((), t4) → ∀ τ, Eo (SEn a M L) σ τ → RdC τ T n t4 → isTk T n (q + 1) t4 → CS τ a b nm s (M + 1) d → gi τ (a + 1) M = nI 10 → gi τ (a + 5) L = nI M → gi τ (a + 5) M = nI L → K (nI (M + 1), τ)) : w_X8_takes_33 K (nI M) σ P := by
  have ha := hc.1
  have hr := sty ha
  have hi := (c_kind h.2.2.1 h.2.2.2.1).2.2.2.2.1
  unfold w_X8_takes_33
  rw [N900, if_neg (by rw [jI_lt (by decide) (by omega)]; omega), if_neg (fun q => by have := hi.mp q; have := z.1; omega)]
  refine c_isKeyword (i := 21) h.2.2.1 h.2.2.2.1 (by decide) (fun _ => ?_) (fun y => absurd z y)
  rw [if_neg one0]
  unfold w_X8_readEnd
  rw [hc.2.2.2.2.2.1, N0, if_pos ((jI_lt (by decide) (by omega)).mpr (by omega)), N1, jI_sub (by omega), Nat.add_sub_cancel]
  have e1 : Eo (fun x _ => (a ≤ x ∧ x ≤ a + 5) ∨ x = 42 ∨ x = 43) σ (si σ 42 2 (nI d)) := Eo.si (by omega)
  have f1 : Eo (SEn a M L) σ (si σ 42 2 (nI d)) := Eo.si (Or.inr (Or.inr (Or.inr (Or.inr ⟨rfl, rfl⟩))))
  have c1 := hc.s2 (d' := d)
  have o1 : gi (si σ 42 2 (nI d)) 43 d = nI L := by rw [gi_si_a (by decide)]; exact hO
  refine c_adv (h.story ha e1) (fun τ e2 h2 => ?_)
  have e2' : Eo ST0 (si σ 42 2 (nI d)) τ := e2.mo (fun _ _ => STk0)
  have f2 : Eo (SEn a M L) σ τ := f1.tr (e2'.mo (fun _ _ q => Or.inl q))
  have c2 := c1.eo (e2'.mo (fun _ _ q => SLn0 (a := a) (L := M) q))
  have o2 : gi τ 43 d = nI L := by rw [e2'.1 _ _ (by unfold ST0; omega)]; exact o1
  rw [c2.2.2.1, c2.2.2.2.2.2.2.2, tn_nI (by omega)]
  refine ⟨ha, vp_nI hM (by decide), ?_⟩
  rintro _ rfl
  have c3 := c2.ar (i := 1) (k := M) (v := 10) (by decide)
  have o3 : gi (si τ (a + 1) M 10) 43 d = nI L := by rw [gi_si_a (by omega)]; exact o2
  rw [c3.2.2.1, c3.2.2.2.2.2.1, c3.2.2.2.2.2.2.2, tn_nI (by omega), tn_nI (by omega), o3]
  refine ⟨ha, vp_nI hd (by decide), vp_nI hM (by decide), ?_⟩
  rintro _ rfl
  have c4 := c3.ar (i := 5) (k := M) (v := nI L) (by decide)
  have o4 : gi (si (si τ (a + 1) M 10) (a + 5) M (nI L)) 43 d = nI L := by rw [gi_si_a (by omega)]; exact o3
  rw [c4.2.2.1, c4.2.2.2.2.2.1, c4.2.2.2.2.2.2.2, tn_nI (by omega), o4, tn_nI (by omega)]
  refine ⟨ha, vp_nI hd (by decide), vp_nI (by omega) (by decide), ?_⟩
  have c5 := c4.ar (i := 5) (k := L) (v := nI M) (by decide)
  have f5 : Eo (SEn a M L) σ (si (si (si τ (a + 1) M 10) (a + 5) M (nI L)) (a + 5) L (nI M)) := ((f2.tr (Eo.si (Or.inr (Or.inl ⟨rfl, rfl⟩)))).tr (Eo.si (Or.inr (Or.inr (Or.inl ⟨rfl, Or.inl rfl⟩))))).tr (Eo.si (Or.inr (Or.inr (Or.inl ⟨rfl, Or.inr rfl⟩))))
  have e5 : Eo (fun x _ => (a ≤ x ∧ x ≤ a + 5) ∨ x = 42 ∨ x = 43) τ (si (si (si τ (a + 1) M 10) (a + 5) M (nI L)) (a + 5) L (nI M)) := ((Eo.si (by omega)).tr (Eo.si (by omega))).tr (Eo.si (by omega))
  have h5 := h2.story ha e5
  have v1 : gi (si (si (si τ (a + 1) M 10) (a + 5) M (nI L)) (a + 5) L (nI M)) (a + 1) M = nI 10 := by rw [gi_si_a (by omega), gi_si_a (by omega), gi_si_s]; rfl
  have v2 : gi (si (si (si τ (a + 1) M 10) (a + 5) M (nI L)) (a + 5) L (nI M)) (a + 5) L = nI M := gi_si_s
  have v3 : gi (si (si (si τ (a + 1) M 10) (a + 5) M (nI L)) (a + 5) L (nI M)) (a + 5) M = nI L := by rw [gi_si_k (by omega), gi_si_s]
  generalize si (si (si τ (a + 1) M 10) (a + 5) M (nI L)) (a + 5) L (nI M) = σ5 at c5 f5 h5 v1 v2 v3 ⊢
  unfold w_X8_takes_89
  try dsimp only
  rw [if_neg (show ¬ nI 1 = 0 by decide)]
  have tf := ht.n1.f
  refine c_sg (x := 59) h5 ht.n1 (by decide) ⟨fun e he τ6 e6 g9 g10 => ?_, fun u t4 hu τ6 e6 h6 ht6 => ?_⟩
  · try dsimp only
    rw [if_pos rfl]
    exact kf e he τ6 (f5.tr (e6.mo (fun _ _ q => Or.inl q))) g9 g10
  · have c6 := c5.eo (e6.mo (fun _ _ q => SLn0 (a := a) (L := M) q))
    try dsimp only
    rw [if_neg one0, c6.2.2.1, c6.2.2.2.2.2.2.2, jI_inc]
    refine ⟨ha, ?_⟩
    rintro _ rfl
    have e7 : Eo (fun x _ => (a ≤ x ∧ x ≤ a + 5) ∨ x = 42 ∨ x = 43) τ6 (si τ6 a 7 (nI (M + 1))) := Eo.si (by omega)
    have f7 : Eo (SEn a M L) σ (si τ6 a 7 (nI (M + 1))) := (f5.tr (e6.mo (fun _ _ q => Or.inl q))).tr (Eo.si (Or.inr (Or.inr (Or.inr (Or.inl ⟨rfl, rfl⟩)))))
    have ar : ∀ i k, 1 ≤ i → i ≤ 5 → gi (si τ6 a 7 (nI (M + 1))) (a + i) k = gi σ5 (a + i) k := fun i k i1 i2 => by
      rw [gi_si_a (by omega), e6.1 _ _ (by unfold ST0; omega)]
    exact kk t4 hu _ f7 (h6.story ha e7) (ht6.mo (by omega)) c6.s7 (by rw [ar _ _ (by decide) (by decide)]; exact v1) (by rw [ar _ _ (by decide) (by decide)]; exact v2) (by rw [ar _ _ (by decide) (by decide)]; exact v3)
theorem opE_y {T : Nat → Nat} {n d : Nat} {c : Nat → Nat} {nm : Nat → Int64} {y y1 : YS} {t t1 : TKn} (h : opE T n c nm d y t = Sum.inr (y1, t1)) : stpF t ≠ 0 ∧ y.2 ≠ 30 ∧ ¬ ((stpF t = 6 ∨ stpF t = 7) ∧ d = 3) ∧ y1.2 = y.2 + 1 ∧ y1.1 (144 + 9 * y.2) = stpF t - 1 ∧ ∀ j, j < 144 + 9 * y.2 ∨ 151 + 9 * y.2 < j → y1.1 j = y.1 j := by
  unfold opE at h
  by_cases z : stpF t = 0
  · rw [if_pos z] at h; cases h
  rw [if_neg z] at h
  by_cases z3 : y.2 = 30
  · rw [if_pos z3] at h; cases h
  rw [if_neg z3] at h
  by_cases z7 : (stpF t = 6 ∨ stpF t = 7) ∧ d = 3
  · rw [if_pos z7] at h; cases h
  rw [if_neg z7] at h
  obtain ⟨m, t2, h2, h⟩ := bS_i h
  obtain ⟨u, t3, h3, h⟩ := bS_i h
  have k := reE_keep h2
  rw [← inr_i h]
  refine ⟨z, z3, z7, rfl, ?_, fun j hj => ?_⟩
  · show m (144 + 9 * y.2) = _
    rw [k _ (by omega), updC_s]
  · show m j = _
    rw [k _ (by omega), updC_n (by omega)]
theorem sqE_s {T : Nat → Nat} {n f d : Nat} {c : Nat → Nat} {nm : Nat → Int64} {y : YS} {t : TKn} (h : ¬ (t.1 = 0 ∨ isKw t 21)) : sqE T n c nm (f + 1) d y t = bS (oneE T n c nm (sqE T n c nm f) d y t) (fun y1 t1 => sqE T n c nm f d y1 t1) := if_neg h
theorem sqE_e {T : Nat → Nat} {n f d : Nat} {c : Nat → Nat} {nm : Nat → Int64} {y : YS} {t : TKn} (h : t.1 = 0 ∨ isKw t 21) : sqE T n c nm (f + 1) d y t = Sum.inr (y, t) := if_pos h
theorem oneE_b {T : Nat → Nat} {n d : Nat} {c : Nat → Nat} {nm : Nat → Int64} {rec : Nat → YS → TKn → RS YS} {y y1 : YS} {t t1 : TKn} (h : opE T n c nm d y t = Sum.inr (y1, t1)) (hb : stpF t = 6 ∨ stpF t = 7) : oneE T n c nm rec d y t = bS (rec (d + 1) y1 t1) (fun y2 t2 => bS (kwE T n 21 t2) (fun _ t3 => bS (sgE T n 59 t3) (fun _ t4 => Sum.inr ((updC y2.1 (152 + 9 * y.2) y2.2, y2.2), t4)))) := (bS_r h).trans (if_pos hb)
theorem oneE_n {T : Nat → Nat} {n d : Nat} {c : Nat → Nat} {nm : Nat → Int64} {rec : Nat → YS → TKn → RS YS} {y y1 : YS} {t t1 : TKn} (h : opE T n c nm d y t = Sum.inr (y1, t1)) (hb : ¬ (stpF t = 6 ∨ stpF t = 7)) : oneE T n c nm rec d y t = Sum.inr ((updC y1.1 (152 + 9 * y.2) y1.2, y1.2), t1) := (bS_r h).trans (if_neg hb)
theorem c_sq {T : Nat → Nat} {n a b : Nat} {c : Nat → Nat} {nm : Nat → Int64} {P : Int32 → Sto → Prop} (hk : NmK c nm) : ∀ f d y t σ L, f ≤ 902 → RdC σ T n t → isTk T n (902 - f) t → CS σ a b nm y.2 L d → d ≤ 3 → L + d ≤ 2 * y.2 → y.2 ≤ 30 → y.1 0 = c 0 → y.1 2 = c 2 →
    (∀ e, sqE T n c nm f d y t = Sum.inl e → ∀ τ, Eo (SSt a L d) σ τ → gi τ 10 9 = nI e.1 → gi τ 10 10 = nI e.2 → P 0 τ) →
    (∀ z t', sqE T n c nm f d y t = Sum.inr (z, t') → ∀ τ M, Eo (SSt a L d) σ τ → RdC τ T n t' → isTk T n (902 - f) t' → (t'.1 = 0 ∨ isKw t' 21) → CS τ a b nm z.2 M d → M + d ≤ 2 * z.2 → z.2 ≤ 30 → Lay z.1 (gi τ (a + 1)) (gi τ (a + 2)) (gi τ (a + 3)) (gi τ (a + 4)) (gi τ (a + 5)) (31 - y.2) (3 - d) y.2 z.2 L M → (∀ i, i < 144 + 9 * y.2 → z.1 i = y.1 i) → LpB (fun (K : Int32 × Sto → Prop) s => w_X8_takes_33 K s.1 s.2 P) (62 - M) (nI M, τ)) →
    LpB (fun (K : Int32 × Sto → Prop) s => w_X8_takes_33 K s.1 s.2 P) (62 - L) (nI L, σ)
  | 0, d, y, t, σ, L, hf, h, ht, hc, hd, hLd, hs, m0, m2, kf, kk => absurd ht.f (fun q => by omega)
  | f + 1, d, y, t, σ, L, hf, h, ht, hc, hd, hLd, hs, m0, m2, kf, kk => by
    have ha := hc.1
    have hr := sty ha
    have tf := ht.f
    by_cases ze : t.1 = 0 ∨ isKw t 21
    · refine kk y t (sqE_e ze) σ L Eo.rf h ht ze hc hLd hs ?_ (fun _ _ => rfl)
      rw [show 31 - y.2 = (30 - y.2) + 1 by omega]
      exact Or.inl ⟨rfl, rfl⟩
    · have hi := (c_kind h.2.2.1 h.2.2.2.1).2.2.2.2.1
      rw [show 62 - L = (62 - (L + 1)) + 1 by omega]
      refine LpB.go (fun K hK => ?_)
      dsimp only
      unfold w_X8_takes_33
      rw [N900, if_neg (by rw [jI_lt (by decide) (by omega)]; omega), if_neg (fun q => ze (Or.inl (hi.mp q)))]
      refine c_isKeyword (i := 21) h.2.2.1 h.2.2.2.1 (by decide) (fun y => absurd (Or.inr y) ze) (fun _ => ?_)
      rw [if_pos rfl]
      have es := sqE_s (T := T) (n := n) (f := f) (d := d) (c := c) (nm := nm) (y := y) ze
      refine c_op h ht hc hk (fun _ => by omega) hd hs m0 m2 (fun e he τ e1 g9 g10 => ?_) (fun m t2 hm s30 τ e1 h1 ht1 c1 hb hst => ?_)
      · exact kf e (by rw [es]; exact bS_l (bS_l he)) τ e1 g9 g10
      · obtain ⟨y1, y2, y3, y4, y5, y6⟩ := opE_y hm
        dsimp only at y4 y5 y6
        have ht1' : isTk T n (902 - f) t2 := ht1.mo (by omega)
        -- the end of all: a step, then what follows it
        have fin : ∀ (w : YS) (tw : TKn) (τw : Sto) (Lw : Nat), oneE T n c nm (sqE T n c nm f) d y t = Sum.inr (w, tw) → RdC τw T n tw → isTk T n (902 - f) tw → CS τw a b nm w.2 Lw d → Lw + d ≤ 2 * w.2 → w.2 ≤ 30 → y.2 < w.2 → L < Lw → Eo (SSt a L d) σ τw → (∀ i, i < 144 + 9 * y.2 → w.1 i = y.1 i) →
            (∀ (z : YS) (τz : Sto) (M : Nat), Eo (SSt a Lw d) τw τz → (∀ i, i < 144 + 9 * w.2 → z.1 i = w.1 i) → Lay z.1 (gi τz (a + 1)) (gi τz (a + 2)) (gi τz (a + 3)) (gi τz (a + 4)) (gi τz (a + 5)) (31 - w.2) (3 - d) w.2 z.2 Lw M → Lay z.1 (gi τz (a + 1)) (gi τz (a + 2)) (gi τz (a + 3)) (gi τz (a + 4)) (gi τz (a + 5)) (31 - y.2) (3 - d) y.2 z.2 L M) →
            LpB (fun (K : Int32 × Sto → Prop) s => w_X8_takes_33 K s.1 s.2 P) (62 - Lw) (nI Lw, τw) := fun w tw τw Lw hw hR hT hC hl hs2 hlt hLw fr kp lay => by
          refine c_sq hk f d w tw τw Lw (by omega) hR hT hC hd hl hs2 (by rw [kp 0 (by omega)]; exact m0) (by rw [kp 2 (by omega)]; exact m2) (fun e he τ2 e2 g9 g10 => ?_) (fun z t' hz τ2 M e2 h2 ht2 hend c2 hl2 hs3 hlay kp2 => ?_)
          · exact kf e (by rw [es, bS_r hw]; exact he) τ2 (fr.tr (e2.mo (fun _ _ q => SStm q (by omega) (Nat.le_refl _)))) g9 g10
          · exact kk z t' (by rw [es, bS_r hw]; exact hz) τ2 M (fr.tr (e2.mo (fun _ _ q => SStm q (by omega) (Nat.le_refl _)))) h2 (ht2.mo (by omega)) hend c2 hl2 hs3 (lay z τ2 M e2 kp2 hlay) (fun i hi => by rw [kp2 i (by omega)]; exact kp i hi)
        by_cases hblk : stpF t = 6 ∨ stpF t = 7
        · obtain ⟨hd3, ho⟩ := hb hblk
          rw [if_pos hblk] at c1
          have e1b := oneE_b (rec := sqE T n c nm f) hm hblk
          have blkf : ∀ c' : Nat → Nat, c' (144 + 9 * y.2) = stpF t - 1 → blk c' y.2 := fun c' hc' => by unfold blk; omega
          refine hK _ (c_sq hk f (d + 1) (m, y.2 + 1) t2 τ (L + 1) (by omega) h1 ht1' c1 (by omega) (show L + 1 + (d + 1) ≤ 2 * (y.2 + 1) by omega) (show y.2 + 1 ≤ 30 by omega) (by rw [← m0]; exact y6 0 (by omega)) (by rw [← m2]; exact y6 2 (by omega)) (fun e he τ2 e2 g9 g10 => ?_) (fun z t' hz τ2 M e2 h2 ht2 hend c2 hl2 hs3 hlay kp2 => ?_))
          · exact kf e (by rw [es]; exact bS_l (by rw [e1b]; exact bS_l he)) τ2 (e1.tr (e2.mo (fun _ _ q => SStm q (by omega) (by omega)))) g9 g10
          · dsimp only at hlay kp2
            have fr2 : Eo (SSt a L d) σ τ2 := e1.tr (e2.mo (fun _ _ q => SStm q (by omega) (by omega)))
            have ll := Lay.lt2 _ _ _ _ _ _ hlay
            have hM : M < 60 := by omega
            have o2 : gi τ2 43 d = nI L := by
              rw [e2.1 _ _ (by unfold SSt ST0; omega)]; exact ho
            by_cases z21 : isKw t' 21
            · have ek : kwE T n 21 t' = Sum.inr ((), nxF T n t') := if_pos z21
              rw [show 62 - M = (62 - (M + 1)) + 1 by omega]
              refine LpB.go (fun K' hK' => ?_)
              dsimp only
              refine c_end33 h2 ht2 c2 hd3 hM (by omega) o2 z21 (fun e he τ3 e3 g9 g10 => ?_) (fun t4 h4' τ3 e3 h3 ht3 c3 v1 v2 v3 => ?_)
              · exact kf e (by rw [es]; exact bS_l (by rw [e1b, bS_r hz, bS_r ek]; exact bS_l he)) τ3 (fr2.tr (e3.mo (fun _ _ q => SEnS q (by omega)))) g9 g10
              · have he1 : oneE T n c nm (sqE T n c nm f) d y t = Sum.inr ((updC z.1 (152 + 9 * y.2) z.2, z.2), t4) := by
                  rw [e1b, bS_r hz, bS_r ek, bS_r h4']
                refine hK' _ (fin (updC z.1 (152 + 9 * y.2) z.2, z.2) t4 τ3 (M + 1) he1 h3 (ht3.mo (by omega)) c3 (show M + 1 + d ≤ 2 * z.2 by omega) hs3 (show y.2 < z.2 by omega) (by omega) (fr2.tr (e3.mo (fun _ _ q => SEnS q (by omega)))) (fun i hi => ?_) (fun zz τz MM ez kz lz => ?_))
                · show updC z.1 (152 + 9 * y.2) z.2 i = _
                  rw [updC_n (by omega), kp2 i (by omega)]
                  exact y6 i (by omega)
                · dsimp only at kz lz
                  have q8 : zz.1 (152 + 9 * y.2) = z.2 := by rw [kz _ (by omega), updC_s]
                  have q4 : zz.1 (144 + 9 * y.2) = stpF t - 1 := by
                    rw [kz _ (by omega), updC_n (by omega), kp2 _ (by omega)]; exact y5
                  have az : ∀ i k, 1 ≤ i → i ≤ 5 → k < M + 1 → gi τz (a + i) k = gi τ3 (a + i) k := fun i k i1 i2 k1 => ez.1 _ _ (by unfold SSt ST0; omega)
                  have a3 : ∀ i k, 1 ≤ i → i ≤ 5 → k < M → ¬ (i = 5 ∧ k = L) → gi τ3 (a + i) k = gi τ2 (a + i) k := fun i k i1 i2 k1 k2 => e3.1 _ _ (by unfold SEn ST0; omega)
                  have a2 : ∀ i k, 1 ≤ i → i ≤ 5 → k < L + 1 → gi τ2 (a + i) k = gi τ (a + i) k := fun i k i1 i2 k1 => e2.1 _ _ (by unfold SSt ST0; omega)
                  have cz0 : zz.1 0 = m 0 := by rw [kz _ (by omega), updC_n (by omega), kp2 _ (by omega)]
                  have cz2 : zz.1 2 = m 2 := by rw [kz _ (by omega), updC_n (by omega), kp2 _ (by omega)]
                  rw [show 31 - y.2 = (30 - y.2) + 1 by omega]
                  have lzz := Lay.lt2 _ _ _ _ _ _ lz
                  refine Or.inr ⟨by omega, by omega, ?_, Or.inr ⟨blkf _ q4, by rw [q8]; omega, by rw [q8]; omega, 3 - (d + 1), M, by omega, hM, ?_, ?_, ?_, ?_, ?_⟩⟩
                  · refine hst.cells cz0 cz2 (fun i i1 i2 => ?_) ?_ ?_ ?_ ?_
                    · rw [kz _ (by omega), updC_n (by omega), kp2 _ (by omega)]
                    · rw [az 1 L (by decide) (by decide) (by omega), a3 1 L (by decide) (by decide) (by omega) (by omega), a2 1 L (by decide) (by decide) (by omega)]
                    · rw [az 2 L (by decide) (by decide) (by omega), a3 2 L (by decide) (by decide) (by omega) (by omega), a2 2 L (by decide) (by decide) (by omega)]
                    · rw [az 3 L (by decide) (by decide) (by omega), a3 3 L (by decide) (by decide) (by omega) (by omega), a2 3 L (by decide) (by decide) (by omega)]
                    · rw [az 4 L (by decide) (by decide) (by omega), a3 4 L (by decide) (by decide) (by omega) (by omega), a2 4 L (by decide) (by decide) (by omega)]
                  · rw [q8]
                    have lr := Lay.rg (c' := zz.1) (V' := gi τz (a + 1)) (O' := gi τz (a + 2)) (G' := gi τz (a + 3)) (U' := gi τz (a + 4)) (T' := gi τz (a + 5)) (by rw [cz0, kp2 _ (by omega)]) (by rw [cz2, kp2 _ (by omega)]) _ _ _ _ _ _ hlay (fun i i1 i2 => by rw [kz _ (by omega), updC_n (by omega)]) (fun k k1 k2 => ⟨by rw [az 1 k (by decide) (by decide) (by omega), a3 1 k (by decide) (by decide) (by omega) (by omega)], by rw [az 2 k (by decide) (by decide) (by omega), a3 2 k (by decide) (by decide) (by omega) (by omega)], by rw [az 3 k (by decide) (by decide) (by omega), a3 3 k (by decide) (by decide) (by omega) (by omega)], by rw [az 4 k (by decide) (by decide) (by omega), a3 4 k (by decide) (by decide) (by omega) (by omega)], by rw [az 5 k (by decide) (by decide) (by omega), a3 5 k (by decide) (by decide) (by omega) (by omega)]⟩)
                    rw [show 31 - (y.2 + 1) = 30 - y.2 by omega] at lr
                    exact lr
                  · rw [az 1 M (by decide) (by decide) (by omega)]; exact v1
                  · rw [az 5 L (by decide) (by decide) (by omega)]; exact v2
                  · rw [az 5 M (by decide) (by decide) (by omega)]; exact v3
                  · rw [q8]
                    have lu := Lay.up _ _ _ _ _ _ (z.2 - y.2 - 1) lz
                    rw [show 31 - z.2 + (z.2 - y.2 - 1) = 30 - y.2 by omega] at lu
                    exact lu
            · have z0 : t'.1 = 0 := by
                rcases hend with q | q
                · exact q
                · exact absurd q z21
              have ek : kwE T n 21 t' = Sum.inl (fkF t' 2, t'.2.1) := if_neg z21
              have hi2 := (c_kind h2.2.2.1 h2.2.2.2.1).2.2.2.2.1
              rw [show 62 - M = (62 - (M + 1)) + 1 by omega]
              refine LpB.go (fun K' hK' => ?_)
              dsimp only
              unfold w_X8_takes_33
              rw [N900, if_neg (by rw [jI_lt (by decide) (by omega)]; omega), if_pos (hi2.mpr z0)]
              unfold w_X8_takes_129
              rw [c2.2.2.2.2.2.1, if_neg (by rw [N0, jI_le (by omega) (by decide)]; omega)]
              refine c_fail (f := 2) h2.2.2.1 h2.2.2.2.1 (fun τ3 e3 g9 g10 => ⟨Or.inl rfl, ?_⟩)
              exact kf (fkF t' 2, t'.2.1) (by rw [es]; exact bS_l (by rw [e1b, bS_r hz]; exact bS_l ek)) τ3 (fr2.tr (e3.mo (fun _ _ q => SSt0 (STf0 q)))) g9 g10
        · rw [if_neg hblk] at c1
          have e1n := oneE_n (rec := sqE T n c nm f) hm hblk
          dsimp only at e1n
          refine hK _ (fin (updC m (152 + 9 * y.2) (y.2 + 1), y.2 + 1) t2 τ (L + 1) e1n h1 ht1' c1 (show L + 1 + d ≤ 2 * (y.2 + 1) by omega) (show y.2 + 1 ≤ 30 by omega) (show y.2 < y.2 + 1 by omega) (by omega) e1 (fun i hi => ?_) (fun zz τz MM ez kz lz => ?_))
          · show updC m (152 + 9 * y.2) (y.2 + 1) i = _
            rw [updC_n (by omega)]
            exact y6 i (by omega)
          · dsimp only at kz lz
            have q8 : zz.1 (152 + 9 * y.2) = y.2 + 1 := by rw [kz _ (by omega), updC_s]
            have q4 : zz.1 (144 + 9 * y.2) = stpF t - 1 := by
              rw [kz _ (by omega), updC_n (by omega)]; exact y5
            have az : ∀ i k, 1 ≤ i → i ≤ 5 → k < L + 1 → gi τz (a + i) k = gi τ (a + i) k := fun i k i1 i2 k1 => ez.1 _ _ (by unfold SSt ST0; omega)
            rw [show 31 - y.2 = (30 - y.2) + 1 by omega]
            have lzz := Lay.lt2 _ _ _ _ _ _ lz
            refine Or.inr ⟨by omega, by omega, ?_, Or.inl ⟨fun q => by unfold blk at q; omega, q8, ?_⟩⟩
            · exact hst.cells (by rw [kz _ (by omega), updC_n (by omega)]) (by rw [kz _ (by omega), updC_n (by omega)]) (fun i i1 i2 => by rw [kz _ (by omega), updC_n (by omega)]) (az 1 L (by decide) (by decide) (by omega)) (az 2 L (by decide) (by decide) (by omega)) (az 3 L (by decide) (by decide) (by omega)) (az 4 L (by decide) (by decide) (by omega))
            · rw [show 31 - (y.2 + 1) = 30 - y.2 by omega] at lz
              exact lz
