/-! ===== a whole city of the class: its numbers, names, centuries as lines ===== -/
/-- the class's word for a step of the model's -/
def vbF (c : Nat → Nat) (s : Nat) : Nat := if c (144 + 9 * s) = 5 then 7 + c (150 + 9 * s) else if c (144 + 9 * s) = 7 then 5 else c (144 + 9 * s)
/-- a line is a step -/
def stOK (c : Nat → Nat) (V O G U : Nat → Int32) (s L : Nat) : Prop :=
  c (144 + 9 * s) ≤ 7 ∧ V L = nI (vbF c s) ∧
  (c (144 + 9 * s) = 0 → U L = nI (c (145 + 9 * s)) ∧ 1 ≤ c (145 + 9 * s) ∧ c (145 + 9 * s) ≤ 9) ∧
  ((c (144 + 9 * s) = 1 ∨ c (144 + 9 * s) = 2 ∨ c (144 + 9 * s) = 3) → O L = nI (c (145 + 9 * s)) ∧ c (145 + 9 * s) < c 0) ∧
  (c (144 + 9 * s) = 5 → c (150 + 9 * s) ≤ 2 ∧ O L = nI (c (145 + 9 * s)) ∧ (c (150 + 9 * s) = 1 → c (145 + 9 * s) < c 2) ∧ (c (150 + 9 * s) ≠ 1 → c (145 + 9 * s) < c 0) ∧
    (c (150 + 9 * s) = 2 → G L = nI (c (151 + 9 * s)) ∧ (c (151 + 9 * s) = 60 ∨ c (151 + 9 * s) = 61 ∨ c (151 + 9 * s) = 62) ∧ U L = nI (c (146 + 9 * s)) ∧ c (146 + 9 * s) ≤ 99)) ∧
  (c (144 + 9 * s) = 6 → U L = nI (c (145 + 9 * s)) ∧ 1 ≤ c (145 + 9 * s) ∧ c (145 + 9 * s) ≤ 99)
def blk (c : Nat → Nat) (s : Nat) : Prop := c (144 + 9 * s) = 5 ∨ c (144 + 9 * s) = 6
/-- steps s to e, within so many others at most less d, are lines L to M -/
def Lay (c : Nat → Nat) (V O G U T : Nat → Int32) : Nat → Nat → Nat → Nat → Nat → Nat → Prop
  | 0, _, s, e, L, M => s = e ∧ L = M
  | n + 1, d, s, e, L, M => (s = e ∧ L = M) ∨ (s < e ∧ L < 60 ∧ stOK c V O G U s L ∧
    ((¬ blk c s ∧ c (152 + 9 * s) = s + 1 ∧ Lay c V O G U T n d (s + 1) e (L + 1) M) ∨
     (blk c s ∧ s + 1 ≤ c (152 + 9 * s) ∧ c (152 + 9 * s) ≤ e ∧ ∃ d' m, d = d' + 1 ∧ m < 60 ∧ Lay c V O G U T n d' (s + 1) (c (152 + 9 * s)) (L + 1) m ∧ V m = nI 10 ∧ T L = nI m ∧ T m = nI L ∧ Lay c V O G U T n d (c (152 + 9 * s)) e (m + 1) M)))
theorem stOK.cg {c : Nat → Nat} {V O G U V' O' G' U' : Nat → Int32} {s L : Nat} (h : stOK c V O G U s L) (e1 : V' L = V L) (e2 : O' L = O L) (e3 : G' L = G L) (e4 : U' L = U L) : stOK c V' O' G' U' s L := by
  unfold stOK at h ⊢
  rw [e1, e2, e3, e4]
  exact h
theorem Lay.cg {c : Nat → Nat} {V O G U T V' O' G' U' T' : Nat → Int32} (e : ∀ k, k < 60 → V' k = V k ∧ O' k = O k ∧ G' k = G k ∧ U' k = U k ∧ T' k = T k) : ∀ n d s f L M, Lay c V O G U T n d s f L M → Lay c V' O' G' U' T' n d s f L M
  | 0, _, _, _, _, _, h => h
  | n + 1, d, s, f, L, M, h => by
    rcases h with h | ⟨h1, h2, h3, h4⟩
    · exact Or.inl h
    · obtain ⟨a1, a2, a3, a4, a5⟩ := e L h2
      refine Or.inr ⟨h1, h2, h3.cg a1 a2 a3 a4, ?_⟩
      rcases h4 with ⟨b1, b2, b3⟩ | ⟨b1, b2, b3, d', m, b4, b5, b6, b7, b8, b9, b10⟩
      · exact Or.inl ⟨b1, b2, Lay.cg e n d _ _ _ _ b3⟩
      · obtain ⟨q1, q2, q3, q4, q5⟩ := e m b5
        exact Or.inr ⟨b1, b2, b3, d', m, b4, b5, Lay.cg e n d' _ _ _ _ b6, by rw [q1]; exact b7, by rw [a5]; exact b8, by rw [q5]; exact b9, Lay.cg e n d _ _ _ _ b10⟩
/-- the cells of the steps alike, of less than so many -/
theorem Lay.cc {c c' : Nat → Nat} {V O G U T : Nat → Int32} (h0 : c' 0 = c 0) (h2 : c' 2 = c 2) (hc : ∀ k, 144 ≤ k → c' k = c k) : ∀ n d s f L M, Lay c V O G U T n d s f L M → Lay c' V O G U T n d s f L M
  | 0, _, _, _, _, _, h => h
  | n + 1, d, s, f, L, M, h => by
    rcases h with h | ⟨g1, g2, g3, g4⟩
    · exact Or.inl h
    · have hs : stOK c' V O G U s L := by
        unfold stOK vbF at g3 ⊢
        rw [hc _ (by omega), hc (145 + 9 * s) (by omega), hc (146 + 9 * s) (by omega), hc (150 + 9 * s) (by omega), hc (151 + 9 * s) (by omega), h0, h2]
        exact g3
      have hb : blk c' s ↔ blk c s := by unfold blk; rw [hc _ (by omega)]
      refine Or.inr ⟨g1, g2, hs, ?_⟩
      rw [hb, hc (152 + 9 * s) (by omega)]
      rcases g4 with ⟨b1, b2, b3⟩ | ⟨b1, b2, b3, d', m, b4, b5, b6, b7, b8, b9, b10⟩
      · exact Or.inl ⟨b1, b2, Lay.cc h0 h2 hc n d _ _ _ _ b3⟩
      · exact Or.inr ⟨b1, b2, b3, d', m, b4, b5, Lay.cc h0 h2 hc n d' _ _ _ _ b6, b7, b8, b9, Lay.cc h0 h2 hc n d _ _ _ _ b10⟩
def SLay (σ : Sto) (a : Nat) (c : Nat → Nat) : Prop := gi σ a 5 = nI (c 142) ∧ c 142 ≤ 1 ∧ gi σ a 6 = nI (c 143) ∧ c 143 ≤ 30 ∧ ∃ ln, gi σ a 7 = nI ln ∧ ln ≤ 60 ∧ Lay c (gi σ (a + 1)) (gi σ (a + 2)) (gi σ (a + 3)) (gi σ (a + 4)) (gi σ (a + 5)) 31 3 0 (c 143) 0 ln
theorem SLay.cp {σ τ : Sto} {a b : Nat} {c : Nat → Nat} (h : SLay σ a c) (h5 : gi τ b 5 = gi σ a 5) (h6 : gi τ b 6 = gi σ a 6) (h7 : gi τ b 7 = gi σ a 7) (hl : ∀ k, k < 60 → gi τ (b + 1) k = gi σ (a + 1) k ∧ gi τ (b + 2) k = gi σ (a + 2) k ∧ gi τ (b + 3) k = gi σ (a + 3) k ∧ gi τ (b + 4) k = gi σ (a + 4) k ∧ gi τ (b + 5) k = gi σ (a + 5) k) : SLay τ b c := by
  obtain ⟨q1, q2, q3, q4, ln, q5, q6, q7⟩ := h
  exact ⟨by rw [h5]; exact q1, q2, by rw [h6]; exact q3, q4, ln, by rw [h7]; exact q5, q6, q7.cg hl⟩
/-- a whole city at a -/
def CF (σ : Sto) (a : Nat) (c : Nat → Nat) (nm : Nat → Int64) : Prop := CR σ a c ∧ (∀ k, k < 24 → gl σ (a + 1) k = nm k) ∧ SLay σ (a + 8) c
theorem CF.eo {S : Nat → Nat → Prop} {σ τ : Sto} {a : Nat} {c : Nat → Nat} {nm : Nat → Int64} (h : CF σ a c nm) (e : Eo S σ τ) (hs : ∀ i k, i ≤ 13 → ¬ S (a + i) k) : CF τ a c nm := by
  obtain ⟨h1, h2, h3⟩ := h
  refine ⟨h1.eo e hs, fun k hk => by rw [e.2.1 _ _ (hs 1 _ (by decide))]; exact h2 k hk, h3.cp (e.1 _ _ (hs 8 _ (by decide))) (e.1 _ _ (hs 8 _ (by decide))) (e.1 _ _ (hs 8 _ (by decide))) (fun k hk => ⟨e.1 _ _ ?_, e.1 _ _ ?_, e.1 _ _ ?_, e.1 _ _ ?_, e.1 _ _ ?_⟩)⟩
  · exact hs 9 _ (by decide)
  · exact hs 10 _ (by decide)
  · exact hs 11 _ (by decide)
  · exact hs 12 _ (by decide)
  · exact hs 13 _ (by decide)
/-- the city at a, whole -/
def SCi (a x _ : Nat) : Prop := a ≤ x ∧ x ≤ a + 13
theorem gi_cpi {σ : Sto} {a i b j n x y : Nat} : gi (cpi σ a i b j n) x y = if x = b ∧ j ≤ y ∧ y < j + n then gi σ a (i + (y - j)) else gi σ x y := rfl
theorem gl_cpi {σ : Sto} {a i b j n x y : Nat} : gl (cpi σ a i b j n) x y = gl σ x y := rfl
theorem gr_cpi {σ : Sto} {a i b j n x y : Nat} : gr (cpi σ a i b j n) x y = gr σ x y := rfl
theorem cpi_ne {σ : Sto} {a i b j n x y : Nat} (h : x ≠ b) : gi (cpi σ a i b j n) x y = gi σ x y := if_neg (fun q => h q.1)
theorem cpi_eq {σ : Sto} {a b n y : Nat} (h : y < n) : gi (cpi σ a 0 b 0 n) b y = gi σ a y := by
  rw [gi_cpi, if_pos ⟨rfl, Nat.zero_le _, by omega⟩, Nat.zero_add, Nat.sub_zero]
theorem Eo.cpi {S : Nat → Nat → Prop} {σ : Sto} {a i b j n : Nat} (h : ∀ y, S b y) : Eo S σ (cpi σ a i b j n) := ⟨fun x y hx => by
  rw [gi_cpi, if_neg (fun q => hx (by rw [q.1]; exact h y))], fun _ _ _ => rfl, fun _ _ => rfl⟩
theorem isCity.dj {a b : Nat} (ha : isCity a) (hb : isCity b) (h : a ≠ b) : a + 13 < b ∨ b + 13 < a := by
  rcases ha with rfl | rfl | rfl | rfl | rfl <;> rcases hb with rfl | rfl | rfl | rfl | rfl <;> omega
theorem isCity.st {a : Nat} (h : isCity a) : isStory (a + 8) := by
  unfold isStory
  rcases h with rfl | rfl | rfl | rfl | rfl <;> omega
theorem nI_le1 {n : Nat} (h : n ≤ 1) : nI n = 0 ∨ nI n = 1 := by
  match n, h with
  | 0, _ => exact Or.inl rfl
  | 1, _ => exact Or.inr rfl
theorem c_copyFrom {σ : Sto} {a0 a1 : Nat} {c : Nat → Nat} {nm : Nat → Int64} {P : Sto → Prop} (h0 : isCity a0) (h1 : isCity a1) (hne : a0 ≠ a1) (ok : OK c) (h : CF σ a1 c nm) (k : ∀ τ, Eo (SCi a0) σ τ → CF τ a0 c nm → CF τ a1 c nm → P τ) : w_X1_copyFrom a0 a1 σ P := by
  have hdj := h0.dj h1 hne
  have n0 := ok.n0
  have n1 := ok.n1
  have n2 := ok.n2
  have n3 := ok.n3
  obtain ⟨⟨r0, r1, r2, r3, r4, r5, r6⟩, hn, hs⟩ := h
  have hs0 := hs
  obtain ⟨s1, s2, s3, s4, ln, s5, s6, s7⟩ := hs
  unfold w_X1_copyFrom
  refine ⟨h1, h0, ?_⟩
  unfold w_X7_copyFrom
  refine ⟨h1.st, h0.st, ?_⟩
  intro σ3 e3
  have ge : ∀ x y, (x < a0 ∨ a0 + 13 < x ∨ x = a0 ∨ x = a0 + 8) → gi σ3 x y = gi σ x y := fun x y hx => by
    rw [e3]
    simp (disch := omega) only [cpi_ne]
    rfl
  have gle : ∀ x y, x ≠ a0 + 1 → gl σ3 x y = gl σ x y := fun x y hx => by
    rw [e3]
    simp only [gl_cpi]
    rw [gl_cpl, if_neg (fun q => hx q.1)]
  have gle1 : ∀ y, y < 24 → gl σ3 (a0 + 1) y = gl σ (a1 + 1) y := fun y hy => by
    rw [e3]
    simp only [gl_cpi]
    rw [gl_cpl, if_pos ⟨rfl, by omega, by omega⟩, Nat.zero_add, Nat.sub_zero]
  have c2 : ∀ y, y < 12 → gi σ3 (a0 + 2) y = gi σ (a1 + 2) y := fun y hy => by
    rw [e3]; simp (disch := omega) only [cpi_ne, cpi_eq]; rfl
  have c3 : ∀ y, y < 16 → gi σ3 (a0 + 3) y = gi σ (a1 + 3) y := fun y hy => by
    rw [e3]; simp (disch := omega) only [cpi_ne, cpi_eq]; rfl
  have c4 : ∀ y, y < 16 → gi σ3 (a0 + 4) y = gi σ (a1 + 4) y := fun y hy => by
    rw [e3]; simp (disch := omega) only [cpi_ne, cpi_eq]; rfl
  have c5 : ∀ y, y < 6 → gi σ3 (a0 + 5) y = gi σ (a1 + 5) y := fun y hy => by
    rw [e3]; simp (disch := omega) only [cpi_ne, cpi_eq]; rfl
  have c6 : ∀ y, y < 72 → gi σ3 (a0 + 6) y = gi σ (a1 + 6) y := fun y hy => by
    rw [e3]; simp (disch := omega) only [cpi_ne, cpi_eq]; rfl
  have c7 : ∀ y, y < 12 → gi σ3 (a0 + 7) y = gi σ (a1 + 7) y := fun y hy => by
    rw [e3]; simp (disch := omega) only [cpi_ne, cpi_eq]; rfl
  have l1 : ∀ y, y < 60 → gi σ3 (a0 + 8 + 1) y = gi σ (a1 + 8 + 1) y := fun y hy => by
    rw [e3]; simp (disch := omega) only [cpi_ne, cpi_eq]; rfl
  have l2 : ∀ y, y < 60 → gi σ3 (a0 + 8 + 2) y = gi σ (a1 + 8 + 2) y := fun y hy => by
    rw [e3]; simp (disch := omega) only [cpi_ne, cpi_eq]; rfl
  have l3 : ∀ y, y < 60 → gi σ3 (a0 + 8 + 3) y = gi σ (a1 + 8 + 3) y := fun y hy => by
    rw [e3]; simp (disch := omega) only [cpi_ne, cpi_eq]; rfl
  have l4 : ∀ y, y < 60 → gi σ3 (a0 + 8 + 4) y = gi σ (a1 + 8 + 4) y := fun y hy => by
    rw [e3]; simp (disch := omega) only [cpi_ne, cpi_eq]; rfl
  have l5 : ∀ y, y < 60 → gi σ3 (a0 + 8 + 5) y = gi σ (a1 + 8 + 5) y := fun y hy => by
    rw [e3]; simp (disch := omega) only [cpi_ne, cpi_eq]; rfl
  have er : ∀ x y, gr σ3 x y = gr σ x y := fun x y => by rw [e3]; rfl
  clear e3
  have fin : ∀ τ, (∀ x y, x ≠ a0 → x ≠ a0 + 8 → gi τ x y = gi σ3 x y) → gi τ (a0 + 8) 5 = gi σ3 (a1 + 8) 5 → gi τ (a0 + 8) 6 = gi σ3 (a1 + 8) 6 → gi τ (a0 + 8) 7 = gi σ3 (a1 + 8) 7 → (∀ i, i < 8 → gi τ a0 (8 + i) = gi σ3 a1 (8 + i)) → (∀ x y, gl τ x y = gl σ3 x y) → (∀ x y, gr τ x y = gr σ3 x y) → P τ := fun τ f1 f2 f3 f4 f5 f6 f7 => by
    have g1 : ∀ x y, (x < a0 ∨ a0 + 13 < x) → gi τ x y = gi σ x y := fun x y hx => by rw [f1 x y (by omega) (by omega), ge x y (by omega)]
    have e1 : Eo (SCi a0) σ τ := ⟨fun x y hx => g1 x y (by unfold SCi at hx; omega), fun x y hx => by rw [f6, gle x y (by unfold SCi at hx; omega)], fun x y => by rw [f7, er]⟩
    refine k τ e1 ⟨⟨fun i hi => ?_, fun t ht => ?_, fun m hm => ?_, fun m hm => ?_, fun w hw => ?_, fun v hv t ht => ?_, fun t ht => ?_⟩, fun i hi => ?_, ?_⟩ (CF.eo ⟨⟨r0, r1, r2, r3, r4, r5, r6⟩, hn, hs0⟩ e1 (fun i y hi q => by unfold SCi at q; omega))
    · rw [f5 i hi, ge _ _ (by omega)]; exact r0 i hi
    · rw [f1 _ _ (by omega) (by omega), c2 t (by omega)]; exact r1 t ht
    · rw [f1 _ _ (by omega) (by omega), c3 m (by omega)]; exact r2 m hm
    · rw [f1 _ _ (by omega) (by omega), c4 m (by omega)]; exact r3 m hm
    · rw [f1 _ _ (by omega) (by omega), c5 w (by omega)]; exact r4 w hw
    · rw [f1 _ _ (by omega) (by omega), c6 _ (by omega)]; exact r5 v hv t ht
    · rw [f1 _ _ (by omega) (by omega), c7 t (by omega)]; exact r6 t ht
    · rw [f6, gle1 i hi]; exact hn i hi
    · refine hs0.cp (by rw [f2, ge _ _ (by omega)]) (by rw [f3, ge _ _ (by omega)]) (by rw [f4, ge _ _ (by omega)]) (fun y hy => ⟨?_, ?_, ?_, ?_, ?_⟩)
      · rw [f1 _ _ (by omega) (by omega), l1 y hy]
      · rw [f1 _ _ (by omega) (by omega), l2 y hy]
      · rw [f1 _ _ (by omega) (by omega), l3 y hy]
      · rw [f1 _ _ (by omega) (by omega), l4 y hy]
      · rw [f1 _ _ (by omega) (by omega), l5 y hy]
  refine ⟨by rw [ge _ _ (by omega), s1]; exact nI_le1 s2, ?_⟩
  rintro _ rfl
  rintro _ rfl
  rintro _ rfl
  rintro _ rfl
  rintro _ rfl
  rintro _ rfl
  rintro _ rfl
  rintro _ rfl
  rintro _ rfl
  refine fin _ (fun x y hx hx2 => ?_) ?_ ?_ ?_ (fun i hi => ?_) (fun x y => rfl) (fun x y => rfl)
  · simp (disch := omega) only [gi_si_a]
  · simp (disch := omega) only [gi_si_a, gi_si_k, gi_si_s]
  · simp (disch := omega) only [gi_si_a, gi_si_k, gi_si_s]
  · simp (disch := omega) only [gi_si_a, gi_si_k, gi_si_s]
  · match i, hi with
    | 0, _ => simp (disch := omega) only [gi_si_a, gi_si_k, gi_si_s]
    | 1, _ => simp (disch := omega) only [gi_si_a, gi_si_k, gi_si_s]
    | 2, _ => simp (disch := omega) only [gi_si_a, gi_si_k, gi_si_s]
    | 3, _ => simp (disch := omega) only [gi_si_a, gi_si_k, gi_si_s]
    | 4, _ => simp (disch := omega) only [gi_si_a, gi_si_k, gi_si_s]
    | 5, _ => simp (disch := omega) only [gi_si_a, gi_si_k, gi_si_s]
    | 6, _ => simp (disch := omega) only [gi_si_a, gi_si_k, gi_si_s]
    | 7, _ => simp (disch := omega) only [gi_si_a, gi_si_k, gi_si_s]
