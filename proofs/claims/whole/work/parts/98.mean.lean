/-! ===== centuries lived: lived, mean in the class ===== -/
def livedA (b : Nat) (tl : Nat → Nat) (x : Int32) : Int32 × Int32 := if ¬ x < 0 ∧ x < nI 5 then (if b = 0 then (-1, 8) else (nI (tl (tn x)), 0)) else (-1, 5)
theorem c_lived {σ : Sto} {c : Nat → Nat} {N b : Nat} {tl : Nat → Nat} {x : Int32} {P : Int32 → Sto → Prop} (h : KW N σ c) (hb : gi σ 1 14 = nI b) (hb1 : b ≤ 1) (ht : b ≠ 0 → ∀ i, i < 5 → gi σ 100 i = nI (tl i)) (k : ∀ τ, Eo SQ σ τ → KW N τ c → gi τ 1 15 = (livedA b tl x).2 → P (livedA b tl x).1 τ) : w_X11_lived x σ P := by
  have sq15 : ∀ v, Eo SQ σ (si σ 1 15 v) := fun v => Eo.si (by unfold SQ; omega)
  have kk : ∀ v, v = (livedA b tl x).2 → P (livedA b tl x).1 (si σ 1 15 v) := fun v hv => k _ (sq15 _) h.st (by rw [gi_si_s]; exact hv)
  unfold livedA at kk
  unfold w_X11_lived w_X11_lived_9 w_X11_refuse w_X11_fine
  by_cases h0 : x < 0
  · rw [if_neg (fun q => q.1 h0)] at kk
    rw [if_pos h0]
    exact kk _ rfl
  rw [if_neg h0]
  by_cases h5 : x < 5
  · rw [if_pos ⟨h0, h5⟩] at kk
    rw [if_pos h5, hb, N0]
    by_cases hz : b = 0
    · rw [if_pos hz] at kk
      rw [if_pos (by rw [hz])]
      exact kk _ rfl
    · rw [if_neg hz] at kk
      rw [if_neg (by rw [jI_eq (by omega) (by decide)]; exact hz)]
      obtain ⟨n, hn, rfl⟩ := (inD_iff (x := x) (N := 5) (by decide)).mpr ⟨h0, h5⟩
      rw [tn_nI (by omega)] at kk ⊢
      rw [ht hz n hn]
      exact ⟨vp_nI hn (by decide), kk _ rfl⟩
  · rw [if_neg (fun q => h5 q.2)] at kk
    rw [if_neg h5]
    exact kk _ rfl
theorem m_lived {σ : Sto} {b : Nat} {tl : Nat → Nat} {x : Int32} {P : Int32 → Sto → Prop} (hb : gi σ 101 39 = nI b) (hb1 : b ≤ 1) (ht : b ≠ 0 → ∀ i, i < 5 → gi σ 118 i = nI (tl i)) (k : ∀ τ, Eo SM σ τ → gi τ 101 0 = (livedA b tl x).2 → P (livedA b tl x).1 τ) : w_X12_lived x σ P := by
  unfold w_X12_lived w_X12_refuse
  unfold livedA at k
  refine t_isInK (N := 4) (by decide) (by decide) (fun hx => ?_) (fun hx => ?_)
  · obtain ⟨n, hn, rfl⟩ := hx
    rw [ifD_pos (by omega) (by decide)] at k
    rw [if_neg (show ¬ (1 : Int32) = 0 by decide), gi_si_k (by decide), gi_si_k (by decide), hb, N0]
    by_cases hz : b = 0
    · rw [if_pos hz] at k
      rw [if_pos (by rw [hz])]
      exact k _ (sm10.tr sm0) gi_si_s
    · rw [if_neg hz] at k
      rw [if_neg (by rw [jI_eq (by omega) (by decide)]; exact hz), tn_nI (by omega), gi_si_a (by decide), gi_si_a (by decide), ht hz n (by omega)]
      rw [tn_nI (by omega)] at k
      exact ⟨vp_nI (by omega) (by decide), k _ sm10 gi_si_s⟩
  · rw [ifD_neg hx (by decide)] at k
    rw [if_pos rfl]
    exact k _ (sm10.tr sm0) gi_si_s
def sumM (c : Nat → Nat) (seed : Nat) (m : Nat) : Nat := foldN (fun s j => s + card (doneF (runF c (seed + j)).1 (nowF (runF c (seed + j)).1))) 0 m
theorem sumM_s {c : Nat → Nat} {seed m : Nat} : sumM c seed (m + 1) = sumM c seed m + card (doneF (runF c (seed + m)).1 (nowF (runF c (seed + m)).1)) := rfl
theorem sumM_le {c : Nat → Nat} {seed : Nat} : ∀ m, sumM c seed m ≤ 12 * m
  | 0 => Nat.le_refl _
  | m + 1 => by
    have h1 := sumM_le (c := c) (seed := seed) m
    have h2 := card_le (a := doneF (runF c (seed + m)).1 (nowF (runF c (seed + m)).1))
    rw [sumM_s]
    omega
/-- seeds and how many -/
def Mok (x y : Int32) : Prop := ∃ n m, x = nI n ∧ y = nI m ∧ 1 ≤ m ∧ m ≤ 20 ∧ n + m ≤ 10000
theorem nI_upto {x : Int32} {N : Nat} (hN : N < 2147483647) (h0 : ¬ x < 0) (h1 : ¬ nI N < x) : ∃ n, n ≤ N ∧ x = nI n := by
  have hd : inD x (N + 1) := (inD_iff (by omega)).mpr ⟨h0, by
    rw [Int32.lt_iff_toInt_lt, jI_toInt (by omega)] at h1
    rw [Int32.lt_iff_toInt_lt, jI_toInt (by omega)]
    omega⟩
  obtain ⟨n, hn, e⟩ := hd
  exact ⟨n, by omega, e⟩
theorem sm_back {c0 y : Nat → Nat} (h : Sm c0 y) : updC (updC (updC y 6 (c0 6)) 7 (c0 7)) 5 (c0 5) = c0 := by
  funext i
  by_cases h5 : i = 5
  · rw [h5, updC_s]
  rw [updC_n h5]
  by_cases h7 : i = 7
  · rw [h7, updC_s]
  rw [updC_n h7]
  by_cases h6 : i = 6
  · rw [h6, updC_s]
  rw [updC_n h6]
  exact h i h5 h6 h7
def SLm (A a k : Nat) : Prop := SLr A a k ∨ (a = 1 ∧ (k = 15 ∨ k = 16 ∨ k = 17))
theorem SLay.fr {A : Nat} {S : Nat → Nat → Prop} {σ τ : Sto} {c : Nat → Nat} (h : SLay σ (A + 8) c) (e : Eo S σ τ) (hs : ∀ i k, 8 ≤ i → i ≤ 13 → ¬ S (A + i) k) : SLay τ (A + 8) c :=
  h.cp (e.1 (A + 8) 5 (hs 8 5 (by decide) (by decide))) (e.1 (A + 8) 6 (hs 8 6 (by decide) (by decide))) (e.1 (A + 8) 7 (hs 8 7 (by decide) (by decide))) (fun k _ => ⟨e.1 (A + 9) k (hs 9 k (by decide) (by decide)), e.1 (A + 10) k (hs 10 k (by decide) (by decide)), e.1 (A + 11) k (hs 11 k (by decide) (by decide)), e.1 (A + 12) k (hs 12 k (by decide) (by decide)), e.1 (A + 13) k (hs 13 k (by decide) (by decide))⟩)
theorem c_mean {σ : Sto} {c : Nat → Nat} {N : Nat} {x y : Int32} {P : Int32 → Sto → Prop} (h : KW N σ c) (ok : OK c) (hN : N ≤ 2000) (hl : SLay σ (gr σ 1 11 + 8) c)
    (k5 : ¬ Mok x y → ∀ τ, Eo SQ σ τ → KW N τ c → gi τ 1 15 = 5 → P 0 τ) (k8 : Mok x y → c 142 = 0 → ∀ τ, Eo SQ σ τ → KW N τ c → gi τ 1 15 = 8 → P 0 τ)
    (k1 : ∀ n m, x = nI n → y = nI m → 1 ≤ m → m ≤ 20 → n + m ≤ 10000 → c 142 ≠ 0 → ∀ τ, Eo (SLm (gr σ 1 11)) σ τ → KW N τ c → gi τ 1 15 = 0 → gl τ 1 16 = lI (sumM c n m / Nat.gcd (sumM c n m) m) → gl τ 1 17 = lI (m / Nat.gcd (sumM c n m) m) → P 1 τ) : w_X11_mean x y σ P := by
  have sq15 : ∀ v, Eo SQ σ (si σ 1 15 v) := fun v => Eo.si (by unfold SQ; omega)
  have k5' : ¬ Mok x y → (0 = (0 : Int32) ∨ (0 : Int32) = 1) ∧ P 0 (si σ 1 15 5) := fun q => ⟨Or.inl rfl, k5 q _ (sq15 _) h.st gi_si_s⟩
  have hA := h.1.rg
  have big : ∀ a b : Nat, a < 2147483648 → b < 2147483648 → nI a = nI b → a = b := fun a b ha hb q => (jI_eq ha hb).mp q
  unfold w_X11_mean w_X11_mean_33 w_X11_refuseSo
  by_cases c1 : x < 0
  · rw [if_pos c1]
    refine k5' (fun q => ?_)
    obtain ⟨n, m, rfl, rfl, q3, q4, q5⟩ := q
    exact jI_neg (by omega) c1
  rw [if_neg c1]
  by_cases c2 : 9999 < x
  · rw [if_pos c2]
    refine k5' (fun q => ?_)
    obtain ⟨n, m, rfl, rfl, q3, q4, q5⟩ := q
    have := (jI_lt (a := 9999) (b := n) (by decide) (by omega)).mp c2
    omega
  rw [if_neg c2]
  by_cases c3 : y < 1
  · rw [if_pos c3]
    refine k5' (fun q => ?_)
    obtain ⟨n, m, rfl, rfl, q3, q4, q5⟩ := q
    have := (jI_lt (a := m) (b := 1) (by omega) (by decide)).mp c3
    omega
  rw [if_neg c3]
  by_cases c4 : 20 < y
  · rw [if_pos c4]
    refine k5' (fun q => ?_)
    obtain ⟨n, m, rfl, rfl, q3, q4, q5⟩ := q
    have := (jI_lt (a := 20) (b := m) (by decide) (by omega)).mp c4
    omega
  rw [if_neg c4]
  obtain ⟨n, hn, rfl⟩ := nI_upto (N := 9999) (by decide) c1 c2
  obtain ⟨m, hm, rfl⟩ := nI_upto (x := y) (N := 20) (by decide) (fun q => c3 (by
    rw [Int32.lt_iff_toInt_lt] at q ⊢
    have e1 : (0 : Int32).toInt = 0 := by decide
    have e2 : (1 : Int32).toInt = 1 := by decide
    omega)) c4
  have hm1 : 1 ≤ m := by
    refine Classical.byContradiction (fun q => c3 ?_)
    rw [N1, jI_lt (by omega) (by decide)]
    omega
  have es : nI n + nI m - 1 = nI (n + m - 1) := by rw [jI_add, N1, jI_sub (by omega)]
  rw [es, N9999]
  by_cases c5 : n + m ≤ 10000
  · have hok : Mok (nI n) (nI m) := ⟨n, m, rfl, rfl, hm1, hm, c5⟩
    rw [if_pos (by rw [jI_le (by omega) (by decide)]; omega)]
    refine ⟨h.1, ?_⟩
    rw [hl.1, N0]
    by_cases h0 : c 142 = 0
    · rw [if_pos (by rw [h0])]
      exact ⟨Or.inl rfl, k8 hok h0 _ (sq15 _) h.st gi_si_s⟩
    rw [if_neg (by rw [jI_eq (by have := hl.2.1; omega) (by decide)]; exact h0)]
    rw [show gi σ (gr σ 1 11) 14 = nI (c 6) from h.f (k := 6) (by decide), show gi σ (gr σ 1 11) 15 = nI (c 7) from h.f (k := 7) (by decide), show gi σ (gr σ 1 11) 13 = nI (c 5) from h.f (k := 5) (by decide)]
    rintro _ rfl
    rintro _ rfl
    rintro _ rfl
    refine Lp_for m (fun j s => s.1 = nI (sumM c n j) ∧ s.2.1 = nI j ∧ Eo (SLr (gr σ 1 11)) σ s.2.2 ∧ KW N s.2.2 c) ⟨rfl, rfl, Eo.rf, h⟩ ?_ ?_
    · rintro j hj K ⟨x6, x7, τ⟩ ⟨r1, r2, e, hw⟩ hK
      dsimp only at r1 r2 e hw hK ⊢
      subst r1 r2
      have hAt : gr τ 1 11 = gr σ 1 11 := e.2.2 1 11
      unfold w_X11_mean_91
      rw [if_neg (by rw [jI_le (by omega) (by omega)]; omega), jI_add]
      have hlt : SLay τ (gr τ 1 11 + 8) c := by
        rw [hAt]
        exact hl.fr e (fun i k h8 h13 q => by unfold SLr SLa at q; omega)
      refine c_goThrough hw ok hN hlt (by omega) (fun υ hx => ?_)
      have oky := hx.2.1.2.1
      have sm := hx.2.2.1
      have hwu := hx.2.1.1
      refine t_atPresent hwu.kb.1 oky hN (fun φ e2 hS => ?_)
      have hwf : KW N φ (runF c (n + j)).1 := hwu.e89 e2 hS
      refine t_doable hS.1 hS.2.1 oky ?_
      rw [t_bitCount12 (doneF_12 oky), jI_add, ← sumM_s]
      rintro _ rfl
      have hAf : gr φ 1 11 = gr σ 1 11 := by rw [e2.2.2 1 11, hx.2.2.2.1, hAt]
      have y0 : (runF c (n + j)).1 0 = c 0 := sm 0 (by decide) (by decide) (by decide)
      have ok1 : OK (updC (runF c (n + j)).1 6 (c 6)) := oky.put (Or.inr (Or.inl ⟨rfl, by rw [y0]; exact ok.n6⟩))
      have ok2 : OK (updC (updC (runF c (n + j)).1 6 (c 6)) 7 (c 7)) := ok1.put (Or.inr (Or.inr ⟨rfl, by rw [updC_n (by decide), y0]; exact ok.n7⟩))
      have w1 := hwf.put oky (k := 6) (v := c 6) (Or.inr (Or.inl rfl))
      refine ⟨hwf.1, ?_⟩
      rintro σ34 h34
      have w1' : KW N σ34 (updC (runF c (n + j)).1 6 (c 6)) := by rw [h34]; exact w1
      have a1 : gr σ34 1 11 = gr σ 1 11 := by rw [h34, gr_si]; exact hAf
      have w2 := w1'.put ok1 (k := 7) (v := c 7) (Or.inr (Or.inr rfl))
      refine ⟨w1'.1, ?_⟩
      rintro σ37 h37
      have w2' : KW N σ37 (updC (updC (runF c (n + j)).1 6 (c 6)) 7 (c 7)) := by rw [h37]; exact w2
      have a2 : gr σ37 1 11 = gr σ 1 11 := by rw [h37, gr_si]; exact a1
      have w3 := w2'.put ok2 (k := 5) (v := c 5) (Or.inl rfl)
      rw [sm_back sm] at w3
      refine ⟨w2'.1, ?_⟩
      rw [N1, jI_add]
      rintro _ rfl
      refine hK _ ⟨rfl, rfl, ?_, w3⟩
      have hx1 : Eo (SLr (gr σ 1 11)) τ υ := by have := hx.1; rw [hAt] at this; exact this
      have e3 : Eo (SLr (gr σ 1 11)) υ φ := e2.mo (fun a k z => by unfold S89 at z; unfold SLr SLa; omega)
      have e4 : Eo (SLr (gr σ 1 11)) φ σ34 := by rw [h34, hAf]; exact Eo.si (by unfold SLr SLa; omega)
      have e5 : Eo (SLr (gr σ 1 11)) σ34 σ37 := by rw [h37, a1]; exact Eo.si (by unfold SLr SLa; omega)
      dsimp only
      rw [a2]
      exact ((((e.tr hx1).tr e3).tr e4).tr e5).tr (Eo.si (by unfold SLr SLa; omega))
    · rintro K ⟨x6, x7, τ⟩ ⟨r1, r2, e, hw⟩
      dsimp only at r1 r2 e hw ⊢
      subst r1 r2
      have hsm := sumM_le (c := c) (seed := n) m
      unfold w_X11_mean_91
      rw [if_pos (Int32.le_refl _), lI_nI (by omega), lI_nI (by omega)]
      refine c_fraction (by omega) (by omega) (by omega) ?_
      unfold w_X11_fineSo
      refine ⟨Or.inr rfl, k1 n m rfl rfl hm1 hm c5 h0 _ ?_ ?_ gi_si_s ?_ ?_⟩
      · exact (((e.mo (fun a k z => Or.inl z)).tr (Eo.sl (Or.inr ⟨rfl, by omega⟩))).tr (Eo.sl (Or.inr ⟨rfl, by omega⟩))).tr (Eo.si (Or.inr ⟨rfl, by omega⟩))
      · exact (hw.fr (Eo.tr (S := SF) (Eo.sl (by unfold SF; omega)) (Eo.sl (by unfold SF; omega)))).st
      · rw [gl_si, gl_sl_k (by decide), gl_sl_s]
      · rw [gl_si, gl_sl_s]
  · rw [if_neg (by rw [jI_le (by omega) (by decide)]; omega)]
    refine k5' (fun q => c5 ?_)
    obtain ⟨n', m', q1, q2, q3, q4, q5⟩ := q
    have e1 := big n n' (by omega) (by omega) q1
    have e2 := big m m' (by omega) (by omega) q2
    omega
