/-! ===== texts: the class goes to its next token ===== -/
theorem c_digits {T : Nat → Nat} {n a : Nat} {P : Sto → Prop} : ∀ d p σ, p + d = n → a ≤ p → TB σ T n → gi σ 10 4 = nI p → (∀ τ, Eo STk σ τ → gi τ 10 4 = nI (diF T d p) → gi τ 10 6 = gi σ 10 6 → w_X9_readNumber_72 (nI (dgF T a (diF T d p - a))) τ P) → LpB (fun (K : Int32 × Sto → Prop) s => w_X9_readNumber_2 K s.1 s.2 P) (d + 1) (nI (dgF T a (p - a)), σ)
  | 0, p, σ, hd, ha, hb, hp, k => by
    have h9 := hb.2.1
    refine LpB.go (fun K hK => ?_)
    dsimp only
    unfold w_X9_readNumber_2
    rw [hb.1, hp, if_pos (by rw [jI_le (by omega) (by omega)]; omega)]
    exact k σ Eo.rf hp rfl
  | d + 1, p, σ, hd, ha, hb, hp, k => by
    have h9 := hb.2.1
    obtain ⟨b1, b2⟩ := hb.2.2 p (by omega)
    have kk := k σ Eo.rf
    unfold diF at k kk
    refine LpB.go (fun K hK => ?_)
    dsimp only
    unfold w_X9_readNumber_2
    rw [hb.1, hp, if_neg (by rw [jI_le (by omega) (by omega)]; omega), tn_nI (by omega), b1]
    refine ⟨vp_nI (by omega) (by decide), ?_⟩
    refine cRg (lo := 48) (hi := 57) b2 (by decide) (by decide) (fun hl => ?_) (fun hl => ?_)
    · rw [if_pos hl] at k
      have e5 : nI (dgF T a (p - a)) * 10 + s8 (T p) - 48 = nI (dgF T a (p + 1 - a)) := by
        rw [s8_pos (by omega), N10, show (48 : Int32) = nI 48 from rfl, jI_mul, jI_add, jI_sub (by omega), show p + 1 - a = (p - a) + 1 by omega]
        show _ = nI (dgF T a (p - a) * 10 + (T (a + (p - a)) - 48))
        rw [show a + (p - a) = p by omega]
        congr 1; omega
      rw [e5, N1, jI_add]
      rintro _ rfl
      have e : Eo STk σ (si σ 10 4 (nI (p + 1))) := Eo.si (by unfold STk; omega)
      exact hK _ (c_digits (a := a) d (p + 1) _ (by omega) (by omega) (hb.tk e) gi_si_s (fun τ e2 h2 h3 => k τ (e.tr e2) h2 (by rw [h3, gi_si_k (by decide)])))
    · rw [if_neg hl] at kk
      exact kk hp rfl
theorem TKC.m0 {σ : Sto} {a b v l : Nat} (h6 : gi σ 10 6 = nI a) (h4 : gi σ 10 4 = nI b) (h : gi σ 10 5 = 0) : TKC σ (0, a, b, v, l) := ⟨h6, h4, fun _ => h, fun q => absurd (show (0 : Nat) = 1 from q) (by decide), fun q => absurd (show (0 : Nat) = 2 from q) (by decide), fun q => absurd (show (0 : Nat) = 3 from q) (by decide), fun q => absurd (show (0 : Nat) = 4 from q) (by decide)⟩
theorem TKC.m1 {σ : Sto} {a b v l : Nat} (h6 : gi σ 10 6 = nI a) (h4 : gi σ 10 4 = nI b) (h : (l ≤ 8 → gl σ 10 8 = lI v ∧ (kwF v = 0 → gi σ 10 5 = 2) ∧ (kwF v ≠ 0 → gi σ 10 5 = 3 ∧ gi σ 10 7 = nI (kwF v - 1))) ∧ (8 < l → gi σ 10 5 = 4)) : TKC σ (1, a, b, v, l) := ⟨h6, h4, fun q => absurd (show (1 : Nat) = 0 from q) (by decide), fun _ => h, fun q => absurd (show (1 : Nat) = 2 from q) (by decide), fun q => absurd (show (1 : Nat) = 3 from q) (by decide), fun q => absurd (show (1 : Nat) = 4 from q) (by decide)⟩
theorem TKC.m2 {σ : Sto} {a b v l : Nat} (h6 : gi σ 10 6 = nI a) (h4 : gi σ 10 4 = nI b) (h : gi σ 10 5 = 5 ∧ gi σ 10 7 = nI v) : TKC σ (2, a, b, v, l) := ⟨h6, h4, fun q => absurd (show (2 : Nat) = 0 from q) (by decide), fun q => absurd (show (2 : Nat) = 1 from q) (by decide), fun _ => h, fun q => absurd (show (2 : Nat) = 3 from q) (by decide), fun q => absurd (show (2 : Nat) = 4 from q) (by decide)⟩
theorem TKC.m3 {σ : Sto} {a b v l : Nat} (h6 : gi σ 10 6 = nI a) (h4 : gi σ 10 4 = nI b) (h : gi σ 10 5 = 6 ∧ gi σ 10 7 = nI v) : TKC σ (3, a, b, v, l) := ⟨h6, h4, fun q => absurd (show (3 : Nat) = 0 from q) (by decide), fun q => absurd (show (3 : Nat) = 1 from q) (by decide), fun q => absurd (show (3 : Nat) = 2 from q) (by decide), fun _ => h, fun q => absurd (show (3 : Nat) = 4 from q) (by decide)⟩
theorem TKC.m4 {σ : Sto} {a b v l : Nat} (h6 : gi σ 10 6 = nI a) (h4 : gi σ 10 4 = nI b) (h : gi σ 10 5 = 1) : TKC σ (4, a, b, v, l) := ⟨h6, h4, fun q => absurd (show (4 : Nat) = 0 from q) (by decide), fun q => absurd (show (4 : Nat) = 1 from q) (by decide), fun q => absurd (show (4 : Nat) = 2 from q) (by decide), fun q => absurd (show (4 : Nat) = 3 from q) (by decide), fun _ => h⟩
theorem c_readWord {σ : Sto} {T : Nat → Nat} {n a : Nat} {P : Sto → Prop} (hb : TB σ T n) (hk : KC σ) (ha : a < n) (h4 : gi σ 10 4 = nI a) (h6 : gi σ 10 6 = nI a) (k : ∀ τ, Eo STk σ τ → TKC τ (1, a, leF T (n - a) a, pkF T a (leF T (n - a) a - a), leF T (n - a) a - a) → P τ) : w_X9_readWord σ P := by
  have h9 := hb.2.1
  have hle := leF_le (T := T) (n - a) a
  have hall := leF_all (T := T) (n - a) a
  unfold w_X9_readWord
  have e0 : Eo STk σ (sl σ 10 8 0) := Eo.sl (by unfold STk; omega)
  refine (c_letters (a := a) (n - a) a _ (by omega) (Nat.le_refl _) (hb.tk e0) (by rw [gi_sl]; exact h4) (by rw [gl_sl_s, Nat.sub_self]; rfl) (fun τ e g4 g6 g8 => ?_)).lp
  have g6' : gi τ 10 6 = nI a := by rw [g6, gi_sl]; exact h6
  unfold w_X9_readWord_83
  rw [g4, g6', jI_sub hle.1, show (8 : Int32) = nI 8 from rfl]
  generalize leF T (n - a) a = b at hle hall k g4 g8 ⊢
  by_cases h8 : b - a ≤ 8
  · rw [if_pos (by rw [jI_le (by omega) (by decide)]; exact h8)]
    have e2 : Eo STk τ (si τ 10 5 2) := Eo.si (by unfold STk; omega)
    have hv : pkF T a (b - a) < 2 ^ 40 := by
      have h1 := pkF_lt (T := T) (a := a) (b - a) (fun i hi => hall (a + i) (by omega) (by omega))
      have h2 : 32 ^ (b - a) ≤ 32 ^ 8 := Nat.pow_le_pow_right (by decide) h8
      have h3 : 32 ^ 8 = 2 ^ 40 := by decide
      omega
    refine (c_keys (v := pkF T a (b - a)) hv 23 0 _ rfl (hk.tk ((e0.tr e).tr e2)) (by rw [gl_si]; exact g8) rfl gi_si_s (fun υ e3 q8 q4 q6 z0 z1 => ?_)).lp
    refine k υ (((e0.tr e).tr e2).tr e3) (TKC.m1 ?_ ?_ ⟨fun _ => ⟨q8, z0, z1⟩, fun q => absurd q ?_⟩)
    · rw [q6, gi_si_k (by decide)]; exact g6'
    · rw [q4, gi_si_k (by decide)]; exact g4
    · omega
  · rw [if_neg (by rw [jI_le (by omega) (by decide)]; exact h8)]
    refine k _ ((e0.tr e).tr (Eo.si (by unfold STk; omega))) (TKC.m1 ?_ ?_ ⟨fun q => absurd q ?_, fun _ => gi_si_s⟩)
    · rw [gi_si_k (by decide)]; exact g6'
    · rw [gi_si_k (by decide)]; exact g4
    · exact h8
theorem c_readNumber {σ : Sto} {T : Nat → Nat} {n a : Nat} {P : Sto → Prop} (hb : TB σ T n) (ha : a < n) (h4 : gi σ 10 4 = nI a) (h6 : gi σ 10 6 = nI a) (k : ∀ τ, Eo STk σ τ → TKC τ (if diF T (n - a) a - a ≤ 4 then (2, a, diF T (n - a) a, dgF T a (diF T (n - a) a - a), 0) else (4, a, diF T (n - a) a, 0, 0)) → P τ) : w_X9_readNumber σ P := by
  have h9 := hb.2.1
  have hle := diF_le (T := T) (n - a) a
  unfold w_X9_readNumber
  have hc := c_digits (a := a) (P := P) (n - a) a σ (by omega) (Nat.le_refl _) hb h4 (fun τ e g4 g6 => by
    have g6' : gi τ 10 6 = nI a := by rw [g6]; exact h6
    unfold w_X9_readNumber_72
    rw [g4, g6', jI_sub hle.1, show (4 : Int32) = nI 4 from rfl]
    generalize diF T (n - a) a = b at hle k g4 ⊢
    have e2 : ∀ v w, Eo STk τ (si (si τ 10 5 v) 10 7 w) := fun v w => (Eo.si (by unfold STk; omega)).tr (Eo.si (by unfold STk; omega))
    have q6 : ∀ v w, gi (si (si τ 10 5 v) 10 7 w) 10 6 = nI a := fun v w => by rw [gi_si_k (by decide), gi_si_k (by decide)]; exact g6'
    have q4 : ∀ v w, gi (si (si τ 10 5 v) 10 7 w) 10 4 = nI b := fun v w => by rw [gi_si_k (by decide), gi_si_k (by decide)]; exact g4
    have q5 : ∀ v w, gi (si (si τ 10 5 v) 10 7 w) 10 5 = v := fun v w => by rw [gi_si_k (by decide), gi_si_s]
    by_cases h8 : b - a ≤ 4
    · rw [if_pos h8] at k
      rw [if_pos (by rw [jI_le (by omega) (by decide)]; exact h8)]
      exact k _ (e.tr (e2 _ _)) (TKC.m2 (q6 _ _) (q4 _ _) ⟨q5 _ _, gi_si_s⟩)
    · rw [if_neg h8] at k
      rw [if_neg (by rw [jI_le (by omega) (by decide)]; exact h8)]
      exact k _ (e.tr (e2 _ _)) (TKC.m4 (q6 _ _) (q4 _ _) (q5 _ _)))
  rw [Nat.sub_self] at hc
  exact hc.lp
theorem c_readSign {σ : Sto} {T : Nat → Nat} {n a : Nat} {P : Sto → Prop} (hb : TB σ T n) (ha : a < n) (h4 : gi σ 10 4 = nI a) (h6 : gi σ 10 6 = nI a) (k : ∀ τ, Eo STk σ τ → TKC τ (if T a = 59 ∨ T a = 60 ∨ T a = 62 ∨ T a = 61 then (3, a, a + 1, T a, 0) else (4, a, a + 1, 0, 0)) → P τ) : w_X9_readSign σ P := by
  have h9 := hb.2.1
  obtain ⟨b1, b2⟩ := hb.2.2 a ha
  unfold w_X9_readSign
  rw [h4, tn_nI (by omega), b1, N1, jI_add]
  refine ⟨vp_nI (by omega) (by decide), ?_⟩
  rintro _ rfl
  have e2 : ∀ v w, Eo STk σ (si (si (si σ 10 4 (nI (a + 1))) 10 5 v) 10 7 w) := fun v w => ((Eo.si (by unfold STk; omega)).tr (Eo.si (by unfold STk; omega))).tr (Eo.si (by unfold STk; omega))
  have q6 : ∀ v w, gi (si (si (si σ 10 4 (nI (a + 1))) 10 5 v) 10 7 w) 10 6 = nI a := fun v w => by rw [gi_si_k (by decide), gi_si_k (by decide), gi_si_k (by decide)]; exact h6
  have q4 : ∀ v w, gi (si (si (si σ 10 4 (nI (a + 1))) 10 5 v) 10 7 w) 10 4 = nI (a + 1) := fun v w => by rw [gi_si_k (by decide), gi_si_k (by decide), gi_si_s]
  have q5 : ∀ v w, gi (si (si (si σ 10 4 (nI (a + 1))) 10 5 v) 10 7 w) 10 5 = v := fun v w => by rw [gi_si_k (by decide), gi_si_s]
  have yes : (T a = 59 ∨ T a = 60 ∨ T a = 62 ∨ T a = 61) → P (si (si (si σ 10 4 (nI (a + 1))) 10 5 6) 10 7 (s8 (T a))) := fun hy => by
    rw [if_pos hy] at k
    exact k _ (e2 _ _) (TKC.m3 (q6 _ _) (q4 _ _) ⟨q5 _ _, by rw [gi_si_s, s8_pos (by omega)]⟩)
  rw [show (59 : Int32) = nI 59 from rfl, show (60 : Int32) = nI 60 from rfl, show (61 : Int32) = nI 61 from rfl, show (62 : Int32) = nI 62 from rfl]
  by_cases h1 : T a = 59
  · rw [if_pos ((s8_eq b2 (by decide)).mpr h1)]; exact yes (Or.inl h1)
  rw [if_neg (fun q => h1 ((s8_eq b2 (by decide)).mp q))]
  by_cases h2 : T a = 60
  · rw [if_pos ((s8_eq b2 (by decide)).mpr h2)]; exact yes (Or.inr (Or.inl h2))
  rw [if_neg (fun q => h2 ((s8_eq b2 (by decide)).mp q))]
  by_cases h3 : T a = 62
  · rw [if_pos ((s8_eq b2 (by decide)).mpr h3)]; exact yes (Or.inr (Or.inr (Or.inl h3)))
  rw [if_neg (fun q => h3 ((s8_eq b2 (by decide)).mp q))]
  by_cases h5 : T a = 61
  · rw [if_pos ((s8_eq b2 (by decide)).mpr h5)]; exact yes (Or.inr (Or.inr (Or.inr h5)))
  rw [if_neg (fun q => h5 ((s8_eq b2 (by decide)).mp q))]
  rw [if_neg (by omega)] at k
  exact k _ (e2 _ _) (TKC.m4 (q6 _ _) (q4 _ _) (q5 _ _))
theorem c_advance {σ : Sto} {T : Nat → Nat} {n p : Nat} {P : Sto → Prop} (hb : TB σ T n) (hk : KC σ) (hp : p ≤ n) (h4 : gi σ 10 4 = nI p) (k : ∀ τ, Eo STk σ τ → TKC τ (tokF T n p) → P τ) : w_X9_advance σ P := by
  have h9 := hb.2.1
  have hs := skF_le (T := T) (n - p) p
  unfold w_X9_advance
  refine (c_skip (n - p) p σ (by omega) hb h4 (fun τ e g4 => ?_)).lp
  unfold tokF at k
  generalize skF T (n - p) p = a at hs k g4
  have hbt := hb.tk e
  unfold w_X9_advance_52
  rintro σ2 h2
  rw [g4] at h2
  have e2 : Eo STk τ σ2 := by rw [h2]; exact (Eo.si (by unfold STk; omega)).tr (Eo.si (by unfold STk; omega))
  have f4 : gi σ2 10 4 = nI a := by rw [h2, gi_si_k (by decide), gi_si_k (by decide)]; exact g4
  have f6 : gi σ2 10 6 = nI a := by rw [h2, gi_si_k (by decide), gi_si_s]
  have hb2 := hbt.tk e2
  have hk2 := (hk.tk e).tk e2
  have kk : ∀ υ, Eo STk σ2 υ → TKC υ (tokA T n a) → P υ := fun υ e3 ht => k υ ((e.tr e2).tr e3) ht
  clear h2
  unfold tokA at kk
  rw [hb2.1, f4]
  by_cases ha : n ≤ a
  · rw [if_pos ha] at kk
    rw [if_neg (by rw [jI_lt (by omega) (by omega)]; omega)]
    exact kk _ (Eo.si (by unfold STk; omega)) (TKC.m0 (by rw [gi_si_k (by decide)]; exact f6) (by rw [gi_si_k (by decide)]; exact f4) gi_si_s)
  · rw [if_neg ha] at kk
    obtain ⟨b1, b2⟩ := hb2.2.2 a (by omega)
    rw [if_pos (by rw [jI_lt (by omega) (by omega)]; omega), tn_nI (by omega), b1]
    refine ⟨vp_nI (by omega) (by decide), ?_⟩
    refine cRg (lo := 97) (hi := 122) b2 (by decide) (by decide) (fun hl => ?_) (fun hl => ?_)
    · rw [if_pos hl] at kk
      exact c_readWord hb2 hk2 (by omega) f4 f6 kk
    · rw [if_neg hl] at kk
      unfold w_X9_advance_119 w_X9_advance_154
      rw [f4, tn_nI (by omega), b1]
      refine ⟨vp_nI (by omega) (by decide), ?_⟩
      refine cRg (lo := 48) (hi := 57) b2 (by decide) (by decide) (fun hg => ?_) (fun hg => ?_)
      · rw [if_pos hg] at kk
        exact c_readNumber hb2 (by omega) f4 f6 kk
      · rw [if_neg hg] at kk
        exact c_readSign hb2 (by omega) f4 f6 kk
