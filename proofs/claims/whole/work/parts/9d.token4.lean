/-! ===== texts: the model goes to its next token ===== -/
def TBm (σ : Sto) (T : Nat → Nat) (n : Nat) : Prop := gi σ 101 9 = nI n ∧ n ≤ 900 ∧ ∀ k, k < n → gi σ 105 k = s8 (T k) ∧ T k < 256
def STm (a k : Nat) : Prop := a = 101 ∧ 14 ≤ k ∧ k ≤ 19
theorem TBm.eo {σ τ : Sto} {T : Nat → Nat} {n : Nat} {S : Nat → Nat → Prop} (h : TBm σ T n) (e : Eo S σ τ) (h3 : ¬ S 101 9) (h11 : ∀ k, ¬ S 105 k) : TBm τ T n := ⟨by rw [e.1 101 9 h3]; exact h.1, h.2.1, fun k hk => by rw [e.1 105 k (h11 k)]; exact h.2.2 k hk⟩
theorem TBm.tk {σ τ : Sto} {T : Nat → Nat} {n : Nat} (h : TBm σ T n) (e : Eo STm σ τ) : TBm τ T n := h.eo e (by unfold STm; omega) (fun k q => by unfold STm at q; omega)
theorem t_look {σ : Sto} {T : Nat → Nat} {n p : Nat} {P : Int32 → Sto → Prop} (hb : TBm σ T n) (hp : p < n) (k : P (nI (T p)) σ) : w_X12_look2 (nI p) σ P := by
  have h9 := hb.2.1
  obtain ⟨b1, b2⟩ := hb.2.2 p hp
  unfold w_X12_look2
  rw [hb.1, if_neg (by rw [jI_le (by omega) (by omega)]; omega), tn_nI (by omega), b1, s8_and b2]
  exact ⟨vp_nI (by omega) (by decide), k⟩
theorem t_look0 {σ : Sto} {T : Nat → Nat} {n p : Nat} {P : Int32 → Sto → Prop} (hb : TBm σ T n) (hp : p = n) (k : P (nI 0) σ) : w_X12_look2 (nI p) σ P := by
  have h9 := hb.2.1
  unfold w_X12_look2
  rw [hb.1, if_pos (by rw [jI_le (by omega) (by omega)]; omega)]
  exact k
theorem t_isLetter {σ : Sto} {x : Nat} {P : Int32 → Sto → Prop} (hx : x < 256) (k1 : 97 ≤ x ∧ x ≤ 122 → P 1 σ) (k0 : ¬ (97 ≤ x ∧ x ≤ 122) → P 0 σ) : w_X12_isLetter (nI x) σ P := by
  unfold w_X12_isLetter
  rw [show (97 : Int32) = nI 97 from rfl, show (122 : Int32) = nI 122 from rfl]
  by_cases h1 : x < 97
  · rw [if_pos ((jI_lt (by omega) (by decide)).mpr h1)]; exact k0 (by omega)
  rw [if_neg (fun q => h1 ((jI_lt (by omega) (by decide)).mp q))]
  by_cases h2 : 122 < x
  · rw [if_pos ((jI_lt (by decide) (by omega)).mpr h2)]; exact k0 (by omega)
  rw [if_neg (fun q => h2 ((jI_lt (by decide) (by omega)).mp q))]
  exact k1 (by omega)
theorem t_isDigit {σ : Sto} {x : Nat} {P : Int32 → Sto → Prop} (hx : x < 256) (k1 : 48 ≤ x ∧ x ≤ 57 → P 1 σ) (k0 : ¬ (48 ≤ x ∧ x ≤ 57) → P 0 σ) : w_X12_isDigit (nI x) σ P := by
  unfold w_X12_isDigit
  rw [show (48 : Int32) = nI 48 from rfl, show (57 : Int32) = nI 57 from rfl]
  by_cases h1 : x < 48
  · rw [if_pos ((jI_lt (by omega) (by decide)).mpr h1)]; exact k0 (by omega)
  rw [if_neg (fun q => h1 ((jI_lt (by omega) (by decide)).mp q))]
  by_cases h2 : 57 < x
  · rw [if_pos ((jI_lt (by decide) (by omega)).mpr h2)]; exact k0 (by omega)
  rw [if_neg (fun q => h2 ((jI_lt (by decide) (by omega)).mp q))]
  exact k1 (by omega)
def TKM (σ : Sto) (t : TKn) : Prop := gi σ 101 15 = nI t.2.1 ∧ gi σ 101 16 = nI t.2.2.1 ∧ gi σ 101 14 = nI t.1 ∧ (t.1 = 1 → gi σ 101 18 = nI t.2.2.2.2 ∧ gl σ 101 19 = if t.2.2.2.2 ≤ 8 then lI t.2.2.2.1 else -1) ∧ ((t.1 = 2 ∨ t.1 = 3) → gi σ 101 17 = nI t.2.2.2.1)
theorem m_skip {T : Nat → Nat} {n : Nat} {P : Sto → Prop} : ∀ d p σ, p + d = n → TBm σ T n → gi σ 101 15 = nI p → (∀ τ, Eo STm σ τ → gi τ 101 15 = nI (skF T d p) → w_X12_advance_58 τ P) → LpB (fun (K : Sto → Prop) s => w_X12_advance_8 K s P) (d + 1) σ
  | 0, p, σ, hd, hb, hp, k => by
    have h9 := hb.2.1
    refine LpB.go (fun K hK => ?_)
    unfold w_X12_advance_8
    rw [hb.1, hp, if_pos (by rw [jI_le (by omega) (by omega)]; omega)]
    exact k σ Eo.rf hp
  | d + 1, p, σ, hd, hb, hp, k => by
    have h9 := hb.2.1
    have b2 := (hb.2.2 p (by omega)).2
    have kk := k σ Eo.rf
    unfold skF at k kk
    refine LpB.go (fun K hK => ?_)
    unfold w_X12_advance_8
    rw [hb.1, hp, if_neg (by rw [jI_le (by omega) (by omega)]; omega)]
    have nx : T p = 32 ∨ T p = 10 → K (si σ 101 15 (nI (p + 1))) := fun hw => by
      rw [if_pos hw] at k
      have e : Eo STm σ (si σ 101 15 (nI (p + 1))) := Eo.si (by unfold STm; omega)
      exact hK _ (m_skip d (p + 1) _ (by omega) (hb.tk e) gi_si_s (fun τ e2 h2 => k τ (e.tr e2) h2))
    refine t_look hb (by omega) ?_
    rw [hp, N1, jI_add, N10]
    by_cases h10 : T p = 10
    · rw [if_pos (by rw [h10])]
      exact nx (Or.inr h10)
    · rw [if_neg (by rw [jI_eq (by omega) (by decide)]; exact h10)]
      refine t_look hb (by omega) ?_
      rw [hp, jI_add, N32]
      by_cases h32 : T p = 32
      · rw [if_pos (by rw [h32])]
        exact nx (Or.inl h32)
      · rw [if_neg (by rw [jI_eq (by omega) (by decide)]; exact h32)]
        rw [if_neg (by omega)] at kk
        exact kk hp
def wrdF (T : Nat → Nat) (a k : Nat) : Int64 := if k ≤ 8 then lI (pkF T a k) else -1
theorem m_letters {T : Nat → Nat} {n a : Nat} {P : Sto → Prop} : ∀ d p σ, p + d = n → a ≤ p → TBm σ T n → gi σ 101 16 = nI p → gi σ 101 15 = nI a → gl σ 101 19 = wrdF T a (p - a) → (∀ τ, Eo STm σ τ → gi τ 101 16 = nI (leF T d p) → gi τ 101 15 = nI a → gi τ 101 14 = gi σ 101 14 → gi τ 101 18 = nI (leF T d p - a) → gl τ 101 19 = wrdF T a (leF T d p - a) → P τ) → LpB (fun (K : Sto → Prop) s => w_X12_advance_109 K s P) (d + 1) σ
  | 0, p, σ, hd, ha, hb, hp, h15, hg, k => by
    have h9 := hb.2.1
    refine LpB.go (fun K hK => ?_)
    unfold w_X12_advance_109
    rw [hp]
    refine t_look0 hb (by omega) ?_
    refine t_isLetter (by decide) (fun q => absurd q (by decide)) (fun _ => ?_)
    rw [if_pos rfl, hp, h15, jI_sub ha]
    exact k _ (Eo.si (by unfold STm; omega)) (by rw [gi_si_k (by decide)]; exact hp) (by rw [gi_si_k (by decide)]; exact h15) (by rw [gi_si_k (by decide)]) gi_si_s (by rw [gl_si]; exact hg)
  | d + 1, p, σ, hd, ha, hb, hp, h15, hg, k => by
    have h9 := hb.2.1
    have b2 := (hb.2.2 p (by omega)).2
    have kk := k (si σ 101 18 (nI (p - a))) (Eo.si (by unfold STm; omega))
    unfold leF at k kk
    refine LpB.go (fun K hK => ?_)
    unfold w_X12_advance_109
    rw [hp]
    refine t_look hb (by omega) ?_
    refine t_isLetter b2 (fun hl => ?_) (fun hl => ?_)
    · rw [if_pos hl] at k
      rw [if_neg (show ¬ (1 : Int32) = 0 by decide), hp, h15, jI_sub ha, show (8 : Int32) = nI 8 from rfl]
      have nx : ∀ z, z = wrdF T a (p + 1 - a) → w_X12_advance_166 K z σ P := fun z hz => by
        unfold w_X12_advance_166
        rintro _ rfl
        rw [gi_sl, hp, N1, jI_add]
        have e : Eo STm σ (si (sl σ 101 19 z) 101 16 (nI (p + 1))) := Eo.tr (S := STm) (Eo.sl (by unfold STm; omega)) (Eo.si (by unfold STm; omega))
        exact hK _ (m_letters (a := a) d (p + 1) _ (by omega) (by omega) (hb.tk e) gi_si_s (by rw [gi_si_k (by decide), gi_sl]; exact h15) (by rw [gl_si, gl_sl_s]; exact hz) (fun τ e2 h2 h3 h4 h5 h6 => k τ (e.tr e2) h2 h3 (by rw [h4, gi_si_k (by decide), gi_sl]) h5 h6))
      by_cases h8 : 8 ≤ p - a
      · rw [if_pos (by rw [jI_le (by decide) (by omega)]; exact h8)]
        refine nx _ ?_
        unfold wrdF
        rw [if_neg (by omega)]
      · rw [if_neg (by rw [jI_le (by decide) (by omega)]; exact h8)]
        refine t_look hb (by omega) (nx _ ?_)
        unfold wrdF at hg ⊢
        rw [if_pos (by omega)] at hg ⊢
        rw [hg, lI_nI (by omega), show (32 : Int64) = lI 32 from rfl, show (96 : Int64) = lI 96 from rfl, lI_mul, lI_add, lI_sub (by omega), show p + 1 - a = (p - a) + 1 by omega]
        show _ = lI (pkF T a (p - a) * 32 + (T (a + (p - a)) - 96))
        rw [show a + (p - a) = p by omega]
        congr 1; omega
    · rw [if_neg hl] at kk
      rw [if_pos rfl, hp, h15, jI_sub ha]
      exact kk (by rw [gi_si_k (by decide)]; exact hp) (by rw [gi_si_k (by decide)]; exact h15) (by rw [gi_si_k (by decide)]) gi_si_s (by rw [gl_si]; exact hg)
