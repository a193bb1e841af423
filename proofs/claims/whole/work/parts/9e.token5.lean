/-! ===== texts: the model goes to its next token, to the end ===== -/
theorem m_digits {T : Nat → Nat} {n a : Nat} {P : Sto → Prop} : ∀ d p σ, p + d = n → a ≤ p → TBm σ T n → gi σ 101 16 = nI p → gi σ 101 15 = nI a → (p - a ≤ 4 → gi σ 101 17 = nI (dgF T a (p - a))) → (∀ τ, Eo STm σ τ → TKM τ (if diF T d p - a ≤ 4 then (2, a, diF T d p, dgF T a (diF T d p - a), 0) else (4, a, diF T d p, 0, 0)) → P τ) → LpB (fun (K : Sto → Prop) s => w_X12_advance_210 K s P) (d + 1) σ := by
  have fin : ∀ (σ : Sto) (p : Nat), a ≤ p → p ≤ 900 → gi σ 101 16 = nI p → gi σ 101 15 = nI a → (p - a ≤ 4 → gi σ 101 17 = nI (dgF T a (p - a))) → (∀ τ, Eo STm σ τ → TKM τ (if p - a ≤ 4 then (2, a, p, dgF T a (p - a), 0) else (4, a, p, 0, 0)) → P τ) → (if (gi σ 101 16) - (gi σ 101 15) ≤ 4 then P (si σ 101 14 2) else P (si σ 101 14 4)) := by
    intro σ p ha h9 hp h15 hg k
    rw [hp, h15, jI_sub ha, show (4 : Int32) = nI 4 from rfl]
    have q5 : ∀ v, gi (si σ 101 14 v) 101 15 = nI a := fun v => by rw [gi_si_k (by decide)]; exact h15
    have q6 : ∀ v, gi (si σ 101 14 v) 101 16 = nI p := fun v => by rw [gi_si_k (by decide)]; exact hp
    by_cases h4 : p - a ≤ 4
    · rw [if_pos h4] at k
      rw [if_pos (by rw [jI_le (by omega) (by decide)]; exact h4)]
      exact k _ (Eo.si (by unfold STm; omega)) ⟨q5 _, q6 _, gi_si_s, fun q => absurd (show (2 : Nat) = 1 from q) (by decide), fun _ => by rw [gi_si_k (by decide)]; exact hg h4⟩
    · rw [if_neg h4] at k
      rw [if_neg (by rw [jI_le (by omega) (by decide)]; exact h4)]
      exact k _ (Eo.si (by unfold STm; omega)) ⟨q5 _, q6 _, gi_si_s, fun q => absurd (show (4 : Nat) = 1 from q) (by decide), fun q => absurd (show (4 : Nat) = 2 ∨ (4 : Nat) = 3 from q) (by decide)⟩
  intro d
  induction d with
  | zero =>
    intro p σ hd ha hb hp h15 hg k
    have h9 := hb.2.1
    refine LpB.go (fun K hK => ?_)
    unfold w_X12_advance_210
    rw [hp]
    refine t_look0 hb (by omega) ?_
    refine t_isDigit (by decide) (fun q => absurd q (by decide)) (fun _ => ?_)
    rw [if_pos rfl]
    have hf := fin σ p ha (by omega) hp h15 hg k
    rw [hp] at hf
    rw [hp]
    exact hf
  | succ d ih =>
    intro p σ hd ha hb hp h15 hg k
    have h9 := hb.2.1
    have b2 := (hb.2.2 p (by omega)).2
    refine LpB.go (fun K hK => ?_)
    unfold w_X12_advance_210
    rw [hp]
    refine t_look hb (by omega) ?_
    unfold diF at k
    refine t_isDigit b2 (fun hl => ?_) (fun hl => ?_)
    · rw [if_pos hl] at k
      rw [if_neg (show ¬ (1 : Int32) = 0 by decide), hp, h15, jI_sub ha, N1, jI_add, show (4 : Int32) = nI 4 from rfl]
      by_cases h4 : 4 ≤ p - a
      · rw [if_pos (by rw [jI_le (by decide) (by omega)]; exact h4)]
        have e : Eo STm σ (si σ 101 16 (nI (p + 1))) := Eo.si (by unfold STm; omega)
        exact hK _ (ih (p + 1) _ (by omega) (by omega) (hb.tk e) gi_si_s (by rw [gi_si_k (by decide)]; exact h15) (fun q => absurd q (by omega)) (fun τ e2 ht => k τ (e.tr e2) ht))
      · rw [if_neg (by rw [jI_le (by decide) (by omega)]; exact h4)]
        refine t_look hb (by omega) ?_
        rw [hg (by omega)]
        have ez : (10 : Int32) * nI (dgF T a (p - a)) + nI (T p) - 48 = nI (dgF T a (p + 1 - a)) := by
          rw [N10, show (48 : Int32) = nI 48 from rfl, jI_mul, jI_add, jI_sub (by omega), show p + 1 - a = (p - a) + 1 by omega]
          show _ = nI (dgF T a (p - a) * 10 + (T (a + (p - a)) - 48))
          rw [show a + (p - a) = p by omega]
          congr 1; omega
        rw [ez]
        rintro _ rfl
        rw [gi_si_k (by decide), hp, jI_add]
        have e : Eo STm σ (si (si σ 101 17 (nI (dgF T a (p + 1 - a)))) 101 16 (nI (p + 1))) := Eo.tr (S := STm) (Eo.si (by unfold STm; omega)) (Eo.si (by unfold STm; omega))
        exact hK _ (ih (p + 1) _ (by omega) (by omega) (hb.tk e) gi_si_s (by rw [gi_si_k (by decide), gi_si_k (by decide)]; exact h15) (fun _ => by rw [gi_si_k (by decide), gi_si_s]) (fun τ e2 ht => k τ (e.tr e2) ht))
    · rw [if_neg hl] at k
      rw [if_pos rfl]
      have hf := fin σ p ha (by omega) hp h15 hg k
      rw [hp] at hf
      rw [hp]
      exact hf
theorem t_isSign {σ : Sto} {x : Nat} {P : Int32 → Sto → Prop} (hx : x < 256) (k1 : (x = 59 ∨ x = 60 ∨ x = 62 ∨ x = 61) → P 1 σ) (k0 : ¬ (x = 59 ∨ x = 60 ∨ x = 62 ∨ x = 61) → P 0 σ) : w_X12_isSignByte (nI x) σ P := by
  unfold w_X12_isSignByte
  rw [show (59 : Int32) = nI 59 from rfl, show (60 : Int32) = nI 60 from rfl, show (61 : Int32) = nI 61 from rfl, show (62 : Int32) = nI 62 from rfl]
  have e : ∀ m, m < 256 → (nI x = nI m ↔ x = m) := fun m hm => jI_eq (by omega) (by omega)
  by_cases h1 : x = 59
  · rw [if_pos ((e _ (by decide)).mpr h1)]; exact k1 (by omega)
  rw [if_neg (fun q => h1 ((e _ (by decide)).mp q))]
  by_cases h2 : x = 60
  · rw [if_pos ((e _ (by decide)).mpr h2)]; exact k1 (by omega)
  rw [if_neg (fun q => h2 ((e _ (by decide)).mp q))]
  by_cases h3 : x = 62
  · rw [if_pos ((e _ (by decide)).mpr h3)]; exact k1 (by omega)
  rw [if_neg (fun q => h3 ((e _ (by decide)).mp q))]
  by_cases h4 : x = 61
  · rw [if_pos ((e _ (by decide)).mpr h4)]; exact k1 (by omega)
  rw [if_neg (fun q => h4 ((e _ (by decide)).mp q))]
  exact k0 (by omega)
theorem m_advance {σ : Sto} {T : Nat → Nat} {n p : Nat} {P : Sto → Prop} (hb : TBm σ T n) (hp : p ≤ n) (h16 : gi σ 101 16 = nI p) (k : ∀ τ, Eo STm σ τ → TKM τ (tokF T n p) → P τ) : w_X12_advance σ P := by
  have h9 := hb.2.1
  have hs := skF_le (T := T) (n - p) p
  unfold w_X12_advance
  rw [h16]
  have e0 : Eo STm σ (si σ 101 15 (nI p)) := Eo.si (by unfold STm; omega)
  refine (m_skip (n - p) p _ (by omega) (hb.tk e0) gi_si_s (fun τ e g4 => ?_)).lp
  unfold tokF at k
  generalize skF T (n - p) p = a at hs k g4
  have hbt := (hb.tk e0).tk e
  unfold w_X12_advance_58
  rintro σ2 h2
  rw [g4] at h2
  have e2 : Eo STm τ σ2 := by rw [h2]; exact Eo.si (by unfold STm; omega)
  have f15 : gi σ2 101 15 = nI a := by rw [h2, gi_si_k (by decide)]; exact g4
  have f16 : gi σ2 101 16 = nI a := by rw [h2, gi_si_s]
  have hb2 := hbt.tk e2
  have kk : ∀ υ, Eo STm σ2 υ → TKM υ (tokA T n a) → P υ := fun υ e3 ht => k υ (((e0.tr e).tr e2).tr e3) ht
  clear h2
  unfold tokA at kk
  rw [hb2.1, f15]
  by_cases ha : n ≤ a
  · rw [if_pos ha] at kk
    rw [if_neg (by rw [jI_lt (by omega) (by omega)]; omega)]
    exact kk _ (Eo.si (by unfold STm; omega)) ⟨by rw [gi_si_k (by decide)]; exact f15, by rw [gi_si_k (by decide)]; exact f16, gi_si_s, fun q => absurd (show (0 : Nat) = 1 from q) (by decide), fun q => absurd (show (0 : Nat) = 2 ∨ (0 : Nat) = 3 from q) (by decide)⟩
  · rw [if_neg ha] at kk
    have b2 := (hb2.2.2 a (by omega)).2
    rw [if_pos (by rw [jI_lt (by omega) (by omega)]; omega)]
    refine t_look hb2 (by omega) ?_
    refine t_isLetter b2 (fun hl => ?_) (fun hl => ?_)
    · rw [if_pos hl] at kk
      rw [if_neg (show ¬ (1 : Int32) = 0 by decide)]
      have e3 : Eo STm σ2 (sl (si σ2 101 14 1) 101 19 0) := Eo.tr (S := STm) (Eo.si (by unfold STm; omega)) (Eo.sl (by unfold STm; omega))
      refine (m_letters (a := a) (n - a) a _ (by omega) (Nat.le_refl _) (hb2.tk e3) (by rw [gi_sl, gi_si_k (by decide)]; exact f16) (by rw [gi_sl, gi_si_k (by decide)]; exact f15) (by rw [gl_sl_s, Nat.sub_self]; rfl) (fun υ e4 q16 q15 q14 q18 q19 => ?_)).lp
      refine kk υ (e3.tr e4) ⟨q15, q16, ?_, fun _ => ⟨q18, q19⟩, fun q => absurd (show (1 : Nat) = 2 ∨ (1 : Nat) = 3 from q) (by decide)⟩
      rw [q14, gi_sl, gi_si_s]; rfl
    · rw [if_neg hl] at kk
      rw [if_pos rfl]
      refine t_isDigit b2 (fun hg => ?_) (fun hg => ?_)
      · rw [if_pos hg] at kk
        rw [if_neg (show ¬ (1 : Int32) = 0 by decide)]
        have e3 : Eo STm σ2 (si σ2 101 17 0) := Eo.si (by unfold STm; omega)
        exact (m_digits (a := a) (n - a) a _ (by omega) (Nat.le_refl _) (hb2.tk e3) (by rw [gi_si_k (by decide)]; exact f16) (by rw [gi_si_k (by decide)]; exact f15) (fun _ => by rw [gi_si_s, Nat.sub_self]; rfl) (fun υ e4 ht => kk υ (e3.tr e4) ht)).lp
      · rw [if_neg hg] at kk
        rw [if_pos rfl, f15, N1, jI_add]
        have e3 : ∀ v, Eo STm σ2 (si (si (si σ2 101 16 (nI (a + 1))) 101 17 (nI (T a))) 101 14 v) := fun v => ((Eo.si (by unfold STm; omega)).tr (Eo.si (by unfold STm; omega))).tr (Eo.si (by unfold STm; omega))
        have q15 : ∀ v, gi (si (si (si σ2 101 16 (nI (a + 1))) 101 17 (nI (T a))) 101 14 v) 101 15 = nI a := fun v => by rw [gi_si_k (by decide), gi_si_k (by decide), gi_si_k (by decide)]; exact f15
        have q16 : ∀ v, gi (si (si (si σ2 101 16 (nI (a + 1))) 101 17 (nI (T a))) 101 14 v) 101 16 = nI (a + 1) := fun v => by rw [gi_si_k (by decide), gi_si_k (by decide), gi_si_s]
        refine t_isSign b2 (fun hs => ?_) (fun hs => ?_)
        · rw [if_pos hs] at kk
          rw [if_neg (show ¬ (1 : Int32) = 0 by decide)]
          exact kk _ (e3 _) ⟨q15 _, q16 _, gi_si_s, fun q => absurd (show (3 : Nat) = 1 from q) (by decide), fun _ => by rw [gi_si_k (by decide), gi_si_s]⟩
        · rw [if_neg hs] at kk
          rw [if_pos rfl]
          exact kk _ (e3 _) ⟨q15 _, q16 _, gi_si_s, fun q => absurd (show (4 : Nat) = 1 from q) (by decide), fun q => absurd (show (4 : Nat) = 2 ∨ (4 : Nat) = 3 from q) (by decide)⟩
