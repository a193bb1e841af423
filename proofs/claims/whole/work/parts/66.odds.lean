/-! ===== fractions; promise 51: ahead odds ===== -/
theorem lI_m1 {a : Nat} (h : a < 9223372036854775808) : lI a ≠ -1 := fun q => by
  have h1 := congrArg Int64.toInt q
  rw [lI_toInt h] at h1
  have h2 : (-1 : Int64).toInt = -1 := by decide
  omega
theorem lI_div {a b : Nat} (ha : a < 9223372036854775808) (hb : b < 9223372036854775808) : lI a / lI b = lI (a / b) := by
  apply Int64.toInt_inj.mp
  have h1 : a / b ≤ a := Nat.div_le_self a b
  rw [Int64.toInt_div_of_ne_right _ _ (lI_m1 hb), lI_toInt ha, lI_toInt hb, lI_toInt (by omega)]
  rfl
theorem lI_mod {a b : Nat} (ha : a < 9223372036854775808) (hb : b < 9223372036854775808) : lI a - lI a / lI b * lI b = lI (a % b) := by
  rw [lI_div ha hb, lI_mul, lI_sub (Nat.div_mul_le_self a b)]
  congr 1
  have h := Nat.div_add_mod a b
  rw [Nat.mul_comm] at h
  omega
theorem lI_abs {a : Nat} (ha : a < 9223372036854775808) : (if 0 < lI a then lI a else -lI a) = lI a := by
  by_cases h : 0 < lI a
  · rw [if_pos h]
  · rw [if_neg h]
    have h3 : (0 : Int64).toInt = 0 := by decide
    rw [Int64.lt_iff_toInt_lt, lI_toInt ha, h3] at h
    have : a = 0 := by omega
    subst this
    decide
theorem lg_l {a : Nat} (ha : a < 9223372036854775808) : lg_cmp (lI a) 0 = 0 ↔ a = 0 := by
  rw [lg_eq]
  exact lI_eq (b := 0) ha (by decide)
def eu (a0 b0 j a b : Nat) : Prop := (j = 0 ∧ a = a0 ∧ b = b0) ∨ ∃ i, j = i + 1 ∧ b < a ∧ a < 2147483648 ∧ a * b * 2 ^ i < 4611686018427387904 ∧ Nat.gcd a b = Nat.gcd a0 b0
theorem eu_lt {a0 b0 j a b : Nat} (ha : a0 < 2147483648) (hb : b0 < 2147483648) (h : eu a0 b0 j a b) : a < 2147483648 ∧ b < 2147483648 := by
  rcases h with ⟨-, h1, h2⟩ | ⟨i, -, h1, h2, -⟩ <;> omega
theorem eu_step {a0 b0 j a b : Nat} (ha : a0 < 2147483648) (hb : b0 < 2147483648) (h : eu a0 b0 j a b) (h0 : b ≠ 0) : eu a0 b0 (j + 1) b (a % b) := by
  have hm : a % b < b := Nat.mod_lt _ (by omega)
  have hg : Nat.gcd b (a % b) = Nat.gcd a b := by rw [Nat.gcd_comm b (a % b), ← Nat.gcd_rec, Nat.gcd_comm]
  refine Or.inr ⟨j, rfl, hm, (eu_lt ha hb h).2, ?_, ?_⟩
  · rcases h with ⟨h1, h2, h3⟩ | ⟨i, h1, h2, h3, h4, -⟩
    · subst h1 h2 h3
      have : b * (a % b) ≤ 2147483647 * 2147483647 := Nat.mul_le_mul (by omega) (by omega)
      omega
    · subst h1
      have h5 : 2 * (a % b) ≤ a := by
        have h6 := Nat.div_add_mod a b
        have h7 : 1 ≤ a / b := Nat.div_pos (by omega) (by omega)
        have h8 : b * 1 ≤ b * (a / b) := Nat.mul_le_mul_left b h7
        omega
      have h6 : b * (a % b) * 2 ^ (i + 1) = b * 2 ^ i * (2 * (a % b)) := by
        rw [Nat.pow_succ]
        ac_rfl
      have h7 : a * b * 2 ^ i = b * 2 ^ i * a := by ac_rfl
      rw [h6]
      rw [h7] at h4
      exact Nat.lt_of_le_of_lt (Nat.mul_le_mul_left _ h5) h4
  · rw [hg]
    rcases h with ⟨h1, h2, h3⟩ | ⟨i, h1, h2, h3, h4, h5⟩
    · rw [h2, h3]
    · exact h5
theorem eu_end {a0 b0 a b : Nat} (h : eu a0 b0 63 a b) : b = 0 := by
  rcases h with ⟨h1, -⟩ | ⟨i, h1, h2, h3, h4, -⟩
  · omega
  · have : i = 62 := by omega
    subst this
    have h5 : (2 : Nat) ^ 62 = 4611686018427387904 := by decide
    rw [h5] at h4
    have h6 : a * b = 0 := by omega
    rcases Nat.mul_eq_zero.mp h6 with q | q <;> omega
theorem eu_gcd {a0 b0 j a : Nat} (h : eu a0 b0 j a 0) (hb : 0 < b0) : a = Nat.gcd a0 b0 := by
  rcases h with ⟨h1, h2, h3⟩ | ⟨i, h1, h2, h3, h4, h5⟩
  · omega
  · rw [← h5, Nat.gcd_zero_right]
theorem c_fraction {σ : Sto} {P : Sto → Prop} {a0 b0 : Nat} (ha : a0 < 2147483648) (hb0 : 0 < b0) (hb : b0 < 2147483648) (k : P (sl (sl σ 1 16 (lI (a0 / Nat.gcd a0 b0))) 1 17 (lI (b0 / Nat.gcd a0 b0)))) : w_X11_tellFraction (lI a0) (lI b0) σ P := by
  have hgp : 0 < Nat.gcd a0 b0 := Nat.gcd_pos_of_pos_right _ hb0
  have hgl : Nat.gcd a0 b0 ≤ b0 := Nat.gcd_le_right _ hb0
  have fin : ∀ g, g = Nat.gcd a0 b0 → w_X11_tellFraction_51 (lI a0) (lI b0) (lI g) σ P := fun g hg => by
    subst hg
    unfold w_X11_tellFraction_51
    by_cases h0 : a0 = 0
    · rw [if_pos ((lg_l (by omega)).mpr h0)]
      subst h0
      rw [Nat.gcd_zero_left, Nat.zero_div, Nat.div_self hb0] at k
      exact k
    · rw [if_neg (fun q => h0 ((lg_l (by omega)).mp q)), if_neg (fun q => absurd ((lg_l (a := b0) (by omega)).mp q) (by omega)), if_neg (fun q => absurd ((lg_l (a := Nat.gcd a0 b0) (by omega)).mp q) (by omega)), lI_div (by omega) (by omega), lI_div (by omega) (by omega)]
      exact ⟨fun q => absurd ((lI_eq (b := 0) (by omega) (by decide)).mp q) (by omega), k⟩
  unfold w_X11_tellFraction
  rw [lI_abs (by omega), lI_abs (by omega)]
  rintro x5 rfl
  rintro x7 rfl
  refine Lp_for 63 (fun j q => ∃ a b, eu a0 b0 j a b ∧ q = (lI a, lI b, nI j, σ)) ⟨a0, b0, Or.inl ⟨rfl, rfl, rfl⟩, rfl⟩ ?_ ?_
  · rintro j hj K q ⟨a, b, he, rfl⟩ hK
    have hl := eu_lt ha hb he
    dsimp only
    unfold w_X11_tellFraction_15
    rw [if_neg (by rw [show (200 : Int32) = nI 200 from rfl, jI_le (by omega) (by omega)]; omega)]
    by_cases h0 : b = 0
    · rw [if_pos ((lg_l (by omega)).mpr h0)]
      exact fin a (eu_gcd (by rw [h0] at he; exact he) hb0)
    · rw [if_neg (fun q => h0 ((lg_l (by omega)).mp q))]
      refine ⟨fun q => h0 ((lI_eq (b := 0) (by omega) (by decide)).mp q), ?_⟩
      rw [lI_mod (by omega) (by omega), N1, jI_add]
      rintro x rfl
      rintro y rfl
      exact hK _ ⟨b, a % b, eu_step ha hb he h0, rfl⟩
  · rintro K q ⟨a, b, he, rfl⟩
    have hl := eu_lt ha hb he
    have h0 := eu_end he
    subst h0
    dsimp only
    unfold w_X11_tellFraction_15
    rw [if_neg (by decide), if_pos ((lg_l (by decide)).mpr rfl)]
    exact fin a (eu_gcd he hb0)
theorem m_fraction {σ : Sto} {P : Int32 → Sto → Prop} {a0 b0 : Nat} (ha : a0 < 2147483648) (hb0 : 0 < b0) (hb : b0 < 2147483648) (k : P 1 (sl (sl σ 101 2 (lI (a0 / Nat.gcd a0 b0))) 101 3 (lI (b0 / Nat.gcd a0 b0)))) : w_X12_fraction (lI a0) (lI b0) σ P := by
  have hgp : 0 < Nat.gcd a0 b0 := Nat.gcd_pos_of_pos_right _ hb0
  have hgl : Nat.gcd a0 b0 ≤ b0 := Nat.gcd_le_right _ hb0
  have fin : ∀ g, g = Nat.gcd a0 b0 → ¬ lI g = 0 ∧ P 1 (sl (sl σ 101 2 (lI a0 / lI g)) 101 3 (lI b0 / lI g)) := fun g hg => by
    subst hg
    rw [lI_div (by omega) (by omega), lI_div (by omega) (by omega)]
    exact ⟨fun q => absurd ((lI_eq (b := 0) (by omega) (by decide)).mp q) (by omega), k⟩
  unfold w_X12_fraction
  rw [lI_abs (by omega)]
  rintro x5 rfl
  refine Lp_for 63 (fun j q => ∃ a b, eu a0 b0 j a b ∧ q = (lI a, lI b, σ)) ⟨a0, b0, Or.inl ⟨rfl, rfl, rfl⟩, rfl⟩ ?_ ?_
  · rintro j hj K q ⟨a, b, he, rfl⟩ hK
    have hl := eu_lt ha hb he
    dsimp only
    unfold w_X12_fraction_9
    by_cases h0 : b = 0
    · rw [if_pos ((lg_l (by omega)).mpr h0)]
      exact fin a (eu_gcd (by rw [h0] at he; exact he) hb0)
    · rw [if_neg (fun q => h0 ((lg_l (by omega)).mp q))]
      refine ⟨fun q => h0 ((lI_eq (b := 0) (by omega) (by decide)).mp q), ?_⟩
      rw [lI_mod (by omega) (by omega)]
      rintro x rfl
      exact hK _ ⟨b, a % b, eu_step ha hb he h0, rfl⟩
  · rintro K q ⟨a, b, he, rfl⟩
    have hl := eu_lt ha hb he
    have h0 := eu_end he
    subst h0
    dsimp only
    unfold w_X12_fraction_9
    rw [if_pos ((lg_l (by decide)).mpr rfl)]
    exact fin a (eu_gcd he hb0)
/-- the FRACTION told, or as it was -/
def fr (o : Option (Nat × Nat)) (u v : Int64) : Int64 × Int64 := match o with
  | none => (u, v)
  | some p => (lI p.1, lI p.2)
def SF (a k : Nat) : Prop := a = 1 ∧ (k = 16 ∨ k = 17)
def SQF (a k : Nat) : Prop := SQ a k ∨ SF a k
def SMF (a k : Nat) : Prop := SM a k ∨ (a = 101 ∧ (k = 2 ∨ k = 3))
theorem KW.fr {N : Nat} {σ τ : Sto} {c : Nat → Nat} (h : KW N σ c) (e : Eo SF σ τ) : KW N τ c :=
  h.mk e ⟨h.kb.1.eo e (fun a k q => by unfold SF at q; omega), h.kb.2.eo e (fun a k q => by unfold SF at q; omega) (by unfold SF; omega) (fun k q => by unfold SF at q; omega)⟩
theorem Eo.drop {S T : Nat → Nat → Prop} {σ τ : Sto} (h : Eo T σ τ) (hx : ∀ a k, T a k → S a k ∨ (gi τ a k = gi σ a k ∧ gl τ a k = gl σ a k)) : Eo S σ τ :=
  ⟨fun a k hS => by
    by_cases hT : T a k
    · exact ((hx a k hT).resolve_left hS).1
    · exact h.1 a k hT, fun a k hS => by
    by_cases hT : T a k
    · exact ((hx a k hT).resolve_left hS).2
    · exact h.2.1 a k hT, h.2.2⟩
def oddE (c : Nat → Nat) (a b t : Nat) : Nat := if t = b then c (130 + t) ||| 2 ^ a else c (130 + t)
def oddF (c : Nat → Nat) (a b : Nat) : Nat := WN (c 0) (oddE c a b) (allF (c 0))
theorem oddF_lt {c : Nat → Nat} (ok : OK c) {a b : Nat} : oddF c a b < 2147483648 := WN_lt ok.n0 (by
  have := pw12 ok
  have := Nat.two_pow_pos (c 0)
  show 2 ^ c 0 - 1 < 4096
  omega)
theorem oddE_lt {c : Nat → Nat} (ok : OK c) {a b t : Nat} (ha : a < c 0) (ht : t < c 0) : oddE c a b t < 4096 := by
  unfold oddE
  split
  · exact p12 (or_lt (ok.ahead t ht) (two_lt ha)) ok.n0
  · exact p12 (ok.ahead t ht) ok.n0
def oddsA (c : Nat → Nat) (x y : Int32) : Int32 × Int32 × Option (Nat × Nat) :=
  if ¬ x < 0 ∧ x < nI (c 0) then (if ¬ y < 0 ∧ y < nI (c 0) then (if x = y then (0, 9, none) else if histF c = 0 then (0, 8, none) else (1, 0, some (oddF c (tn x) (tn y) / Nat.gcd (oddF c (tn x) (tn y)) (histF c), histF c / Nat.gcd (oddF c (tn x) (tn y)) (histF c)))) else (0, 2, none)) else (0, 2, none)
theorem sqf {σ τ : Sto} (e : Eo SQ σ τ) : Eo SQF σ τ := e.mo (fun _ _ => Or.inl)
theorem smf {σ τ : Sto} (e : Eo SM σ τ) : Eo SMF σ τ := e.mo (fun _ _ => Or.inl)
theorem c_aheadOdds {σ : Sto} {c : Nat → Nat} {P : Int32 → Sto → Prop} {N : Nat} (h : KW N σ c) (ok : OK c) {x y : Int32}
    (k : ∀ τ, Eo SQF σ τ → KW N τ c → gi τ 1 15 = (oddsA c x y).2.1 → (gl τ 1 16, gl τ 1 17) = fr (oddsA c x y).2.2 (gl σ 1 16) (gl σ 1 17) → P (oddsA c x y).1 τ) : w_X11_aheadOdds x y σ P := by
  have := ok.n0
  unfold w_X11_aheadOdds
  refine t_noThing h ok (fun hx => ?_) (fun hx => ?_)
  · rw [if_pos rfl]
    refine t_noThing h ok (fun hy => ?_) (fun hy => ?_)
    · rw [if_pos rfl]
      obtain ⟨a, ha, rfl⟩ := hx
      obtain ⟨b, hb, rfl⟩ := hy
      have e1 : oddsA c (nI a) (nI b) = if a = b then (0, 9, none) else if histF c = 0 then (0, 8, none) else (1, 0, some (oddF c a b / Nat.gcd (oddF c a b) (histF c), histF c / Nat.gcd (oddF c a b) (histF c))) := by
        unfold oddsA
        rw [ifD_pos ha (by omega), ifD_pos hb (by omega), tn_nI (by omega), tn_nI (by omega)]
        simp only [jI_eq (show a < 2147483648 by omega) (show b < 2147483648 by omega)]
      rw [e1] at k
      by_cases hab : a = b
      · rw [if_pos hab] at k
        rw [if_pos (by rw [hab])]
        exact ⟨Or.inl rfl, k _ (sqf stq) h.st gi_si_s rfl⟩
      · rw [if_neg hab] at k
        rw [if_neg (by rw [jI_eq (by omega) (by omega)]; exact hab)]
        refine c_orders h ok (fun τ e hw => ?_)
        have hh := histF_lt ok
        have ho := oddF_lt ok (a := a) (b := b)
        rw [N0]
        by_cases h0 : histF c = 0
        · rw [if_pos h0] at k
          rw [if_pos (by rw [h0])]
          refine ⟨Or.inl rfl, k _ (sqf ((e.mo (fun _ _ => SXq)).tr stq)) hw.st gi_si_s ?_⟩
          rw [gl_si, gl_si, e.2.1 1 16 (by unfold SX; omega), e.2.1 1 17 (by unfold SX; omega)]
          rfl
        · rw [if_neg h0] at k
          rw [if_neg (by rw [jI_eq (by omega) (by decide)]; exact h0)]
          refine c_ordersWith hw ok (e := oddE c a b) (fun t ht => oddE_lt ok ha ht) (fun t ht q => ?_) (fun t ht q => ?_) (fun υ e2 hw2 => ?_)
          · have : t = b := (jI_eq (by omega) (by omega)).mp q
            subst this
            rw [bit1 (by omega), jI_or]
            unfold oddE
            rw [if_pos rfl]
          · unfold oddE
            rw [if_neg (fun e => q (by rw [e]))]
          · show w_X11_tellFraction (nI (oddF c a b)).toInt64 (nI (histF c)).toInt64 υ _
            rw [lI_nI ho, lI_nI hh]
            refine c_fraction ho (by omega) hh ?_
            have e3 : Eo SF υ (sl (sl υ 1 16 (lI (oddF c a b / Nat.gcd (oddF c a b) (histF c)))) 1 17 (lI (histF c / Nat.gcd (oddF c a b) (histF c)))) := (Eo.sl ⟨rfl, Or.inl rfl⟩).tr (Eo.sl ⟨rfl, Or.inr rfl⟩)
            have hw3 := hw2.fr e3
            refine ⟨Or.inr rfl, k _ ((sqf ((e.tr e2).mo (fun _ _ => SXq))).tr ((e3.mo (fun _ _ => Or.inr)).tr (sqf stq))) hw3.st gi_si_s ?_⟩
            rw [gl_si, gl_si, gl_sl_s, gl_sl_k (by decide), gl_sl_s]
            rfl
    · rw [if_neg (by decide)]
      obtain ⟨a, ha, rfl⟩ := hx
      have e1 : oddsA c (nI a) y = (0, 2, none) := by
        unfold oddsA
        rw [ifD_pos ha (by omega), ifD_neg hy (by omega)]
      rw [e1] at k
      exact ⟨Or.inl rfl, k _ (sqf stq) h.st gi_si_s rfl⟩
  · rw [if_neg (by decide)]
    have e1 : oddsA c x y = (0, 2, none) := ifD_neg hx (by omega)
    rw [e1] at k
    exact ⟨Or.inl rfl, k _ (sqf stq) h.st gi_si_s rfl⟩
def SOdd (b a k : Nat) : Prop := a = 116 ∨ (a = 101 ∧ (k = 2 ∨ k = 3)) ∨ (a = 106 ∧ k = 130 + b)
theorem m_aheadOdds {σ : Sto} {c : Nat → Nat} {P : Int32 → Sto → Prop} (h : MR σ c) (ok : OK c) {x y : Int32}
    (k : ∀ τ, Eo SMF σ τ → gi τ 101 0 = (oddsA c x y).2.1 → (gl τ 101 2, gl τ 101 3) = fr (oddsA c x y).2.2 (gl σ 101 2) (gl σ 101 3) → P (oddsA c x y).1 τ) : w_X12_aheadOdds x y σ P := by
  have := ok.n0
  have hs : MR (si (si σ 101 1 0) 101 0 0) c := h.sm sm10
  have hst0 : gi (si (si σ 101 1 0) 101 0 0) 101 0 = 0 := gi_si_s
  have hfr0 : ∀ j, gl (si (si σ 101 1 0) 101 0 0) 101 j = gl σ 101 j := fun j => rfl
  have he : Eo SM σ (si (si σ 101 1 0) 101 0 0) := sm10
  unfold w_X12_aheadOdds
  generalize si (si σ 101 1 0) 101 0 0 = υ at hs hst0 hfr0 he ⊢
  refine t_isThingAt hs ok (fun hx => ?_) (fun hx => ?_)
  · rw [if_neg (by decide)]
    refine t_isThingAt hs ok (fun hy => ?_) (fun hy => ?_)
    · rw [if_neg (by decide)]
      obtain ⟨a, ha, rfl⟩ := hx
      obtain ⟨b, hb, rfl⟩ := hy
      have e1 : oddsA c (nI a) (nI b) = if a = b then (0, 9, none) else if histF c = 0 then (0, 8, none) else (1, 0, some (oddF c a b / Nat.gcd (oddF c a b) (histF c), histF c / Nat.gcd (oddF c a b) (histF c))) := by
        unfold oddsA
        rw [ifD_pos ha (by omega), ifD_pos hb (by omega), tn_nI (by omega), tn_nI (by omega)]
        simp only [jI_eq (show a < 2147483648 by omega) (show b < 2147483648 by omega)]
      rw [e1] at k
      by_cases hab : a = b
      · rw [if_pos hab] at k
        rw [if_pos (by rw [hab])]
        exact ⟨Or.inl rfl, k _ (smf (he.tr sm0)) gi_si_s (by rw [gl_si, gl_si, hfr0, hfr0]; rfl)⟩
      · rw [if_neg hab] at k
        rw [if_neg (by rw [jI_eq (by omega) (by omega)]; exact hab)]
        refine m_hist hs ok (fun φ e2 => ?_)
        have hm := hs.sm (e2.mo (fun _ _ => S116m))
        have hh := histF_lt ok
        have ho := oddF_lt ok (a := a) (b := b)
        have hfr1 : ∀ j, gl φ 101 j = gl σ 101 j := fun j => by rw [e2.2.1 101 j (by unfold S116; decide)]; exact hfr0 j
        by_cases h0 : histF c = 0
        · rw [if_pos h0] at k
          rw [if_pos ((lg_l (by omega)).mpr h0)]
          exact ⟨Or.inl rfl, k _ (smf ((he.tr (e2.mo (fun _ _ => S116m))).tr sm0)) gi_si_s (by rw [gl_si, gl_si, hfr1, hfr1]; rfl)⟩
        · rw [if_neg h0] at k
          rw [if_neg (fun q => h0 ((lg_l (by omega)).mp q)), N130, jI_add, tn_nI (by omega), bit1 (by omega), hm _ (by omega), jI_or]
          refine ⟨vp_nI (by omega) (by decide), ?_⟩
          rintro x5 rfl
          refine m_counts (e := oddE c a b) ok.n0 (by rw [gi_si_k (by omega)]; exact hm 0 (by decide)) (fun t ht => ⟨?_, oddE_lt ok ha ht⟩) (fun ψ e3 => ?_)
          · unfold oddE
            by_cases htb : t = b
            · rw [if_pos htb, htb, gi_si_s]
            · rw [if_neg htb, gi_si_k (by omega)]; exact hm _ (by omega)
          · show w_X12_fraction (lI (oddF c a b)) (lI (histF c)) _ _
            refine m_fraction ho (by omega) hh ⟨Or.inr rfl, k _ ?_ ?_ ?_⟩
            · have ec : Eo (SOdd b) φ (sl (sl (si ψ 106 (130 + b) (nI (c (130 + b)))) 101 2 (lI (oddF c a b / Nat.gcd (oddF c a b) (histF c)))) 101 3 (lI (histF c / Nat.gcd (oddF c a b) (histF c)))) :=
                Eo.tr (S := SOdd b) (Eo.tr (S := SOdd b) (Eo.tr (S := SOdd b) (Eo.tr (S := SOdd b) (Eo.si (by unfold SOdd; omega)) (e3.mo (T := SOdd b) (fun a' k' q => by unfold S116 at q; unfold SOdd; omega))) (Eo.si (by unfold SOdd; omega))) (Eo.sl (by unfold SOdd; omega))) (Eo.sl (by unfold SOdd; omega))
              refine (smf (he.tr (e2.mo (fun _ _ => S116m)))).tr (ec.drop (fun a' k' q => ?_))
              rcases q with q | q | ⟨q1, q2⟩
              · exact Or.inl (Or.inl (S116m q))
              · exact Or.inl (Or.inr q)
              · subst q1 q2
                refine Or.inr ⟨?_, ?_⟩
                · rw [gi_sl, gi_sl, gi_si_s, hm _ (by omega)]
                · rw [gl_sl_a (by decide), gl_sl_a (by decide), gl_si, e3.2.1 106 _ (by unfold S116; decide), gl_si]
            · rw [gi_sl, gi_sl, gi_si_a (by decide), e3.1 101 0 (by unfold S116; decide), gi_si_a (by decide), e2.1 101 0 (by unfold S116; decide)]
              exact hst0
            · rw [gl_sl_s, gl_sl_k (by decide), gl_sl_s]
              rfl
    · rw [if_pos rfl]
      obtain ⟨a, ha, rfl⟩ := hx
      have e1 : oddsA c (nI a) y = (0, 2, none) := by
        unfold oddsA
        rw [ifD_pos ha (by omega), ifD_neg hy (by omega)]
      rw [e1] at k
      exact ⟨Or.inl rfl, k _ (smf (he.tr sm0)) gi_si_s (by rw [gl_si, gl_si, hfr0, hfr0]; rfl)⟩
  · rw [if_pos rfl]
    have e1 : oddsA c x y = (0, 2, none) := ifD_neg hx (by omega)
    rw [e1] at k
    exact ⟨Or.inl rfl, k _ (smf (he.tr sm0)) gi_si_s (by rw [gl_si, gl_si, hfr0, hfr0]; rfl)⟩
