/-! ===== promises 8, 18: pour, copyWorth ===== -/
theorem nn_nI {x : Int32} (h : 0 ≤ x.toInt) : ∃ i : Nat, x = nI i ∧ (i : Int) = x.toInt := by
  have h1 := Int32.toInt_lt x
  refine ⟨x.toInt.toNat, ?_, by omega⟩
  apply Int32.toInt_inj.mp
  rw [jI_toInt (by omega)]
  omega
theorem l64_add {x y : Int32} : (x.toInt64 + y.toInt64).toInt = x.toInt + y.toInt := by
  have h1 := Int32.toInt_lt x
  have h2 := Int32.toInt_lt y
  have h3 := Int32.le_toInt x
  have h4 := Int32.le_toInt y
  rw [Int64.toInt_add, i64_int, i64_int]
  exact Int.bmod_eq_of_le (by omega) (by omega)
def movD (D : TD) (t i t' j n : Nat) : TD := (D.1, D.2.1, fun a k => if a = t' ∧ j ≤ k ∧ k < j + n then D.2.2 t (i + (k - j)) else D.2.2 a k)
def pourF (D : TD) (t t' : Nat) (x2 x4 x5 : Int32) : Int32 × Int32 × TD :=
  if D.2.1 t = 0 ∨ D.2.1 t' = 0 then (0, 3, D) else if D.1 t ≠ D.1 t' then (0, 11, D) else if x5 < 0 then (0, 6, D) else
  if (0 ≤ x2.toInt ∧ x2.toInt + x5.toInt ≤ ((D.2.1 t - 1 : Nat) : Int)) ∧ (0 ≤ x4.toInt ∧ x4.toInt + x5.toInt ≤ ((D.2.1 t' - 1 : Nat) : Int)) then (1, 0, movD D t (tn x2) t' (tn x4) (tn x5)) else (0, 4, D)
def pourA (D : TD) (x1 x2 x3 x4 x5 : Int32) : Int32 × Int32 × TD := if ¬ x1 < 0 ∧ x1 < nI 4 then (if ¬ x3 < 0 ∧ x3 < nI 4 then pourF D (tn x1) (tn x3) x2 x4 x5 else (0, 1, D)) else (0, 1, D)
theorem gl_cpl {σ : Sto} {a i b j n x y : Nat} : gl (cpl σ a i b j n) x y = if x = b ∧ j ≤ y ∧ y < j + n then gl σ a (i + (y - j)) else gl σ x y := rfl
theorem gi_cpl {σ : Sto} {a i b j n x y : Nat} : gi (cpl σ a i b j n) x y = gi σ x y := rfl
theorem gr_cpl {σ : Sto} {a i b j n x y : Nat} : gr (cpl σ a i b j n) x y = gr σ x y := rfl
theorem Eo.cpl {S : Nat → Nat → Prop} {σ : Sto} {a i b j n : Nat} (h : ∀ y, S b y) : Eo S σ (cpl σ a i b j n) := ⟨fun _ _ _ => rfl, fun x y hx => by
  rw [gl_cpl, if_neg (fun q => hx (by rw [q.1]; exact h y))], fun _ _ => rfl⟩
theorem c_pour {σ : Sto} {D : TD} {P : Int32 → Sto → Prop} (h : TC σ D) {x1 x2 x3 x4 x5 : Int32} (k : ∀ τ, Eo STr σ τ → TC τ (pourA D x1 x2 x3 x4 x5).2.2 → gi τ 1 15 = (pourA D x1 x2 x3 x4 x5).2.1 → P (pourA D x1 x2 x3 x4 x5).1 τ) : w_X11_pour x1 x2 x3 x4 x5 σ P := by
  have bad : ∀ v, pourA D x1 x2 x3 x4 x5 = (0, v, D) → P 0 (si σ 1 15 v) := fun v e => by
    rw [e] at k
    exact k _ tst h.st gi_si_s
  unfold w_X11_pour
  refine t_isTray (fun hx => ?_) (fun hx => ?_)
  · rw [if_neg (by decide)]
    obtain ⟨t, ht, rfl⟩ := hx
    refine t_isTray (fun hx => ?_) (fun hx => ?_)
    · rw [if_neg (by decide)]
      obtain ⟨t', ht', rfl⟩ := hx
      have e1 : pourA D (nI t) x2 (nI t') x4 x5 = pourF D t t' x2 x4 x5 := by
        unfold pourA
        rw [ifD_pos ht (by decide), ifD_pos ht' (by decide), tn_nI (by omega), tn_nI (by omega)]
      rw [e1] at k bad
      unfold pourF at k bad
      rw [t_missing h ht]
      by_cases hz : D.2.1 t = 0
      · rw [if_pos (Or.inl hz)] at bad
        rw [if_pos hz, if_neg (show ¬ (1 : Int32) = 0 by decide)]
        exact ⟨Or.inl rfl, bad 3 rfl⟩
      rw [if_neg hz, if_pos (show (0 : Int32) = 0 from rfl), t_missing h ht']
      by_cases hz' : D.2.1 t' = 0
      · rw [if_pos (Or.inr hz')] at bad
        rw [if_pos hz', if_neg (show ¬ (1 : Int32) = 0 by decide)]
        exact ⟨Or.inl rfl, bad 3 rfl⟩
      rw [if_neg hz', if_pos (show (0 : Int32) = 0 from rfl)]
      rw [if_neg (fun q => q.elim hz hz')] at k bad
      obtain ⟨h1, h2, h3, h4, h5⟩ := h t ht
      obtain ⟨g1, g2, g3, g4, g5⟩ := h t' ht'
      unfold w_X10_areAlike
      rw [tn_nI (by omega), tn_nI (by omega), h1, g1]
      refine ⟨vp_nI ht (by decide), vp_nI ht' (by decide), ?_⟩
      by_cases hs : D.1 t = D.1 t'
      · rw [if_neg (fun q => q hs)] at k bad
        rw [if_pos (by rw [hs])]
        dsimp only
        rw [if_neg (show ¬ (1 : Int32) = 0 by decide)]
        by_cases h6 : x5 < 0
        · rw [if_pos h6] at bad
          rw [if_neg (fun q => i_le.mp q h6)]
          exact ⟨Or.inl rfl, bad 6 rfl⟩
        rw [if_neg h6] at k bad
        rw [if_pos (i_le.mpr h6)]
        obtain ⟨m, hm⟩ : ∃ m, D.2.1 t = m + 1 := ⟨D.2.1 t - 1, by omega⟩
        obtain ⟨m', hm'⟩ : ∃ m, D.2.1 t' = m + 1 := ⟨D.2.1 t' - 1, by omega⟩
        rw [hm, hm', Nat.add_sub_cancel, Nat.add_sub_cancel] at k bad
        have h60 : 0 ≤ x5.toInt := by
          rw [Int32.lt_iff_toInt_lt] at h6
          have : (0 : Int32).toInt = 0 := by decide
          omega
        refine t_hasC h ht hm h60 (fun q1 => ?_) (fun q1 => ?_)
        · rw [if_neg (show ¬ (1 : Int32) = 0 by decide)]
          unfold hasF at q1
          refine t_hasC h ht' hm' h60 (fun q2 => ?_) (fun q2 => ?_)
          · rw [if_neg (show ¬ (1 : Int32) = 0 by decide)]
            unfold hasF at q2
            rw [if_pos ⟨q1, q2⟩] at k
            obtain ⟨i, rfl, hi⟩ := nn_nI q1.1
            obtain ⟨j, rfl, hj⟩ := nn_nI q2.1
            obtain ⟨n, rfl, hn⟩ := nn_nI h60
            rw [← hi, ← hn] at q1
            rw [← hj, ← hn] at q2
            rw [tn_nI (by omega), tn_nI (by omega), tn_nI (by omega)] at k
            unfold w_X10_move
            rw [tn_nI (by omega), tn_nI (by omega), tn_nI (by omega), tc_nI (by omega), tc_nI (by omega)]
            refine ⟨vp_nI ht (by decide), vp_nI ht' (by decide), jI_neg (by omega), jI_neg (by omega), jI_neg (by omega), by omega, by omega, Or.inr rfl, ?_⟩
            refine k _ ((Eo.cpl (fun y => Or.inr ⟨by omega, by omega⟩)).tr tst) (TC.st (fun s hs' => ?_)) gi_si_s
            obtain ⟨r1, r2, r3, r4, r5⟩ := h s hs'
            refine ⟨by rw [gi_cpl]; exact r1, r2, by rw [gi_cpl]; exact r3, r4, fun y hy => ?_⟩
            have hy' : y + 1 < D.2.1 s := hy
            show gl (cpl σ (4 + t) i (4 + t') j n) (4 + s) y = if s = t' ∧ j ≤ y ∧ y < j + n then D.2.2 t (i + (y - j)) else D.2.2 s y
            rw [gl_cpl]
            by_cases hq : s = t' ∧ j ≤ y ∧ y < j + n
            · rw [if_pos hq, if_pos ⟨by omega, hq.2⟩]
              exact h5 _ (by omega)
            · rw [if_neg hq, if_neg (fun z => hq ⟨by omega, z.2⟩)]
              exact r5 y hy
          · rw [if_pos (show (0 : Int32) = 0 from rfl)]
            rw [if_neg (fun z => q2 z.2)] at bad
            exact ⟨Or.inl rfl, bad 4 rfl⟩
        · rw [if_pos (show (0 : Int32) = 0 from rfl)]
          rw [if_neg (fun z => q1 z.1)] at bad
          exact ⟨Or.inl rfl, bad 4 rfl⟩
      · rw [if_pos hs] at bad
        rw [if_neg (by rw [jI_eq (by omega) (by omega)]; exact hs)]
        dsimp only
        rw [if_pos (show (0 : Int32) = 0 from rfl)]
        exact ⟨Or.inl rfl, bad 11 rfl⟩
    · rw [if_pos rfl]
      exact ⟨Or.inl rfl, bad 1 (by
        unfold pourA
        rw [ifD_pos ht (by decide), ifD_neg hx (by decide)])⟩
  · rw [if_pos rfl]
    exact ⟨Or.inl rfl, bad 1 (ifD_neg hx (by decide))⟩
theorem m_pour_loop {σ : Sto} {D : TD} {P : Int32 → Sto → Prop} (h : TM σ D) {t t' i j n m m' : Nat} (ht : t < 4) (ht' : t' < 4) (hm : D.2.1 t = m + 1) (hm' : D.2.1 t' = m' + 1) (h1 : i + n ≤ m) (h2 : j + n ≤ m') {x6 : Int32} (hx6 : (x6 = 0 ∧ j ≤ i) ∨ (x6 = 1 ∧ i < j))
    (k : ∀ τ, Eo (fun a _ => a = 104) σ τ → TM τ (movD D t i t' j n) → P 1 τ) : Lp (fun (K : Int32 × Sto → Prop) s => w_X12_pour_158 K (nI t) (nI i) (nI t') (nI j) (nI n) x6 s.1 s.2 P) (0, σ) := by
  have hml := (h t ht).2.2.2.1
  have hml' := (h t' ht').2.2.2.1
  have h5 := (h t ht).2.2.2.2
  -- what has come over: from the front, or from the back
  refine Lp_for n (fun l q => q.1 = nI l ∧ Eo (fun a _ => a = 104) σ q.2 ∧ (∀ b y, gi q.2 b y = gi σ b y) ∧ ∀ y, gl q.2 104 y = if (x6 = 0 ∧ 60 * t' + j ≤ y ∧ y < 60 * t' + j + l) ∨ (x6 = 1 ∧ 60 * t' + j + n - l ≤ y ∧ y < 60 * t' + j + n) then gl σ 104 (60 * t + i + (y - (60 * t' + j))) else gl σ 104 y) ⟨rfl, Eo.rf, fun _ _ => rfl, fun y => by rw [if_neg (fun q => by omega)]⟩ ?_ ?_
  · rintro l hl K ⟨x7, τ⟩ ⟨r7, e, hi, hg⟩ hK
    dsimp only at r7 e hi hg hK ⊢
    subst r7
    have go : ∀ z, z < n → ((x6 = 0 ∧ z = l) ∨ (x6 = 1 ∧ z = n - 1 - l)) → w_X12_pour_182 K (nI t) (nI i) (nI t') (nI j) (nI n) x6 (nI l) (nI z) τ P := fun z hz hzz => by
      unfold w_X12_pour_182
      rw [N60, jI_mul, jI_mul, jI_add, jI_add, jI_add, jI_add, tn_nI (by omega), tn_nI (by omega), N1, jI_add]
      refine ⟨vp_nI (by omega) (by decide), vp_nI (by omega) (by decide), ?_⟩
      rintro w rfl
      refine hK _ ⟨rfl, e.tr (Eo.sl rfl), fun b y => by dsimp only; rw [gi_sl]; exact hi b y, fun y => ?_⟩
      dsimp only
      have hsrc : gl τ 104 (60 * t + i + z) = gl σ 104 (60 * t + i + z) := by
        rw [hg, if_neg ?_]
        rcases hx6 with ⟨a1, a2⟩ | ⟨a1, a2⟩
        · rcases hzz with ⟨b1, b2⟩ | ⟨b1, b2⟩
          · rintro (⟨q1, q2, q3⟩ | ⟨q1, q2, q3⟩)
            · by_cases htt : t = t'
              · subst htt; omega
              · omega
            · rw [a1] at q1; exact absurd q1 (by decide)
          · rw [a1] at b1; exact absurd b1 (by decide)
        · rcases hzz with ⟨b1, b2⟩ | ⟨b1, b2⟩
          · rw [a1] at b1; exact absurd b1 (by decide)
          · rintro (⟨q1, q2, q3⟩ | ⟨q1, q2, q3⟩)
            · rw [a1] at q1; exact absurd q1 (by decide)
            · by_cases htt : t = t'
              · subst htt; omega
              · omega
      rw [hsrc]
      by_cases hy : y = 60 * t' + j + z
      · subst hy
        rw [gl_sl_s, if_pos ?_]
        · congr 1; omega
        · rcases hzz with ⟨b1, b2⟩ | ⟨b1, b2⟩
          · exact Or.inl ⟨b1, by omega, by omega⟩
          · exact Or.inr ⟨b1, by omega, by omega⟩
      · rw [gl_sl_k hy, hg]
        have : ((x6 = 0 ∧ 60 * t' + j ≤ y ∧ y < 60 * t' + j + l) ∨ (x6 = 1 ∧ 60 * t' + j + n - l ≤ y ∧ y < 60 * t' + j + n)) ↔ ((x6 = 0 ∧ 60 * t' + j ≤ y ∧ y < 60 * t' + j + (l + 1)) ∨ (x6 = 1 ∧ 60 * t' + j + n - (l + 1) ≤ y ∧ y < 60 * t' + j + n)) := by
          rcases hzz with ⟨b1, b2⟩ | ⟨b1, b2⟩
          · constructor
            · rintro (⟨q1, q2, q3⟩ | ⟨q1, q2, q3⟩)
              · exact Or.inl ⟨q1, q2, by omega⟩
              · rw [b1] at q1; exact absurd q1 (by decide)
            · rintro (⟨q1, q2, q3⟩ | ⟨q1, q2, q3⟩)
              · exact Or.inl ⟨q1, q2, by omega⟩
              · rw [b1] at q1; exact absurd q1 (by decide)
          · constructor
            · rintro (⟨q1, q2, q3⟩ | ⟨q1, q2, q3⟩)
              · rw [b1] at q1; exact absurd q1 (by decide)
              · exact Or.inr ⟨q1, by omega, q3⟩
            · rintro (⟨q1, q2, q3⟩ | ⟨q1, q2, q3⟩)
              · rw [b1] at q1; exact absurd q1 (by decide)
              · exact Or.inr ⟨q1, by omega, q3⟩
        simp only [this]
    unfold w_X12_pour_158
    rw [if_neg (by rw [jI_le (by omega) (by omega)]; omega)]
    rcases hx6 with ⟨a1, a2⟩ | ⟨a1, a2⟩
    · rw [if_pos a1]
      exact go l hl (Or.inl ⟨a1, rfl⟩)
    · rw [if_neg (by rw [a1]; decide), N1, jI_sub (by omega), jI_sub (by omega)]
      exact go _ (by omega) (Or.inr ⟨a1, rfl⟩)
  · rintro K ⟨x7, τ⟩ ⟨r7, e, hi, hg⟩
    dsimp only at r7 e hi hg ⊢
    subst r7
    unfold w_X12_pour_158
    rw [if_pos (by rw [jI_le (by omega) (by omega)]; exact Nat.le_refl _)]
    refine k τ e (fun s hs => ?_)
    obtain ⟨r1, r2, r3, r4, r5⟩ := h s hs
    refine ⟨by rw [hi]; exact r1, r2, by rw [hi]; exact r3, r4, fun y hy => ?_⟩
    have hy' : y + 1 < D.2.1 s := hy
    show gl τ 104 (60 * s + y) = if s = t' ∧ j ≤ y ∧ y < j + n then D.2.2 t (i + (y - j)) else D.2.2 s y
    rw [hg]
    have h01 : x6 = 0 ∨ x6 = 1 := hx6.elim (fun q => Or.inl q.1) (fun q => Or.inr q.1)
    by_cases hq : s = t' ∧ j ≤ y ∧ y < j + n
    · rw [if_pos hq, if_pos (by
        obtain ⟨rfl, q2, q3⟩ := hq
        rcases h01 with z | z
        · exact Or.inl ⟨z, by omega, by omega⟩
        · exact Or.inr ⟨z, by omega, by omega⟩)]
      obtain ⟨rfl, q2, q3⟩ := hq
      rw [show 60 * t + i + (60 * s + y - (60 * s + j)) = 60 * t + (i + (y - j)) by omega]
      exact h5 _ (by omega)
    · rw [if_neg hq, if_neg (by
        rintro (⟨z, q2, q3⟩ | ⟨z, q2, q3⟩)
        · exact hq (by omega)
        · exact hq (by omega))]
      exact r5 y hy
