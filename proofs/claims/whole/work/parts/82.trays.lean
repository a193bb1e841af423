/-! ===== trays: sorts, lengths (0 missing, else one more), numbers ===== -/
abbrev TD : Type := (Nat → Nat) × (Nat → Nat) × (Nat → Nat → Int64)
def TC (σ : Sto) (D : TD) : Prop := ∀ t, t < 4 → gi σ 8 t = nI (D.1 t) ∧ D.1 t ≤ 3 ∧ gi σ 9 t = oI (D.2.1 t) ∧ D.2.1 t ≤ 61 ∧ ∀ k, k + 1 < D.2.1 t → gl σ (4 + t) k = D.2.2 t k
def TM (σ : Sto) (D : TD) : Prop := ∀ t, t < 4 → gi σ 102 t = nI (D.1 t) ∧ D.1 t ≤ 3 ∧ gi σ 103 t = oI (D.2.1 t) ∧ D.2.1 t ≤ 61 ∧ ∀ k, k + 1 < D.2.1 t → gl σ 104 (60 * t + k) = D.2.2 t k
def STr (a k : Nat) : Prop := (a = 1 ∧ k = 15) ∨ (4 ≤ a ∧ a ≤ 9)
def SMT (a k : Nat) : Prop := (a = 101 ∧ (k = 0 ∨ k = 1)) ∨ a = 102 ∨ a = 103 ∨ a = 104
theorem KW.tr {N : Nat} {σ τ : Sto} {c : Nat → Nat} (h : KW N σ c) (e : Eo STr σ τ) : KW N τ c :=
  h.mk e ⟨h.kb.1.eo e (fun a k q => by unfold STr at q; omega), h.kb.2.eo e (fun a k q => by unfold STr at q; omega) (by unfold STr; omega) (fun k q => by unfold STr at q; omega)⟩
theorem MR.tr {σ τ : Sto} {c : Nat → Nat} (h : MR σ c) (e : Eo SMT σ τ) : MR τ c := h.eo e (fun k q => by unfold SMT at q; omega)
theorem TC.st {σ : Sto} {D : TD} {v : Int32} (h : TC σ D) : TC (si σ 1 15 v) D := fun t ht => by
  obtain ⟨h1, h2, h3, h4, h5⟩ := h t ht
  exact ⟨by rw [gi_si_a (by decide)]; exact h1, h2, by rw [gi_si_a (by decide)]; exact h3, h4, fun k hk => by rw [gl_si]; exact h5 k hk⟩
theorem TM.st {σ : Sto} {D : TD} {k : Nat} {v : Int32} (h : TM σ D) : TM (si σ 101 k v) D := fun t ht => by
  obtain ⟨h1, h2, h3, h4, h5⟩ := h t ht
  exact ⟨by rw [gi_si_a (by decide)]; exact h1, h2, by rw [gi_si_a (by decide)]; exact h3, h4, fun k hk => by rw [gl_si]; exact h5 k hk⟩
theorem tst {σ : Sto} {v : Int32} : Eo STr σ (si σ 1 15 v) := Eo.si (Or.inl ⟨rfl, rfl⟩)
theorem mst0 {σ : Sto} {v : Int32} : Eo SMT σ (si σ 101 0 v) := Eo.si (Or.inl ⟨rfl, Or.inl rfl⟩)
theorem mst1 {σ : Sto} {v : Int32} : Eo SMT σ (si σ 101 1 v) := Eo.si (Or.inl ⟨rfl, Or.inr rfl⟩)
theorem i_le {a b : Int32} : a ≤ b ↔ ¬ b < a := by
  rw [Int32.le_iff_toInt_le, Int32.lt_iff_toInt_lt]
  omega
theorem t_isTray {σ : Sto} {P : Int32 → Sto → Prop} {x : Int32} (k1 : inD x 4 → P 1 σ) (k0 : ¬ inD x 4 → P 0 σ) : w_X10_isTray x σ P := by
  have hx := inD_iff (x := x) (N := 4) (by decide)
  unfold w_X10_isTray
  by_cases h1 : x < 0
  · rw [if_pos h1]; exact k0 (fun q => (hx.mp q).1 h1)
  rw [if_neg h1, N4]
  by_cases h2 : x < nI 4
  · rw [if_neg (fun q => i_le.mp q h2)]; exact k1 (hx.mpr ⟨h1, h2⟩)
  · rw [if_pos (i_le.mpr h2)]; exact k0 (fun q => h2 (hx.mp q).2)
theorem t_isSort {σ : Sto} {P : Int32 → Sto → Prop} {x : Int32} (k1 : inD x 4 → P 1 σ) (k0 : ¬ inD x 4 → P 0 σ) : w_X10_isSort x σ P := t_isTray k1 k0
theorem t_fillL {σ : Sto} {P : Sto → Prop} {a n : Nat} {v : Int64} (ha : isA a 2 n) (hn : n < 2147483648) (k : ∀ τ, Eo (fun b _ => b = a) σ τ → (∀ b j, gi τ b j = gi σ b j) → (∀ t, t < n → gl τ a t = v) → P τ) : w_J7_fill_d0a16 a n v σ P := by
  refine ⟨ha, ?_⟩
  rintro x3 rfl
  refine Lp_for n (fun j q => q.1 = nI j ∧ Eo (fun b _ => b = a) σ q.2 ∧ (∀ b j, gi q.2 b j = gi σ b j) ∧ ∀ t, t < j → gl q.2 a t = v) ⟨rfl, Eo.rf, fun _ _ => rfl, fun t ht => absurd ht (Nat.not_lt_zero _)⟩ ?_ ?_
  · rintro j hj K ⟨x, τ⟩ ⟨rfl, e, hi, hz⟩ hK
    dsimp only at e hi hz hK ⊢
    unfold w_J7_fill_d0a16_6
    rw [if_neg (by rw [jI_le (by omega) (by omega)]; omega), tn_nI (by omega), N1, jI_add]
    refine ⟨ha, vp_nI hj hn, ?_⟩
    rintro y rfl
    refine hK _ ⟨rfl, e.tr (Eo.sl rfl), fun b i => by dsimp only; rw [gi_sl]; exact hi b i, fun t ht => ?_⟩
    dsimp only
    by_cases htj : t = j
    · subst htj; exact gl_sl_s
    · rw [gl_sl_k htj]; exact hz t (by omega)
  · rintro K ⟨x, τ⟩ ⟨rfl, e, hi, hz⟩
    dsimp only at e hi hz ⊢
    unfold w_J7_fill_d0a16_6
    rw [if_pos (by rw [jI_le (by omega) (by omega)]; exact Nat.le_refl _)]
    exact k τ e hi hz
theorem aTray {t : Nat} (h : t < 4) : isA (4 + t) 2 60 := by
  match t, h with
  | 0, _ => exact ⟨3, rfl, rfl⟩
  | 1, _ => exact ⟨4, rfl, rfl⟩
  | 2, _ => exact ⟨5, rfl, rfl⟩
  | 3, _ => exact ⟨6, rfl, rfl⟩
/-! == promise 5: tray == -/
def layD (D : TD) (t s m : Nat) : TD := (fun i => if i = t then s else D.1 i, fun i => if i = t then m + 1 else D.2.1 i, fun i k => if i = t then 0 else D.2.2 i k)
def trayA (D : TD) (x y z : Int32) : Int32 × Int32 × TD := if ¬ x < 0 ∧ x < nI 4 then (if ¬ y < 0 ∧ y < nI 4 then (if nI 60 < z then (0, 5, D) else if z < 0 then (0, 6, D) else (1, 0, layD D (tn x) (tn y) (tn z))) else (0, 1, D)) else (0, 1, D)
theorem c_tray {σ : Sto} {D : TD} {P : Int32 → Sto → Prop} (h : TC σ D) {x y z : Int32} (k : ∀ τ, Eo STr σ τ → TC τ (trayA D x y z).2.2 → gi τ 1 15 = (trayA D x y z).2.1 → P (trayA D x y z).1 τ) : w_X11_tray x y z σ P := by
  have hz := inD_iff (x := z) (N := 61) (by decide)
  have h60 : z ≤ 60 ↔ z < nI 61 := le_lt (n := 60) (by decide) (by decide)
  have bad : ∀ v, trayA D x y z = (0, v, D) → P 0 (si σ 1 15 v) := fun v e => by
    rw [e] at k
    exact k _ tst h.st gi_si_s
  unfold w_X11_tray
  refine t_isTray (fun hx => ?_) (fun hx => ?_)
  · rw [if_neg (by decide)]
    obtain ⟨t, ht, rfl⟩ := hx
    refine t_isSort (fun hy => ?_) (fun hy => ?_)
    · rw [if_neg (by decide)]
      obtain ⟨s, hs, rfl⟩ := hy
      have e1 : trayA D (nI t) (nI s) z = if nI 60 < z then (0, 5, D) else if z < 0 then (0, 6, D) else (1, 0, layD D t s (tn z)) := by
        unfold trayA
        rw [ifD_pos ht (by decide), ifD_pos hs (by decide), tn_nI (by omega), tn_nI (by omega)]
      rw [e1] at k bad
      by_cases h1 : z ≤ 60
      · have h1' : ¬ nI 60 < z := i_le.mp h1
        rw [if_neg h1'] at k bad
        rw [if_pos h1]
        by_cases h2 : z < 0
        · rw [if_pos h2] at bad
          rw [if_neg (fun q => i_le.mp q h2)]
          exact ⟨Or.inl rfl, bad 6 rfl⟩
        · rw [if_neg h2] at k
          rw [if_pos (i_le.mpr h2)]
          obtain ⟨m, hm, rfl⟩ := hz.mpr ⟨h2, h60.mp h1⟩
          rw [tn_nI (by omega)] at k
          unfold w_X10_lay
          rw [tn_nI (by omega), tc_nI (by omega)]
          refine ⟨vp_nI ht (by decide), t_fillL (aTray ht) (by decide) (fun τ e hi hg => ?_)⟩
          refine ⟨Or.inr rfl, k _ ?_ (TC.st (fun t' ht' => ?_)) gi_si_s⟩
          · exact (((Eo.si (Or.inr ⟨by omega, by omega⟩)).tr (Eo.si (Or.inr ⟨by omega, by omega⟩))).tr (e.mo (fun a k (q : a = 4 + t) => Or.inr ⟨by omega, by omega⟩))).tr tst
          · obtain ⟨g1, g2, g3, g4, g5⟩ := h t' ht'
            unfold layD
            dsimp only
            rw [hi, hi]
            by_cases htt : t' = t
            · subst htt
              simp only [↓reduceIte]
              rw [gi_si_a (by decide), gi_si_s, gi_si_s]
              exact ⟨rfl, by omega, rfl, by omega, fun k hk => hg k (by omega)⟩
            · simp only [htt, ↓reduceIte]
              rw [gi_si_a (by decide), gi_si_k htt, gi_si_k htt, gi_si_a (by decide)]
              refine ⟨g1, g2, g3, g4, fun k hk => ?_⟩
              rw [e.2.1 (4 + t') k (by omega), gl_si, gl_si]
              exact g5 k hk
      · have h1' : nI 60 < z := Classical.byContradiction (fun q => h1 (i_le.mpr q))
        rw [if_pos h1'] at bad
        rw [if_neg h1]
        exact ⟨Or.inl rfl, bad 5 rfl⟩
    · rw [if_pos rfl]
      exact ⟨Or.inl rfl, bad 1 (by
        unfold trayA
        rw [ifD_pos ht (by decide), ifD_neg hy (by decide)])⟩
  · rw [if_pos rfl]
    exact ⟨Or.inl rfl, bad 1 (ifD_neg hx (by decide))⟩
theorem m_tray {σ : Sto} {D : TD} {P : Int32 → Sto → Prop} (h : TM σ D) {x y z : Int32} (k : ∀ τ, Eo SMT σ τ → TM τ (trayA D x y z).2.2 → gi τ 101 0 = (trayA D x y z).2.1 → P (trayA D x y z).1 τ) : w_X12_tray x y z σ P := by
  have hx := inD_iff (x := x) (N := 4) (by decide)
  have hy := inD_iff (x := y) (N := 4) (by decide)
  have hz := inD_iff (x := z) (N := 61) (by decide)
  have h60 : z ≤ 60 ↔ z < nI 61 := le_lt (n := 60) (by decide) (by decide)
  have h3 : y ≤ 3 ↔ y < nI 4 := le_lt (n := 3) (by decide) (by decide)
  have hT : TM (si (si σ 101 1 0) 101 0 0) D := h.st.st
  have he : Eo SMT σ (si (si σ 101 1 0) 101 0 0) := mst1.tr mst0
  have hs0 : gi (si (si σ 101 1 0) 101 0 0) 101 0 = 0 := gi_si_s
  unfold w_X12_tray
  generalize si (si σ 101 1 0) 101 0 0 = υ at hT he hs0 ⊢
  have bad : ∀ v, trayA D x y z = (0, v, D) → P 0 (si υ 101 0 v) := fun v e => by
    rw [e] at k
    exact k _ (he.tr mst0) hT.st gi_si_s
  have bad1 : trayA D x y z = (0, 1, D) → w_X12_tray_28 υ P := fun e => ⟨Or.inl rfl, bad 1 e⟩
  by_cases h1 : x < 0
  · rw [if_pos h1]; exact bad1 (ifD_neg (fun q => (hx.mp q).1 h1) (by decide))
  rw [if_neg h1, N4]
  by_cases h2 : x < nI 4
  · rw [if_neg (fun q => i_le.mp q h2)]
    obtain ⟨t, ht, rfl⟩ := hx.mpr ⟨h1, h2⟩
    have ey : ¬ inD y 4 → trayA D (nI t) y z = (0, 1, D) := fun q => by
      unfold trayA
      rw [ifD_pos ht (by decide), ifD_neg q (by decide)]
    by_cases g1 : y < 0
    · rw [if_pos g1]; exact bad1 (ey (fun q => (hy.mp q).1 g1))
    rw [if_neg g1]
    by_cases g2 : y ≤ 3
    · rw [if_pos g2]
      obtain ⟨s, hs, rfl⟩ := hy.mpr ⟨g1, h3.mp g2⟩
      have e1 : trayA D (nI t) (nI s) z = if nI 60 < z then (0, 5, D) else if z < 0 then (0, 6, D) else (1, 0, layD D t s (tn z)) := by
        unfold trayA
        rw [ifD_pos ht (by decide), ifD_pos hs (by decide), tn_nI (by omega), tn_nI (by omega)]
      rw [e1] at k bad
      by_cases z1 : z ≤ 60
      · have z1' : ¬ nI 60 < z := i_le.mp z1
        rw [if_neg z1'] at k bad
        rw [if_pos z1]
        by_cases z2 : z < 0
        · rw [if_pos z2] at bad
          rw [if_neg (fun q => i_le.mp q z2)]
          exact ⟨Or.inl rfl, bad 6 rfl⟩
        · rw [if_neg z2] at k
          rw [if_pos (i_le.mpr z2)]
          obtain ⟨m, hm, rfl⟩ := hz.mpr ⟨z2, h60.mp z1⟩
          rw [tn_nI (show m < 2147483648 by omega)] at k
          rw [tn_nI (show t < 2147483648 by omega)]
          refine ⟨vp_nI ht (by decide), ?_⟩
          refine Lp_for m (fun j q => q.1 = nI j ∧ Eo SMT σ q.2 ∧ (∀ b i, gi q.2 b i = gi (si (si υ 102 t (nI s)) 103 t (nI m)) b i) ∧ (∀ i, (i < 60 * t ∨ 60 * t + 60 ≤ i) → gl q.2 104 i = gl υ 104 i) ∧ ∀ i, i < j → gl q.2 104 (60 * t + i) = 0) ⟨rfl, (he.tr (Eo.si (Or.inr (Or.inl rfl)))).tr (Eo.si (Or.inr (Or.inr (Or.inl rfl)))), fun _ _ => rfl, fun _ _ => rfl, fun i hi => absurd hi (Nat.not_lt_zero _)⟩ ?_ ?_
          · rintro j hj K ⟨x4, τ⟩ ⟨r4, e, hi, ho, hg⟩ hK
            dsimp only at r4 e hi ho hg hK ⊢
            subst r4
            unfold w_X12_tray_74
            rw [if_neg (by rw [jI_le (by omega) (by omega)]; omega), N60, jI_mul, jI_add, tn_nI (by omega), N1, jI_add]
            refine ⟨vp_nI (by omega) (by decide), ?_⟩
            rintro w rfl
            refine hK _ ⟨rfl, e.tr (Eo.sl (Or.inr (Or.inr (Or.inr rfl)))), fun b i => by dsimp only; rw [gi_sl]; exact hi b i, fun i hi => by dsimp only; rw [gl_sl_k (by omega)]; exact ho i hi, fun i hij => ?_⟩
            dsimp only
            by_cases hq : i = j
            · subst hq; exact gl_sl_s
            · rw [gl_sl_k (by omega)]; exact hg i (by omega)
          · rintro K ⟨x4, τ⟩ ⟨r4, e, hi, ho, hg⟩
            dsimp only at r4 e hi ho hg ⊢
            subst r4
            unfold w_X12_tray_74
            rw [if_pos (by rw [jI_le (by omega) (by omega)]; exact Nat.le_refl _)]
            refine k τ e (fun t' ht' => ?_) (by rw [hi, gi_si_a (by decide), gi_si_a (by decide)]; exact hs0)
            obtain ⟨q1, q2, q3, q4, q5⟩ := hT t' ht'
            unfold layD
            dsimp only
            rw [hi, hi]
            by_cases htt : t' = t
            · subst htt
              simp only [↓reduceIte]
              rw [gi_si_a (by decide), gi_si_s, gi_si_s]
              exact ⟨rfl, by omega, rfl, by omega, fun k hk => hg k (by omega)⟩
            · simp only [htt, ↓reduceIte]
              rw [gi_si_a (by decide), gi_si_k htt, gi_si_k htt, gi_si_a (by decide)]
              refine ⟨q1, q2, q3, q4, fun k hk => ?_⟩
              rw [ho _ (by omega)]
              exact q5 k hk
      · have z1' : nI 60 < z := Classical.byContradiction (fun q => z1 (i_le.mpr q))
        rw [if_pos z1'] at bad
        rw [if_neg z1]
        exact ⟨Or.inl rfl, bad 5 rfl⟩
    · rw [if_neg g2]; exact bad1 (ey (fun q => g2 (h3.mpr (hy.mp q).2)))
  · rw [if_pos (i_le.mpr h2)]; exact bad1 (ifD_neg (fun q => h2 (hx.mp q).2) (by decide))
