def yearA (c : Nat → Nat) (x : Int32) : Int32 × Int32 × (Nat → Nat) := if ¬ x < 1 ∧ x < nI 100 then (if c 5 + tn x ≤ 9999 then (nI (sd (gN c (c 6) (c 7) (tn x)) (c 6)), 0, yearsC c (tn x)) else (-1, 7, c)) else (-1, 5, c)
theorem one_lt {x : Int32} (h1 : ¬ x < 1) (h2 : x < nI 100) : ∃ n, 1 ≤ n ∧ n < 100 ∧ x = nI n := by
  have h0 : (1 : Int32).toInt = 1 := by decide
  rw [Int32.lt_iff_toInt_lt, h0] at h1
  rw [Int32.lt_iff_toInt_lt, jI_toInt (by decide)] at h2
  refine ⟨x.toInt.toNat, by omega, by omega, ?_⟩
  apply Int32.toInt_inj.mp
  rw [jI_toInt (by omega)]
  omega
theorem c_year {σ : Sto} {c : Nat → Nat} {P : Int32 → Sto → Prop} {N : Nat} (h : KW N σ c) (ok : OK c) (hN : N ≤ 2000) {x : Int32} (k : ∀ τ, Eo (SD (gr σ 1 11)) σ τ → KW N τ (yearA c x).2.2 → gi τ 1 15 = (yearA c x).2.1 → P (yearA c x).1 τ) : w_X11_year x σ P := by
  have := ok.n0
  have := ok.n5
  have hle := le_lt (x := x) (n := 99) (l := 99) (by decide) (by decide)
  have out : ¬ (¬ x < 1 ∧ x < nI 100) → w_X11_year_11 σ P := fun hx => by
    have e1 : yearA c x = (-1, 5, c) := if_neg hx
    rw [e1] at k
    exact k _ (sdq stq) h.st gi_si_s
  unfold w_X11_year
  by_cases h1 : x < 1
  · rw [if_pos h1]; exact out (fun q => q.1 h1)
  · rw [if_neg h1]
    by_cases h2 : x ≤ 99
    · rw [if_pos h2]
      have hx := And.intro h1 (hle.mp h2)
      have e1 : yearA c x = (if c 5 + tn x ≤ 9999 then (nI (sd (gN c (c 6) (c 7) (tn x)) (c 6)), 0, yearsC c (tn x)) else (-1, 7, c)) := if_pos hx
      obtain ⟨n, hn1, hn, rfl⟩ := one_lt hx.1 hx.2
      rw [tn_nI (by omega)] at e1
      rw [e1] at k
      refine ⟨h.1, ?_⟩
      rw [show gi σ (gr σ 1 11) 13 = nI (c 5) from h.f (k := 5) (by decide), jI_add, show (9999 : Int32) = nI 9999 from rfl]
      by_cases hd : c 5 + n ≤ 9999
      · rw [if_pos (by rw [jI_le (by omega) (by decide)]; exact hd)]
        rw [if_pos hd] at k
        rw [show gi σ (gr σ 1 11) 14 = nI (c 6) from h.f (k := 6) (by decide)]
        rintro x2 rfl
        refine Lp_for n (fun j q => q.1 = nI j ∧ Eo (SD (gr σ 1 11)) σ q.2 ∧ KW N q.2 (updC c 6 (gN c (c 6) (c 7) j))) ⟨rfl, Eo.rf, ?_⟩ ?_ ?_
        · have : updC c 6 (gN c (c 6) (c 7) 0) = c := by
            funext i
            by_cases h6 : i = 6
            · subst h6; rw [updC_s]; rfl
            · rw [updC_n h6]
          dsimp only
          rw [this]
          exact h
        · rintro j hj K ⟨x3, τ⟩ ⟨r3, e, hw⟩ hK
          dsimp only at r3 e hw hK ⊢
          subst r3
          have hg := gN_lt (x := c 7) ok.n6 j
          have okj : OK (updC c 6 (gN c (c 6) (c 7) j)) := ok.put (Or.inr (Or.inl ⟨rfl, hg⟩))
          unfold w_X11_year_49
          rw [if_neg (by rw [jI_le (by omega) (by omega)]; omega)]
          refine ⟨hw.1, ?_⟩
          have f6 : gi τ (gr τ 1 11) 14 = nI (gN c (c 6) (c 7) j) := by rw [show gi τ (gr τ 1 11) 14 = nI (updC c 6 (gN c (c 6) (c 7) j) 6) from hw.f (k := 6) (by decide), updC_s]
          have f7 : gi τ (gr τ 1 11) 15 = nI (c 7) := by rw [show gi τ (gr τ 1 11) 15 = nI (updC c 6 (gN c (c 6) (c 7) j) 7) from hw.f (k := 7) (by decide), updC_n (by decide)]
          rw [f6, f7]
          refine t_goneNext hw.kb okj hN (by rw [updC_n (by decide)]; exact hg) (fun υ e2 h2 => ?_)
          have hw2 := hw.e3 e2 h2
          have enx : nextF (updC c 6 (gN c (c 6) (c 7) j)) (gN c (c 6) (c 7) j) (c 7) = gN c (c 6) (c 7) (j + 1) := by
            have ls : likeS c (updC c 6 (gN c (c 6) (c 7) j)) := likeS_upd ok (by decide) (by decide) (by omega)
            have lv : likeV c (updC c 6 (gN c (c 6) (c 7) j)) := likeV_upd (by decide) (by decide) (by omega) ok
            exact nextF_like ls lv (updC_n (by decide))
          rw [enx]
          rintro x rfl
          have hat : gr τ 1 11 = gr υ 1 11 := (e2.2.2 1 11).symm
          have hput := hw2.put okj (k := 6) (v := gN c (c 6) (c 7) (j + 1)) (Or.inr (Or.inl rfl))
          have euu : updC (updC c 6 (gN c (c 6) (c 7) j)) 6 (gN c (c 6) (c 7) (j + 1)) = updC c 6 (gN c (c 6) (c 7) (j + 1)) := by
            funext i
            by_cases h6 : i = 6
            · subst h6; rw [updC_s, updC_s]
            · rw [updC_n h6, updC_n h6, updC_n h6]
          rw [euu] at hput
          refine hK _ ⟨jI_add, (e.tr (sdq (e2.mo (fun _ _ => S3q)))).tr (Eo.si (Or.inr ⟨e.2.2 1 11, by decide, by decide⟩)), ?_⟩
          dsimp only
          rw [hat]
          exact hput
        · rintro K ⟨x3, τ⟩ ⟨r3, e, hw⟩
          dsimp only at r3 e hw ⊢
          subst r3
          have hg := gN_lt (x := c 7) ok.n6 n
          have okj : OK (updC c 6 (gN c (c 6) (c 7) n)) := ok.put (Or.inr (Or.inl ⟨rfl, hg⟩))
          unfold w_X11_year_49
          rw [if_pos (by rw [jI_le (by omega) (by omega)]; exact Nat.le_refl _)]
          refine ⟨hw.1, ?_⟩
          have f5 : gi τ (gr τ 1 11) 13 = nI (c 5) := by rw [show gi τ (gr τ 1 11) 13 = nI (updC c 6 (gN c (c 6) (c 7) n) 5) from hw.f (k := 5) (by decide), updC_n (by decide)]
          rw [f5, jI_add]
          rintro σ11 rfl
          have hput := hw.put okj (k := 5) (v := c 5 + n) (Or.inl rfl)
          refine ⟨hput.1, ?_⟩
          have f6 : gi (si τ (gr τ 1 11) 13 (nI (c 5 + n))) (gr (si τ (gr τ 1 11) 13 (nI (c 5 + n))) 1 11) 14 = nI (gN c (c 6) (c 7) n) := by
            rw [gr_si, gi_si_k (by decide), show gi τ (gr τ 1 11) 14 = nI (updC c 6 (gN c (c 6) (c 7) n) 6) from hw.f (k := 6) (by decide), updC_s]
          rw [f6, jI_andn]
          exact k _ ((e.tr (Eo.si (Or.inr ⟨e.2.2 1 11, by decide, by decide⟩))).tr (sdq stq)) hput.st gi_si_s
      · rw [if_neg (by rw [jI_le (by omega) (by decide)]; exact hd)]
        rw [if_neg hd] at k
        exact k _ (sdq stq) h.st gi_si_s
    · rw [if_neg h2]
      exact out (fun q => h2 (hle.mpr q.2))
