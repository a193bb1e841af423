/-! ===== promises 8, 18: pour, copyWorth; the model ===== -/
theorem m_pour {σ : Sto} {D : TD} {P : Int32 → Sto → Prop} (h : TM σ D) {x1 x2 x3 x4 x5 : Int32} (k : ∀ τ, Eo SMT σ τ → TM τ (pourA D x1 x2 x3 x4 x5).2.2 → gi τ 101 0 = (pourA D x1 x2 x3 x4 x5).2.1 → P (pourA D x1 x2 x3 x4 x5).1 τ) : w_X12_pour x1 x2 x3 x4 x5 σ P := by
  have hx := inD_iff (x := x1) (N := 4) (by decide)
  have hy := inD_iff (x := x3) (N := 4) (by decide)
  have hT : TM (si (si σ 101 1 0) 101 0 0) D := h.st.st
  have he : Eo SMT σ (si (si σ 101 1 0) 101 0 0) := mst1.tr mst0
  have hs0 : gi (si (si σ 101 1 0) 101 0 0) 101 0 = 0 := gi_si_s
  have h00 : (0 : Int32).toInt = 0 := by decide
  unfold w_X12_pour
  generalize si (si σ 101 1 0) 101 0 0 = υ at hT he hs0 ⊢
  have bad : ∀ v, pourA D x1 x2 x3 x4 x5 = (0, v, D) → P 0 (si υ 101 0 v) := fun v e => by
    rw [e] at k
    exact k _ (he.tr mst0) hT.st gi_si_s
  have bad1 : pourA D x1 x2 x3 x4 x5 = (0, 1, D) → w_X12_pour_28 υ P := fun e => ⟨Or.inl rfl, bad 1 e⟩
  by_cases h1 : x1 < 0
  · rw [if_pos h1]; exact bad1 (ifD_neg (fun q => (hx.mp q).1 h1) (by decide))
  rw [if_neg h1, N4]
  by_cases h2 : x1 < nI 4
  · rw [if_neg (fun q => i_le.mp q h2)]
    obtain ⟨t, ht, rfl⟩ := hx.mpr ⟨h1, h2⟩
    have ey : ¬ inD x3 4 → pourA D (nI t) x2 x3 x4 x5 = (0, 1, D) := fun q => by
      unfold pourA
      rw [ifD_pos ht (by decide), ifD_neg q (by decide)]
    by_cases g1 : x3 < 0
    · rw [if_pos g1]; exact bad1 (ey (fun q => (hy.mp q).1 g1))
    rw [if_neg g1]
    by_cases g2 : x3 < nI 4
    · rw [if_pos g2]
      obtain ⟨t', ht', rfl⟩ := hy.mpr ⟨g1, g2⟩
      have e1 : pourA D (nI t) x2 (nI t') x4 x5 = pourF D t t' x2 x4 x5 := by
        unfold pourA
        rw [ifD_pos ht (by decide), ifD_pos ht' (by decide), tn_nI (by omega), tn_nI (by omega)]
      rw [e1] at k bad
      unfold pourF at k bad
      refine ⟨vp_nI ht (by decide), ?_⟩
      intro σ9 h9
      rw [h9]
      clear h9 σ9
      obtain ⟨p1, p2, p3, p4, p5⟩ := hT t ht
      obtain ⟨q1, q2, q3, q4, q5⟩ := hT t' ht'
      rw [tn_nI (by omega), tn_nI (by omega), p3, q3]
      have b3 : (D.2.1 t = 0 ∨ D.2.1 t' = 0) → w_X12_pour_52 υ P := fun z => by
        rw [if_pos z] at bad
        exact ⟨Or.inl rfl, bad 3 rfl⟩
      by_cases hz : D.2.1 t = 0
      · rw [if_pos ((oI_neg (by omega)).mpr hz)]
        exact b3 (Or.inl hz)
      rw [if_neg (fun q => hz ((oI_neg (by omega)).mp q))]
      refine ⟨vp_nI ht' (by decide), ?_⟩
      by_cases hz' : D.2.1 t' = 0
      · rw [if_neg (fun q => (oI_ge (by omega)).mp q hz')]
        exact b3 (Or.inr hz')
      rw [if_pos ((oI_ge (by omega)).mpr hz'), p1, q1]
      rw [if_neg (fun q => q.elim hz hz')] at k bad
      by_cases hs : D.1 t = D.1 t'
      · rw [if_neg (fun q => q hs)] at k bad
        rw [if_pos (by rw [hs])]
        by_cases h6 : x5 < 0
        · rw [if_pos h6] at bad
          rw [if_neg (fun q => i_le.mp q h6)]
          exact ⟨Or.inl rfl, bad 6 rfl⟩
        rw [if_neg h6] at k bad
        rw [if_pos (i_le.mpr h6)]
        obtain ⟨m, hm⟩ : ∃ m, D.2.1 t = m + 1 := ⟨D.2.1 t - 1, by omega⟩
        obtain ⟨m', hm'⟩ : ∃ m, D.2.1 t' = m + 1 := ⟨D.2.1 t' - 1, by omega⟩
        rw [hm, hm', Nat.add_sub_cancel, Nat.add_sub_cancel] at k bad
        have h60 : 0 ≤ x5.toInt := by
          rw [Int32.lt_iff_toInt_lt] at h6
          omega
        have bad4 : ¬ ((0 ≤ x2.toInt ∧ x2.toInt + x5.toInt ≤ (m : Int)) ∧ (0 ≤ x4.toInt ∧ x4.toInt + x5.toInt ≤ (m' : Int))) → w_X12_pour_136 υ P := fun z => by
          rw [if_neg z] at bad
          exact ⟨Or.inl rfl, bad 4 rfl⟩
        by_cases a1 : x2 < 0
        · rw [if_pos a1]
          rw [Int32.lt_iff_toInt_lt, h00] at a1
          exact bad4 (fun z => by omega)
        rw [if_neg a1]
        rw [Int32.lt_iff_toInt_lt, h00] at a1
        by_cases a2 : x4 < 0
        · rw [if_pos a2]
          rw [Int32.lt_iff_toInt_lt, h00] at a2
          exact bad4 (fun z => by omega)
        rw [if_neg a2]
        rw [Int32.lt_iff_toInt_lt, h00] at a2
        rw [hm, hm', show oI (m + 1) = nI m from rfl, show oI (m' + 1) = nI m' from rfl]
        by_cases a3 : 0 < lg_cmp (x2.toInt64 + x5.toInt64) (nI m).toInt64
        · rw [if_pos a3]
          rw [lg_gt, Int64.lt_iff_toInt_lt, l64_add, i64_int, jI_toInt (by omega)] at a3
          exact bad4 (fun z => by omega)
        rw [if_neg a3]
        rw [lg_gt, Int64.lt_iff_toInt_lt, l64_add, i64_int, jI_toInt (by omega)] at a3
        by_cases a4 : lg_cmp (x4.toInt64 + x5.toInt64) (nI m').toInt64 ≤ 0
        · rw [if_pos a4]
          have a4' := i_le.mp a4
          rw [lg_gt, Int64.lt_iff_toInt_lt, l64_add, i64_int, jI_toInt (by omega)] at a4'
          rw [if_pos ⟨⟨by omega, by omega⟩, by omega, by omega⟩] at k
          obtain ⟨i, rfl, hi⟩ := nn_nI (show 0 ≤ x2.toInt by omega)
          obtain ⟨j, rfl, hj⟩ := nn_nI (show 0 ≤ x4.toInt by omega)
          obtain ⟨n, rfl, hn⟩ := nn_nI h60
          rw [← hi, ← hn] at a3
          rw [← hj, ← hn] at a4'
          rw [tn_nI (by omega), tn_nI (by omega), tn_nI (by omega)] at k
          have fin : ∀ x6 : Int32, ((x6 = 0 ∧ j ≤ i) ∨ (x6 = 1 ∧ i < j)) → Lp (fun (K : Int32 × Sto → Prop) s => w_X12_pour_158 K (nI t) (nI i) (nI t') (nI j) (nI n) x6 s.1 s.2 P) (0, υ) := fun x6 h6x =>
            m_pour_loop hT ht ht' hm hm' (by omega) (by omega) h6x (fun τ e hTM => k τ (he.tr (e.mo (fun a b (q : a = 104) => Or.inr (Or.inr (Or.inr q))))) hTM (by rw [e.1 101 0 (show ¬ (101 : Nat) = 104 by decide)]; exact hs0))
          by_cases hl : j ≤ i
          · rw [if_pos ((jI_le (by omega) (by omega)).mpr hl)]
            exact fin 0 (Or.inl ⟨rfl, hl⟩)
          · rw [if_neg (fun q => hl ((jI_le (by omega) (by omega)).mp q))]
            exact fin 1 (Or.inr ⟨rfl, by omega⟩)
        · rw [if_neg a4]
          have a4' : 0 < lg_cmp (x4.toInt64 + x5.toInt64) (nI m').toInt64 := Classical.byContradiction (fun q => a4 (i_le.mpr q))
          rw [lg_gt, Int64.lt_iff_toInt_lt, l64_add, i64_int, jI_toInt (by omega)] at a4'
          exact bad4 (fun z => by omega)
      · rw [if_pos hs] at bad
        rw [if_neg (by rw [jI_eq (by omega) (by omega)]; exact hs)]
        exact ⟨Or.inl rfl, bad 11 rfl⟩
    · rw [if_neg g2]; exact bad1 (ey (fun q => g2 (hy.mp q).2))
  · rw [if_pos (i_le.mpr h2)]; exact bad1 (ifD_neg (fun q => h2 (hx.mp q).2) (by decide))
/-! == copyWorth == -/
theorem cut_small : ∀ w, w < 100 → (nI w).toInt64.toInt32.toInt8.toInt32.toInt64 = (nI w).toInt64 ∧ (nI w).toInt64.toInt32.toInt16.toInt32.toInt64 = (nI w).toInt64 ∧ (nI w).toInt64.toInt32.toInt64 = (nI w).toInt64 := by decide +kernel
theorem cutF_w {s w : Nat} (hw : w ≤ 99) : cutF s (nI w).toInt64 = (nI w).toInt64 := by
  obtain ⟨h1, h2, h3⟩ := cut_small w (by omega)
  unfold cutF
  split
  · exact h1
  · split
    · exact h2
    · split
      · exact h3
      · rfl
def cwW (c : Nat → Nat) (k : Nat) : Int64 := if (nowF c).testBit k = true then (nI (c (8 + k))).toInt64 else (nI 0).toInt64
def cwD (D : TD) (c : Nat → Nat) (t n : Nat) : TD := (D.1, D.2.1, fun i k => if i = t ∧ k < n then cwW c k else D.2.2 i k)
theorem cwD_put {D : TD} {c : Nat → Nat} (ok : OK c) {t n : Nat} (hn : n < c 0) : putD (cwD D c t n) t n (cwW c n) = cwD D c t (n + 1) := by
  have hc : cutF (D.1 t) (cwW c n) = cwW c n := by
    unfold cwW
    split
    · exact cutF_w (ok.worth n hn)
    · exact cutF_w (by decide)
  unfold putD cwD
  dsimp only
  rw [hc]
  congr 2
  funext i k
  by_cases h1 : i = t ∧ k = n
  · rw [if_pos h1, if_pos ⟨h1.1, by omega⟩, h1.2]
  · rw [if_neg h1]
    by_cases h2 : i = t ∧ k < n
    · rw [if_pos h2, if_pos ⟨h2.1, by omega⟩]
    · rw [if_neg h2, if_neg (fun q => by omega)]
def copyWF (D : TD) (c : Nat → Nat) (t : Nat) : Int32 × Int32 × TD := if D.2.1 t = 0 then (-1, 3, D) else if D.2.1 t - 1 < c 0 then (-1, 4, D) else (nI (c 0), 0, cwD D c t (c 0))
def copyWA (D : TD) (c : Nat → Nat) (x : Int32) : Int32 × Int32 × TD := if ¬ x < 0 ∧ x < nI 4 then copyWF D c (tn x) else (-1, 1, D)
def SCW (a k : Nat) : Prop := SQ a k ∨ (4 ≤ a ∧ a ≤ 9)
theorem scw {σ τ : Sto} (e : Eo STr σ τ) : Eo SCW σ τ := e.mo (fun a k q => by unfold STr at q; unfold SCW SQ; omega)
theorem TC.eo {S : Nat → Nat → Prop} {σ τ : Sto} {D : TD} (h : TC σ D) (e : Eo S σ τ) (hs : ∀ a k, S a k → a < 4 ∨ 9 < a) : TC τ D := fun t ht => by
  obtain ⟨h1, h2, h3, h4, h5⟩ := h t ht
  exact ⟨by rw [e.1 8 _ (fun q => by have := hs _ _ q; omega)]; exact h1, h2, by rw [e.1 9 _ (fun q => by have := hs _ _ q; omega)]; exact h3, h4, fun k hk => by rw [e.2.1 _ _ (fun q => by have := hs _ _ q; omega)]; exact h5 k hk⟩
theorem TM.eo {S : Nat → Nat → Prop} {σ τ : Sto} {D : TD} (h : TM σ D) (e : Eo S σ τ) (hs : ∀ a k, S a k → a < 102 ∨ 104 < a) : TM τ D := fun t ht => by
  obtain ⟨h1, h2, h3, h4, h5⟩ := h t ht
  exact ⟨by rw [e.1 102 _ (fun q => by have := hs _ _ q; omega)]; exact h1, h2, by rw [e.1 103 _ (fun q => by have := hs _ _ q; omega)]; exact h3, h4, fun k hk => by rw [e.2.1 104 _ (fun q => by have := hs _ _ q; omega)]; exact h5 k hk⟩
theorem c_copyWorth {σ : Sto} {c : Nat → Nat} {D : TD} {P : Int32 → Sto → Prop} {N : Nat} (h : KW N σ c) (ok : OK c) (hN : N ≤ 2000) (hT : TC σ D) {x : Int32} (k : ∀ τ, Eo SCW σ τ → KW N τ c → TC τ (copyWA D c x).2.2 → gi τ 1 15 = (copyWA D c x).2.1 → P (copyWA D c x).1 τ) : w_X11_copyWorth x σ P := by
  have := ok.n0
  have bad : ∀ v, copyWA D c x = (-1, v, D) → P (-1) (si σ 1 15 v) := fun v e => by
    rw [e] at k
    exact k _ (scw tst) (h.tr tst) hT.st gi_si_s
  unfold w_X11_copyWorth
  refine t_isTray (fun hx => ?_) (fun hx => ?_)
  · rw [if_neg (by decide)]
    obtain ⟨t, ht, rfl⟩ := hx
    have e1 : copyWA D c (nI t) = copyWF D c t := by
      unfold copyWA
      rw [ifD_pos ht (by decide), tn_nI (by omega)]
    rw [e1] at k bad
    unfold copyWF at k bad
    rw [t_missing hT ht]
    by_cases hz : D.2.1 t = 0
    · rw [if_pos hz] at bad
      rw [if_pos hz, if_neg (show ¬ (1 : Int32) = 0 by decide)]
      exact bad 3 rfl
    rw [if_neg hz] at k bad
    rw [if_neg hz, if_pos (show (0 : Int32) = 0 from rfl)]
    obtain ⟨m, hm⟩ : ∃ m, D.2.1 t = m + 1 := ⟨D.2.1 t - 1, by omega⟩
    have hml := (hT t ht).2.2.2.1
    rw [hm, Nat.add_sub_cancel] at k bad
    refine ⟨h.1, ?_⟩
    rw [show gi σ (gr σ 1 11) 8 = nI (c 0) from h.f (k := 0) (by decide)]
    refine t_hasC hT ht hm (by rw [jI_toInt (by omega)]; omega) (fun q => ?_) (fun q => ?_)
    · unfold hasF at q
      rw [jI_toInt (by omega)] at q
      have h00 : (0 : Int32).toInt = 0 := by decide
      rw [if_neg (by omega)] at k
      rw [if_neg (show ¬ (1 : Int32) = 0 by decide)]
      refine t_atPresent h.kb.1 ok hN (fun υ e1 h1 => ?_)
      have hw1 := h.e89 e1 h1
      have hT1 : TC υ D := hT.eo e1 (fun a b z => by unfold S89 at z; omega)
      refine Lp_for (c 0) (fun j q => q.1 = nI j ∧ Eo SCW σ q.2 ∧ KW N q.2 c ∧ TC q.2 (cwD D c t j)) ⟨rfl, e1.mo (fun _ _ z => Or.inl (S89q z)), hw1, ?_⟩ ?_ ?_
      · intro s hs
        obtain ⟨r1, r2, r3, r4, r5⟩ := hT1 s hs
        refine ⟨r1, r2, r3, r4, fun y hy => ?_⟩
        show gl υ (4 + s) y = if s = t ∧ y < 0 then cwW c y else D.2.2 s y
        rw [if_neg (fun z => by omega)]
        exact r5 y hy
      · rintro j hj K ⟨x3, τ⟩ ⟨r3, e, hw, hTj⟩ hK
        dsimp only at r3 e hw hTj hK ⊢
        subst r3
        have go : ∀ w : Nat, (nI w).toInt64 = cwW c j → w_X11_copyWorth_109 K (nI t) (nI (nowF c)) (nI j) (nI w).toInt64 (nI j) (nI t) τ P := fun w hw' => by
          obtain ⟨r1, r2, r3, r4, r5⟩ := hTj t ht
          unfold w_X11_copyWorth_109 w_X10_put
          rw [tn_nI (by omega), r1, tc_nI (by omega), tn_nI (by omega), N1, jI_add]
          refine ⟨vp_nI ht (by decide), c_cut r2 ⟨vp_nI (by omega) (by decide), ?_⟩⟩
          rintro y rfl
          have hp := hTj.put ht (k := j) (v := (nI w).toInt64)
          rw [hw', cwD_put ok hj] at hp
          rw [hw']
          have e2 : Eo STr τ (sl τ (4 + t) j (cutF ((cwD D c t j).1 t) (cwW c j))) := Eo.sl (Or.inr ⟨by omega, by omega⟩)
          exact hK _ ⟨rfl, e.tr (scw e2), hw.tr e2, hp⟩
        unfold w_X11_copyWorth_69
        refine ⟨hw.1, ?_⟩
        rw [show gi τ (gr τ 1 11) 8 = nI (c 0) from hw.f (k := 0) (by decide), if_neg (by rw [jI_le (by omega) (by omega)]; omega), t_oneOf (by omega)]
        cases hb : (nowF c).testBit j
        · rw [if_pos (show bI false = 0 from rfl)]
          exact go 0 (by unfold cwW; rw [hb]; rfl)
        · rw [if_neg (show ¬ bI true = 0 by decide), tn_nI (by omega), hw.cr.2.1 j hj]
          exact ⟨hw.1, vp_nI (by omega) (by decide), go _ (by unfold cwW; rw [hb]; rfl)⟩
      · rintro K ⟨x3, τ⟩ ⟨r3, e, hw, hTj⟩
        dsimp only at r3 e hw hTj ⊢
        subst r3
        unfold w_X11_copyWorth_69
        refine ⟨hw.1, ?_⟩
        rw [show gi τ (gr τ 1 11) 8 = nI (c 0) from hw.f (k := 0) (by decide), if_pos (by rw [jI_le (by omega) (by omega)]; exact Nat.le_refl _)]
        exact k _ (e.tr (scw tst)) (hw.tr tst) hTj.st gi_si_s
    · unfold hasF at q
      rw [jI_toInt (by omega)] at q
      have h00 : (0 : Int32).toInt = 0 := by decide
      rw [if_pos (by omega)] at bad
      rw [if_pos rfl]
      exact bad 4 rfl
  · rw [if_pos rfl]
    exact bad 1 (ifD_neg hx (by decide))
def SMC (a k : Nat) : Prop := SM a k ∨ a = 104
theorem m_copyWorth {σ : Sto} {c : Nat → Nat} {D : TD} {P : Int32 → Sto → Prop} (h : MR σ c) (ok : OK c) (hT : TM σ D) {x : Int32} (k : ∀ τ, Eo SMC σ τ → TM τ (copyWA D c x).2.2 → gi τ 101 0 = (copyWA D c x).2.1 → P (copyWA D c x).1 τ) : w_X12_copyWorth x σ P := by
  have := ok.n0
  have hs : MR (si (si σ 101 1 0) 101 0 0) c := h.sm sm10
  have hT0 : TM (si (si σ 101 1 0) 101 0 0) D := hT.st.st
  have hst0 : gi (si (si σ 101 1 0) 101 0 0) 101 0 = 0 := gi_si_s
  have he : Eo SMC σ (si (si σ 101 1 0) 101 0 0) := sm10.mo (fun _ _ => Or.inl)
  unfold w_X12_copyWorth
  generalize si (si σ 101 1 0) 101 0 0 = υ at hs hT0 hst0 he ⊢
  have bad : ∀ v, copyWA D c x = (-1, v, D) → P (-1) (si υ 101 0 v) := fun v e => by
    rw [e] at k
    exact k _ (he.tr (sm0.mo (fun _ _ => Or.inl))) hT0.st gi_si_s
  unfold w_X12_isTray
  refine t_isInK (N := 3) (by decide) (by decide) (fun hx => ?_) (fun hx => ?_)
  · refine ⟨Or.inr rfl, ?_⟩
    dsimp only
    rw [if_neg (show ¬ (1 : Int32) = 0 by decide)]
    obtain ⟨t, ht, rfl⟩ := hx
    have e1 : copyWA D c (nI t) = copyWF D c t := by
      unfold copyWA
      rw [ifD_pos (N := 4) ht (by decide), tn_nI (by omega)]
    rw [e1] at k bad
    unfold copyWF at k bad
    obtain ⟨p1, p2, p3, p4, p5⟩ := hT0 t ht
    rw [tn_nI (by omega), p3, hs 0 (by decide)]
    refine ⟨vp_nI ht (by decide), ?_⟩
    by_cases hz : D.2.1 t = 0
    · rw [if_pos hz] at bad
      rw [if_neg (fun q => (oI_ge (by omega)).mp q hz)]
      exact bad 3 rfl
    rw [if_neg hz] at k bad
    rw [if_pos ((oI_ge (by omega)).mpr hz)]
    obtain ⟨m, hm⟩ : ∃ m, D.2.1 t = m + 1 := ⟨D.2.1 t - 1, by omega⟩
    rw [hm, Nat.add_sub_cancel] at k bad
    rw [hm, show oI (m + 1) = nI m from rfl]
    by_cases hl : c 0 ≤ m
    · rw [if_neg (by omega)] at k
      rw [if_pos ((jI_le (by omega) (by omega)).mpr hl)]
      refine t_now hs ok ?_
      refine Lp_for (c 0) (fun j q => q.1 = nI j ∧ Eo (fun a _ => a = 104) υ q.2 ∧ TM q.2 (cwD D c t j)) ⟨rfl, Eo.rf, ?_⟩ ?_ ?_
      · intro s hs
        obtain ⟨r1, r2, r3, r4, r5⟩ := hT0 s hs
        refine ⟨r1, r2, r3, r4, fun y hy => ?_⟩
        show gl υ 104 (60 * s + y) = if s = t ∧ y < 0 then cwW c y else D.2.2 s y
        rw [if_neg (fun z => by omega)]
        exact r5 y hy
      · rintro j hj K ⟨x3, τ⟩ ⟨r3, e, hTj⟩ hK
        dsimp only at r3 e hTj hK ⊢
        subst r3
        have hmt : MR τ c := hs.eo e (fun k (q : 106 = 104) => by omega)
        have go : ∀ w : Int64, w = cwW c j → K (nI (j + 1), sl τ 104 (60 * t + j) w) := fun w hw' => by
          obtain ⟨r1, r2, r3, r4, r5⟩ := hTj t ht
          have hp := hTj.put ht (k := j) (by omega) (v := cwW c j)
          rw [cwD_put ok hj] at hp
          have hc : cutF ((cwD D c t j).1 t) (cwW c j) = cwW c j := by
            unfold cwW
            split
            · exact cutF_w (ok.worth j hj)
            · exact cutF_w (by decide)
          rw [hc] at hp
          rw [hw']
          exact hK _ ⟨rfl, e.tr (Eo.sl rfl), hp⟩
        unfold w_X12_copyWorth_67
        rw [hmt 0 (by decide), if_neg (by rw [jI_le (by omega) (by omega)]; omega), t_has (by omega), N60, jI_mul, jI_add, tn_nI (by omega), N8, jI_add, tn_nI (by omega), N1, jI_add]
        cases hb : (nowF c).testBit j
        · rw [if_pos (show bI false = 0 from rfl)]
          refine ⟨vp_nI (by omega) (by decide), ?_⟩
          rintro y rfl
          exact go 0 (by unfold cwW; rw [hb]; show (0 : Int64) = (nI 0).toInt64; decide)
        · rw [if_neg (show ¬ bI true = 0 by decide), hmt _ (by omega)]
          refine ⟨vp_nI (by omega) (by decide), vp_nI (by omega) (by decide), ?_⟩
          rintro y rfl
          exact go _ (by unfold cwW; rw [hb]; rfl)
      · rintro K ⟨x3, τ⟩ ⟨r3, e, hTj⟩
        dsimp only at r3 e hTj ⊢
        subst r3
        have hmt : MR τ c := hs.eo e (fun k (q : 106 = 104) => by omega)
        unfold w_X12_copyWorth_67
        rw [hmt 0 (by decide), if_pos (by rw [jI_le (by omega) (by omega)]; exact Nat.le_refl _)]
        exact k τ (he.tr (e.mo (fun a b (q : a = 104) => Or.inr q))) hTj (by rw [e.1 101 0 (show ¬ (101 : Nat) = 104 by decide)]; exact hst0)
    · rw [if_pos (by omega)] at bad
      rw [if_neg (fun q => hl ((jI_le (by omega) (by omega)).mp q))]
      exact bad 4 rfl
  · refine ⟨Or.inl rfl, ?_⟩
    dsimp only
    rw [if_pos (show (0 : Int32) = 0 from rfl)]
    exact bad 1 (ifD_neg (N := 4) hx (by decide))
