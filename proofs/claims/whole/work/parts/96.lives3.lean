/-! ===== centuries lived: a row of lines in the class ===== -/
def GB (a : Nat) (P : Int32 → Sto → Prop) : (Int32 × Int32 × Int32 × Sto → Prop) → Int32 × Int32 × Int32 × Sto → Prop := fun K z => w_X3_goThrough_29 K a z.1 z.2.1 z.2.2.1 z.2.2.2 P
/-- a line before the end of all -/
theorem gb_at {a ln d L κ : Nat} {σ : Sto} {v : Nat} {P : Int32 → Sto → Prop} (hs : isStory a) (hln : gi σ a 7 = nI ln) (hl60 : ln ≤ 60) (hL : L < ln) (hv : gi σ (a + 1) L = nI v) (hvv : v < 30) (hd : d ≤ 300) (hκ : κ < 1000000)
    (ke : v = 10 → ∀ K : Int32 × Int32 × Int32 × Sto → Prop, (∀ s', LpB (GB a P) (1000000 - κ) s' → K s') → w_X3_lineBehindEnd a (nI L) σ (fun r τ => K (nI d, r, nI (κ + 1), τ)))
    (ks : v ≠ 10 → d < 300 → ∀ K : Int32 × Int32 × Int32 × Sto → Prop, (∀ s', LpB (GB a P) (1000000 - κ) s' → K s') → w_X3_lineBehindStep a (nI L) σ (fun r τ => K (nI (d + 1), r, nI (κ + 1), τ)))
    (k3 : v ≠ 10 → d = 300 → P (nI d) (si σ 98 4 1)) : LpB (GB a P) (1000001 - κ) (nI d, nI L, nI κ, σ) := by
  rw [show 1000001 - κ = (1000000 - κ) + 1 by omega]
  refine LpB.go (fun K hK => ?_)
  unfold GB
  dsimp only
  unfold w_X3_goThrough_29
  rw [show (1000000 : Int32) = nI 1000000 from rfl, if_neg (by rw [jI_le (by decide) (by omega)]; omega), hln, tn_nI (by omega), hv, show (10 : Int32) = nI 10 from rfl, show (300 : Int32) = nI 300 from rfl]
  have e1 : nI κ + 1 = nI (κ + 1) := jI_add (b := 1)
  have e2 : nI d + 1 = nI (d + 1) := jI_add (b := 1)
  refine ⟨hs, ?_⟩
  rw [if_neg (by rw [jI_le (by omega) (by omega)]; omega)]
  refine ⟨vp_nI (by omega) (by decide), ?_⟩
  rw [e1, e2]
  by_cases h10 : v = 10
  · rw [if_pos (by rw [h10])]
    have h := ke h10 K hK
    have hc : (fun (r : Int32) (τ : Sto) => ∀ x5 : Int32, x5 = nI (κ + 1) → K (nI d, r, x5, τ)) = fun r τ => K (nI d, r, nI (κ + 1), τ) := by
      funext r τ
      exact propext ⟨fun q => q _ rfl, fun q x hx => hx ▸ q⟩
    rw [hc]
    exact h
  · rw [if_neg (by rw [jI_eq (by omega) (by decide)]; exact h10)]
    by_cases h3 : d < 300
    · rw [if_pos (by rw [jI_lt (by omega) (by decide)]; exact h3)]
      rintro _ rfl
      have h := ks h10 h3 K hK
      have hc : (fun (r : Int32) (τ : Sto) => ∀ x5 : Int32, x5 = nI (κ + 1) → K (nI (d + 1), r, x5, τ)) = fun r τ => K (nI (d + 1), r, nI (κ + 1), τ) := by
        funext r τ
        exact propext ⟨fun q => q _ rfl, fun q x hx => hx ▸ q⟩
      rw [hc]
      exact h
    · rw [if_neg (by rw [jI_lt (by omega) (by decide)]; exact h3)]
      exact k3 h10 (by omega)
/-- the end of all -/
theorem gb_end {a ln L κ : Nat} {D : Int32} {σ : Sto} {P : Int32 → Sto → Prop} (hs : isStory a) (hln : gi σ a 7 = nI ln) (hl60 : ln ≤ 60) (hL : ln ≤ L) (hL2 : L < 2147483648) (hκ : κ ≤ 1000000) (k : P D σ) : LpB (GB a P) (1000001 - κ) (D, nI L, nI κ, σ) := by
  rw [show 1000001 - κ = (1000000 - κ) + 1 by omega]
  refine LpB.go (fun K hK => ?_)
  unfold GB
  dsimp only
  unfold w_X3_goThrough_29
  rw [show (1000000 : Int32) = nI 1000000 from rfl]
  by_cases h : κ = 1000000
  · rw [if_pos (by rw [h]; exact Int32.le_refl _)]; exact k
  · rw [if_neg (by rw [jI_le (by decide) (by omega)]; omega), hln]
    refine ⟨hs, ?_⟩
    rw [if_pos (by rw [jI_le (by omega) (by omega)]; omega)]
    exact k
theorem c_seg {N A : Nat} {c0 : Nat → Nat} {σ0 : Sto} {ln : Nat} {P : Int32 → Sto → Prop} (hN : N ≤ 2000) (hln : gi σ0 (A + 8) 7 = nI ln) (hl60 : ln ≤ 60) : ∀ n d s e L M σ (x : LTv) κ, Lay c0 (gi σ0 (A + 9)) (gi σ0 (A + 10)) (gi σ0 (A + 11)) (gi σ0 (A + 12)) (gi σ0 (A + 13)) n d s e L M → M ≤ ln → LX N A c0 σ0 σ x → x.2.2.2.1 = 0 → κ ≤ 100 * x.2.2.1 →
    (∀ τ κ', (lvF c0 n s e x).2.2.2.1 = 0 → LX N A c0 σ0 τ (lvF c0 n s e x) → (∀ k, k < L ∨ M ≤ k → gi τ 99 k = gi σ 99 k) → κ' + 100 * x.2.2.1 ≤ κ + 100 * (lvF c0 n s e x).2.2.1 → LpB (GB (A + 8) P) (1000001 - κ') (nI (lvF c0 n s e x).2.2.1, nI M, nI κ', τ)) →
    (∀ τ, (lvF c0 n s e x).2.2.2.1 ≠ 0 → LX N A c0 σ0 τ (lvF c0 n s e x) → P (nI (lvF c0 n s e x).2.2.1) τ) → LpB (GB (A + 8) P) (1000001 - κ) (nI x.2.2.1, nI L, nI κ, σ)
  | 0, d, s, e, L, M, σ, x, κ, hl, hM, hx, hz, hκ, k, ko => by
    have hl' : s = e ∧ L = M := hl
    rw [hl'.2]
    exact k σ κ hz hx (fun _ _ => rfl) (Nat.le_refl _)
  | n + 1, d, s, e, L, M, σ, x, κ, hl, hM, hx, hz, hκ, k, ko => by
    have hle := Lay.le _ _ _ _ _ _ hl
    have hA : isCity A := by rw [← hx.2.2.2.1]; exact hx.2.1.1.1
    have hd300 := hx.2.2.2.2.2
    rcases hl with ⟨h1, h2⟩ | ⟨h1, h2, st, hl⟩
    · have hlv : lvF c0 (n + 1) s e x = x := if_pos (Or.inl (by omega))
      rw [hlv] at k ko
      rw [h2]
      exact k σ κ hz hx (fun _ _ => rfl) (Nat.le_refl _)
    have hLM := hle.2 h1
    have hlv : lvF c0 (n + 1) s e x = lvF c0 n (c0 (152 + 9 * s)) e (oneF c0 (lvF c0 n) s x) := if_neg (fun q => by rcases q with q | q <;> omega)
    rw [hlv] at k ko
    have k7 := st.1
    have hvb : vbF c0 s < 10 := by
      unfold vbF
      split
      · rename_i q5
        have := (st.2.2.2.2.1 q5).1
        omega
      · split <;> omega
    refine gb_at (v := vbF c0 s) hA.st (by rw [hx.st (a := A + 8) (by omega)]; exact hln) hl60 (by omega) (by rw [hx.st (a := A + 8 + 1) (by omega)]; exact st.2.1) (by omega) hd300 (by omega) (fun q => absurd q (by omega)) (fun _ h3 K hK => ?_) (fun _ h3 => ?_)
    · have hxi : LX N A c0 σ0 σ (incS x) := ⟨hx.1, hx.2.1, hx.2.2.1, hx.2.2.2.1, hx.2.2.2.2.1, by show x.2.2.1 + 1 ≤ 300; omega⟩
      have e33 : (incS x).2.2.1 = x.2.2.1 + 1 := rfl
      -- what comes behind the step, at the next of its rank
      have nxt : ∀ y : LTv, oneF c0 (lvF c0 n) s x = y → ∀ m κ1 τ, Lay c0 (gi σ0 (A + 9)) (gi σ0 (A + 10)) (gi σ0 (A + 11)) (gi σ0 (A + 12)) (gi σ0 (A + 13)) n d (c0 (152 + 9 * s)) e m M → L ≤ m → LX N A c0 σ0 τ y → y.2.2.2.1 = 0 → (∀ k, k < L ∨ m ≤ k → gi τ 99 k = gi σ 99 k) → κ1 + 100 * x.2.2.1 ≤ κ + 100 * y.2.2.1 → LpB (GB (A + 8) P) (1000001 - κ1) (nI y.2.2.1, nI m, nI κ1, τ) := by
        intro y hy m κ1 τ hlm hm hxt hzt h99 hc
        rw [hy] at k ko
        have hmM := (Lay.le _ _ _ _ _ _ hlm).1
        refine c_seg hN hln hl60 n d _ e m M τ y κ1 hlm hM hxt hzt (by omega) (fun υ κ2 hz2 hx2 h992 hc2 => ?_) (fun υ hz2 hx2 => ko υ hz2 hx2)
        refine k υ κ2 hz2 hx2 (fun k hk => ?_) (by omega)
        rw [h992 k (by omega)]
        exact h99 k (by omega)
      have ovr : ∀ y : LTv, oneF c0 (lvF c0 n) s x = y → ∀ τ, LX N A c0 σ0 τ y → y.2.2.2.1 ≠ 0 → P (nI y.2.2.1) τ := by
        intro y hy τ hxt hov
        rw [hy, lv_over hov] at ko
        exact ko τ hov hxt
      unfold oneF at nxt ovr
      rw [if_neg (by omega)] at nxt ovr
      have hK1 : ∀ s', LpB (GB (A + 8) P) (1000001 - (κ + 1)) s' → K s' := fun s' h => hK s' (by rw [show 1000000 - κ = 1000001 - (κ + 1) by omega]; exact h)
      by_cases k4 : c0 (144 + 9 * s) ≤ 4
      · rw [if_pos k4] at nxt
        rcases hl with ⟨nb, hs1, hlr⟩ | ⟨hb, _⟩
        · refine c_acts (x := incS x) hxi hN h2 st k4 (fun τ hxt h99 => hK1 _ ?_)
          exact nxt _ rfl (L + 1) (κ + 1) τ (by rw [hs1]; exact hlr) (by omega) hxt hz (fun k _ => h99 k) (by show κ + 1 + 100 * x.2.2.1 ≤ κ + 100 * (x.2.2.1 + 1); omega)
        · unfold blk at hb; omega
      rw [if_neg k4] at nxt ovr
      have e8 : A + 8 + 1 = A + 9 := rfl
      by_cases k5 : c0 (144 + 9 * s) = 5
      · rw [if_pos k5] at nxt ovr
        rcases hl with ⟨nb, _⟩ | ⟨hb, f1, f2, d', m, rfl, hm, hli, hV, hT, hP, hlr⟩
        · unfold blk at nb; omega
        have hL1 := (Lay.le _ _ _ _ _ _ hli).1
        have hm1 := (Lay.le _ _ _ _ _ _ hlr).1
        obtain ⟨w1, w2, w3, w4, w5⟩ := st.2.2.2.2.1 k5
        have hv7 : vbF c0 s = 7 + c0 (150 + 9 * s) := by unfold vbF; rw [if_pos k5]
        have hVL : gi σ0 (A + 9) L = nI (7 + c0 (150 + 9 * s)) := by rw [← hv7]; exact st.2.1
        have sA : ∀ i k, 8 ≤ i → i ≤ 13 → gi σ (A + i) k = gi σ0 (A + i) k := fun i k h1 h2 => hx.st (by omega)
        have e0 : x.1 0 = c0 0 := hx.2.2.1 0 (by decide) (by decide) (by decide)
        have e2 : x.1 2 = c0 2 := hx.2.2.1 2 (by decide) (by decide) (by decide)
        unfold w_X3_lineBehindStep
        refine ⟨hA.st, vp_nI h2 (by decide), ?_⟩
        rw [tn_nI (by omega), show gi σ (A + 8 + 1) L = nI (7 + c0 (150 + 9 * s)) from (sA 9 L (by decide) (by decide)).trans hVL]
        rintro _ rfl
        rintro _ rfl
        rw [N0, N1, N3, N4, show (2 : Int32) = nI 2 from rfl, show (5 : Int32) = nI 5 from rfl, show (6 : Int32) = nI 6 from rfl]
        rw [if_neg (by rw [jI_eq (by omega) (by decide)]; omega), if_neg (by rw [jI_eq (by omega) (by decide)]; omega), if_neg (by rw [jI_eq (by omega) (by decide)]; omega), if_neg (by rw [jI_eq (by omega) (by decide)]; omega), if_neg (by rw [jI_eq (by omega) (by decide)]; omega), if_neg (by rw [jI_eq (by omega) (by decide)]; omega), if_neg (by rw [jI_eq (by omega) (by decide)]; omega)]
        refine c_isSo hx.2.1.1 hx.2.1.2.1 hN (a1 := A + 8) hA.st h2 w1 ((sA 9 L (by decide) (by decide)).trans hVL) ((sA 10 L (by decide) (by decide)).trans w2) (by rw [e2]; exact w3) (by rw [e0]; exact w4) (n := c0 (146 + 9 * s)) (g := c0 (151 + 9 * s)) (fun q => ⟨(sA 11 L (by decide) (by decide)).trans (w5 q).1, (w5 q).2.1, (sA 12 L (by decide) (by decide)).trans (w5 q).2.2.1, (w5 q).2.2.2⟩) (fun τ e hw => ?_)
        have hxt : LX N A c0 σ0 τ (incS x) := by
          have f : ∀ a k, a = 97 ∨ a = 98 → gi τ a k = gi σ a k := fun a k ha => e.1 a k (by unfold S89; omega)
          obtain ⟨g1, ⟨g2, g3, g4, g5, g6, g7, g8, g9⟩, g10, g11, g12, g13⟩ := hxi
          refine ⟨g1.tr (e.mo (fun a k z => by unfold S89 at z; unfold SLr SLa; omega)), ⟨hw, g3, ?_, g5, ?_, ?_, ?_, ?_⟩, g10, by rw [e.2.2 1 11]; exact g11, ?_, g13⟩
          · rw [f 97 5 (Or.inl rfl)]; exact g4
          · rw [f 98 0 (Or.inr rfl)]; exact g6
          · rw [f 98 1 (Or.inr rfl)]; exact g7
          · rw [f 98 2 (Or.inr rfl)]; exact g8
          · rw [f 98 3 (Or.inr rfl)]; exact g9
          · rw [f 98 4 (Or.inr rfl)]; exact g12
        have t99 : ∀ k, gi τ 99 k = gi σ 99 k := fun k => e.1 99 k (by unfold S89; omega)
        cases hb : soF x.1 (c0 (150 + 9 * s)) (c0 (145 + 9 * s)) (c0 (146 + 9 * s)) (c0 (151 + 9 * s))
        · rw [hb, if_neg (by decide)] at nxt
          rw [if_pos (show bI false = nI 0 from rfl), show gi τ (A + 8 + 5) L = nI m from (hxt.st (a := A + 8 + 5) (by omega)).trans hT, jI_add]
          exact hK1 _ (nxt _ rfl (m + 1) (κ + 1) τ hlr (by omega) hxt hz (fun k _ => t99 k) (by show κ + 1 + 100 * x.2.2.1 ≤ κ + 100 * (x.2.2.1 + 1); omega))
        · rw [hb, if_pos rfl] at nxt ovr
          rw [if_neg (show ¬ bI true = nI 0 by decide), jI_add]
          refine hK1 _ (c_seg hN hln hl60 n d' (s + 1) _ (L + 1) m τ (incS x) (κ + 1) hli (by omega) hxt hz (by rw [e33]; omega) (fun υ κ2 hz2 hx2 h992 hc2 => ?_) (fun υ hz2 hx2 => ovr _ rfl υ hx2 hz2))
          rw [e33] at hc2
          have hd2 := hx2.2.2.2.2.2
          refine gb_at (v := 10) hA.st (by rw [hx2.st (a := A + 8) (by omega)]; exact hln) hl60 (by omega) (by rw [hx2.st (a := A + 8 + 1) (by omega)]; exact hV) (by omega) hd2 (by omega) (fun _ K' hK' => ?_) (fun q => absurd rfl q) (fun q => absurd rfl q)
          refine c_endW hA.st hm h2 (by rw [hx2.st (a := A + 8 + 5) (by omega)]; exact hP) (by rw [hx2.st (a := A + 8 + 1) (by omega)]; exact hVL) (by omega) (by omega) ?_
          refine hK' _ ?_
          rw [show 1000000 - κ2 = 1000001 - (κ2 + 1) by omega]
          refine nxt _ rfl (m + 1) (κ2 + 1) υ hlr (by omega) hx2 hz2 (fun k hk => ?_) (by omega)
          rw [h992 k (by omega)]
          exact t99 k
      rw [if_neg k5] at nxt ovr
      by_cases k6 : c0 (144 + 9 * s) = 6
      · rw [if_pos k6] at nxt ovr
        rcases hl with ⟨nb, _⟩ | ⟨hb, f1, f2, d', m, rfl, hm, hli, hV, hT, hP, hlr⟩
        · unfold blk at nb; omega
        have hL1 := (Lay.le _ _ _ _ _ _ hli).1
        have hm1 := (Lay.le _ _ _ _ _ _ hlr).1
        obtain ⟨u1, u2, u3⟩ := st.2.2.2.2.2 k6
        have hv6 : vbF c0 s = 6 := by unfold vbF; rw [if_neg k5, if_neg (by omega)]; exact k6
        have hVL : gi σ0 (A + 9) L = nI 6 := by rw [← hv6]; exact st.2.1
        have sA : ∀ i k, 8 ≤ i → i ≤ 13 → gi σ (A + i) k = gi σ0 (A + i) k := fun i k h1 h2 => hx.st (by omega)
        have lp : ∀ i j κj τ (y : LTv), foldN (fun y _ => lvF c0 n (s + 1) (c0 (152 + 9 * s)) y) (incS x) j = y → j + (i + 1) = c0 (145 + 9 * s) → gi τ 99 L = nI (i + 1) → LX N A c0 σ0 τ y → y.2.2.2.1 = 0 → (∀ k, k < L ∨ m ≤ k → gi τ 99 k = gi σ 99 k) → κj + 100 * x.2.2.1 + 100 ≤ κ + 1 + j + 100 * y.2.2.1 → LpB (GB (A + 8) P) (1000001 - κj) (nI y.2.2.1, nI (L + 1), nI κj, τ) := by
          intro i
          induction i with
          | zero =>
            intro j κj τ y hy hj hr hxt hzt h99 hc
            have hy2 : foldN (fun y _ => lvF c0 n (s + 1) (c0 (152 + 9 * s)) y) (incS x) (c0 (145 + 9 * s)) = lvF c0 n (s + 1) (c0 (152 + 9 * s)) y := by
              rw [← hj, ← hy]; rfl
            refine c_seg hN hln hl60 n d' (s + 1) _ (L + 1) m τ y κj hli (by omega) hxt hzt (by omega) (fun υ κ2 hz2 hx2 h992 hc2 => ?_) (fun υ hz2 hx2 => ovr _ hy2 υ hx2 hz2)
            have hd2 := hx2.2.2.2.2.2
            refine gb_at (v := 10) hA.st (by rw [hx2.st (a := A + 8) (by omega)]; exact hln) hl60 (by omega) (by rw [hx2.st (a := A + 8 + 1) (by omega)]; exact hV) (by omega) hd2 (by omega) (fun _ K' hK' => ?_) (fun q => absurd rfl q) (fun q => absurd rfl q)
            refine c_endL (w := 0) hA.st hm h2 (by rw [hx2.st (a := A + 8 + 5) (by omega)]; exact hP) (by rw [hx2.st (a := A + 8 + 1) (by omega)]; exact hVL) (by decide) (by rw [h992 L (by omega)]; exact hr) (fun _ => hK' _ ?_) (fun q => absurd q (by decide))
            rw [show 1000000 - κ2 = 1000001 - (κ2 + 1) by omega]
            refine nxt _ hy2 (m + 1) (κ2 + 1) _ hlr (by omega) hx2.ro hz2 (fun k hk => ?_) (by omega)
            rw [gi_si_k (by omega), h992 k (by omega)]
            exact h99 k (by omega)
          | succ i ih =>
            intro j κj τ y hy hj hr hxt hzt h99 hc
            have hy2 : foldN (fun y _ => lvF c0 n (s + 1) (c0 (152 + 9 * s)) y) (incS x) (j + 1) = lvF c0 n (s + 1) (c0 (152 + 9 * s)) y := by
              rw [← hy]; rfl
            refine c_seg hN hln hl60 n d' (s + 1) _ (L + 1) m τ y κj hli (by omega) hxt hzt (by omega) (fun υ κ2 hz2 hx2 h992 hc2 => ?_) (fun υ hz2 hx2 => ?_)
            · have hd2 := hx2.2.2.2.2.2
              refine gb_at (v := 10) hA.st (by rw [hx2.st (a := A + 8) (by omega)]; exact hln) hl60 (by omega) (by rw [hx2.st (a := A + 8 + 1) (by omega)]; exact hV) (by omega) hd2 (by omega) (fun _ K' hK' => ?_) (fun q => absurd rfl q) (fun q => absurd rfl q)
              refine c_endL (w := i + 1) hA.st hm h2 (by rw [hx2.st (a := A + 8 + 5) (by omega)]; exact hP) (by rw [hx2.st (a := A + 8 + 1) (by omega)]; exact hVL) (by omega) (by rw [h992 L (by omega)]; exact hr) (fun q => absurd q (by omega)) (fun _ => hK' _ ?_)
              rw [show 1000000 - κ2 = 1000001 - (κ2 + 1) by omega]
              refine ih (j + 1) (κ2 + 1) _ _ hy2 (by omega) gi_si_s hx2.ro hz2 (fun k hk => ?_) (by omega)
              rw [gi_si_k (by omega), h992 k (by omega)]
              exact h99 k (by omega)
            · refine ovr _ ?_ υ hx2 hz2
              rw [← hy2] at hz2 ⊢
              rw [show c0 (145 + 9 * s) = (j + 1) + (i + 1) by omega]
              exact fold_over (fun y hy => lv_over hy) hz2 (i + 1)
        unfold w_X3_lineBehindStep
        refine ⟨hA.st, vp_nI h2 (by decide), ?_⟩
        rw [tn_nI (by omega), show gi σ (A + 8 + 1) L = nI 6 from (sA 9 L (by decide) (by decide)).trans hVL, show gi σ (A + 8 + 4) L = nI (c0 (145 + 9 * s)) from (sA 12 L (by decide) (by decide)).trans u1]
        rintro _ rfl
        rintro _ rfl
        rw [N0, N1, N3, N4, show (2 : Int32) = nI 2 from rfl, show (5 : Int32) = nI 5 from rfl, show (6 : Int32) = nI 6 from rfl]
        rw [if_neg (by decide), if_neg (by decide), if_neg (by decide), if_neg (by decide), if_neg (by decide), if_neg (by decide), if_pos rfl, jI_add]
        refine hK1 _ (lp (c0 (145 + 9 * s) - 1) 0 (κ + 1) _ (incS x) rfl (by omega) ?_ hxi.ro hz (fun k hk => ?_) ?_)
        · rw [gi_si_s, show c0 (145 + 9 * s) - 1 + 1 = c0 (145 + 9 * s) by omega]
        · rw [gi_si_k (by omega)]
        · rw [e33]; omega
      · rw [if_neg k6] at nxt ovr
        have hv5 : vbF c0 s = 5 := by unfold vbF; rw [if_neg k5, if_pos (by omega)]
        have hVL : gi σ0 (A + 9) L = nI 5 := by rw [← hv5]; exact st.2.1
        have sA : ∀ i k, 8 ≤ i → i ≤ 13 → gi σ (A + i) k = gi σ0 (A + i) k := fun i k h1 h2 => hx.st (by omega)
        unfold w_X3_lineBehindStep
        refine ⟨hA.st, vp_nI h2 (by decide), ?_⟩
        rw [tn_nI (by omega), show gi σ (A + 8 + 1) L = nI 5 from (sA 9 L (by decide) (by decide)).trans hVL, show gi σ (A + 8) 7 = nI ln from (sA 8 7 (by decide) (by decide)).trans hln]
        rintro _ rfl
        rintro _ rfl
        rw [N0, N1, N3, N4, show (2 : Int32) = nI 2 from rfl, show (5 : Int32) = nI 5 from rfl]
        rw [if_neg (by decide), if_neg (by decide), if_neg (by decide), if_neg (by decide), if_neg (by decide), if_pos rfl]
        refine hK1 _ (gb_end hA.st (by rw [hx.st (a := A + 8) (by omega)]; exact hln) hl60 (Nat.le_refl _) (by omega) (by omega) ?_)
        exact ovr _ rfl σ ⟨hx.1, hx.2.1, hx.2.2.1, hx.2.2.2.1, hx.2.2.2.2.1, by show x.2.2.1 + 1 ≤ 300; omega⟩ Nat.one_ne_zero
    · have ho : oneF c0 (lvF c0 n) s x = (x.1, x.2.1, 300, 1, 1) := if_pos h3
      rw [ho, lv_over Nat.one_ne_zero] at ko
      rw [h3]
      refine ko _ Nat.one_ne_zero ⟨hx.1.tr (Eo.si (by unfold SLr; omega)), hx.2.1.fr (Eo.si (Or.inr ⟨rfl, rfl⟩)), hx.2.2.1, by rw [gr_si]; exact hx.2.2.2.1, gi_si_s, Nat.le_refl _⟩
