/-! ===== promise 47: sure; the model ===== -/
def S115 (a _ : Nat) : Prop := a = 115
theorem S115m {a k : Nat} (h : S115 a k) : SM a k := by unfold S115 at h; unfold SM; omega
theorem oI_neg {m : Nat} (hm : m < 2147483648) : oI m < 0 ↔ m = 0 := by
  cases m with
  | zero => exact ⟨fun _ => rfl, fun _ => by decide⟩
  | succ m => exact ⟨fun q => absurd q (jI_neg (by omega)), fun q => absurd q (by omega)⟩
theorem m_look_in {σ : Sto} {c : Nat → Nat} {P : Int32 → Sto → Prop} (h : MR σ c) (ok : OK c) {fb : Nat → Nat} {s set : Nat} (hs : s < 4096) (h1s : 1 ≤ s) (hg : ∀ x, x < c 0 → gi σ 114 x = nI (fb x))
    (hr : ∀ r, 1 ≤ r → r < s → sub r s → gi σ 115 r = oI (LK (c 0) fb r)) (hsv : gi σ 115 s = oI (if card s = 1 then 1 else 0)) {K2 : Int32 × Sto → Prop}
    (k : ∀ τ, Eo (fun a k => a = 115 ∧ k = s) σ τ → gi τ 115 s = oI (LK (c 0) fb s) → K2 (nI (s + 1), τ)) :
    Lp (fun (K : Int32 × Sto → Prop) q => w_X12_looksFor_39 K2 K (nI set) (nI s) q.1 q.2 P) (0, σ) := by
  have := ok.n0
  have heq := LK_eq2 (n := c 0) (fb := fb) hs
  refine Lp_for (c 0) (fun i q => q.1 = nI i ∧ Eo (fun a k => a = 115 ∧ k = s) σ q.2 ∧ gi q.2 115 s = oI (foldN (lkS fb (LK (c 0) fb) s) (if card s = 1 then 1 else 0) i)) ⟨rfl, Eo.rf, hsv⟩ ?_ ?_
  · rintro i hi K ⟨x3, τ⟩ ⟨r3, e, hv⟩ hK
    dsimp only at r3 e hv hK ⊢
    subst r3
    have hn : ¬ c 0 ≤ i := by omega
    have hm := h.sm (e.mo (T := SM) (fun a k q => S115m q.1))
    have hst : foldN (lkS fb (LK (c 0) fb) s) (if card s = 1 then 1 else 0) (i + 1) = lkS fb (LK (c 0) fb) s (foldN (lkS fb (LK (c 0) fb) s) (if card s = 1 then 1 else 0) i) i := rfl
    rw [hst] at hK
    have hbd : foldN (lkS fb (LK (c 0) fb) s) (if card s = 1 then 1 else 0) i < 2000 := foldN_inv (f := lkS fb (LK (c 0) fb) s) (fun _ b => b < 2000) (by split <;> decide) (fun x b hb => by
      unfold lkS
      have i1 := LK_le (n := c 0) (fb := fb) (s := s &&& fb x) (and_12 hs)
      have i2 := LK_le (n := c 0) (fb := fb) (s := sd s (s &&& fb x)) (sd_12' hs)
      have hm : Nat.max (LK (c 0) fb (s &&& fb x)) (LK (c 0) fb (sd s (s &&& fb x))) < 1000 := by show max _ _ < _; omega
      split
      · exact hb
      · split
        · omega
        · exact Nat.lt_of_le_of_lt (Nat.min_le_right _ _) hb) i
    generalize foldN (lkS fb (LK (c 0) fb) s) (if card s = 1 then 1 else 0) i = b at hv hK hbd
    unfold w_X12_looksFor_39
    rw [hm 0 (by decide), if_neg (by rw [jI_le (by omega) (by omega)]; exact hn)]
    refine ⟨vp_nI (by omega) (by decide), ?_⟩
    rw [tn_nI (by omega), e.1 114 i (by omega), hg i hi, jI_and]
    rintro x4 rfl
    have hf := and_12 (b := fb i) hs
    have hfs0 := sub_le (and_sub (a := s) (b := fb i))
    unfold lkS at hK
    rw [N0, N1]
    simp only [jI_add]
    by_cases hf0 : s &&& fb i = 0
    · rw [if_pos (Or.inl hf0)] at hK
      rw [if_pos (by rw [hf0])]
      rintro x rfl
      exact hK _ ⟨rfl, e, hv⟩
    rw [if_neg (by rw [jI_eq (by omega) (by omega)]; exact hf0)]
    by_cases hfs : s &&& fb i = s
    · rw [if_pos (Or.inr (Or.inl hfs))] at hK
      rw [if_pos (by rw [hfs])]
      rintro x rfl
      exact hK _ ⟨rfl, e, hv⟩
    rw [if_neg (by rw [jI_eq (by omega) (by omega)]; exact hfs)]
    have hr0 := sub_le (sub_sd (a := s) (b := s &&& fb i))
    have hrs := sd_ne (and_sub (a := s) (b := fb i)) hf0
    have hrz := sd_ne0 (and_sub (a := s) (b := fb i)) hfs
    have g1 : gi τ 115 (s &&& fb i) = oI (LK (c 0) fb (s &&& fb i)) := by rw [e.1 115 _ (by omega)]; exact hr _ (by omega) (by omega) and_sub
    have g2 : gi τ 115 (sd s (s &&& fb i)) = oI (LK (c 0) fb (sd s (s &&& fb i))) := by rw [e.1 115 _ (by omega)]; exact hr _ (by omega) (by omega) sub_sd
    have l1 := LK_le (n := c 0) (fb := fb) hf
    have l2 := LK_le (n := c 0) (fb := fb) (sd_12' (b := s &&& fb i) hs)
    rw [jI_andn]
    simp (disch := omega) only [tn_nI, hv, g1, g2]
    refine ⟨vp_nI hf (by decide), ?_⟩
    generalize LK (c 0) fb (s &&& fb i) = u at hK l1 ⊢
    generalize LK (c 0) fb (sd s (s &&& fb i)) = v at hK l2 ⊢
    cases u with
    | zero =>
      rw [if_pos (Or.inr (Or.inr (Or.inl rfl)))] at hK
      rw [if_pos (by decide)]
      rintro x rfl
      exact hK _ ⟨rfl, e, hv⟩
    | succ u =>
      rw [if_neg (show ¬ oI (u + 1) < nI 0 from jI_neg (by omega))]
      refine ⟨vp_nI (by omega) (by decide), ?_⟩
      cases v with
      | zero =>
        rw [if_pos (Or.inr (Or.inr (Or.inr rfl)))] at hK
        rw [if_neg (by decide)]
        rintro x rfl
        exact hK _ ⟨rfl, e, hv⟩
      | succ v =>
        have m1 : Nat.max (u + 1) (v + 1) = Nat.max u v + 1 := by show max _ _ = max _ _ + 1; omega
        have m2 : Nat.max u v < 1000 := by show max _ _ < _; omega
        rw [if_neg (by omega), m1] at hK
        rw [if_pos (show nI 0 ≤ oI (v + 1) from (oI_ge (m := v + 1) (by omega)).mpr (by omega))]
        rw [show oI (u + 1) = nI u from rfl, show oI (v + 1) = nI v from rfl, jI_max (by omega) (by omega)]
        generalize Nat.max u v = w at hK m2 ⊢
        rintro x5 rfl
        refine ⟨vp_nI hs (by decide), ?_⟩
        cases b with
        | zero =>
          rw [if_pos rfl] at hK
          rw [if_neg (by decide)]
          rintro x rfl
          rw [jI_add]
          exact hK _ ⟨rfl, e.tr (Eo.si ⟨rfl, rfl⟩), gi_si_s⟩
        | succ b =>
          rw [if_neg (by omega)] at hK
          rw [if_pos (show nI 0 ≤ oI (b + 1) from (oI_ge (m := b + 1) (by omega)).mpr (by omega))]
          rintro x rfl
          rw [jI_add, show oI (b + 1) = nI b from rfl, jI_min (by omega) (by omega)]
          refine hK _ ⟨rfl, e.tr (Eo.si ⟨rfl, rfl⟩), ?_⟩
          dsimp only
          rw [gi_si_s]
          have : Nat.min (1 + (w + 1)) (b + 1) = Nat.min (1 + w) b + 1 := by show min _ _ = min _ _ + 1; omega
          rw [this]
          rfl
  · rintro K ⟨x3, τ⟩ ⟨r3, e, hv⟩
    dsimp only at r3 e hv ⊢
    subst r3
    have hm := h.sm (e.mo (T := SM) (fun a k q => S115m q.1))
    unfold w_X12_looksFor_39
    rw [hm 0 (by decide), if_pos (by rw [jI_le (by omega) (by omega)]; exact Nat.le_refl _), N1, jI_add]
    rintro x rfl
    exact k τ e (by rw [hv, heq])
theorem m_looksFor {σ : Sto} {c : Nat → Nat} {P : Int32 → Sto → Prop} (h : MR σ c) (ok : OK c) {fb : Nat → Nat} {set : Nat} (hset : set < 4096) (h1 : 1 ≤ set) (hg : ∀ x, x < c 0 → gi σ 114 x = nI (fb x)) (k : ∀ τ, Eo S115 σ τ → P (oI (LK (c 0) fb set)) τ) : w_X12_looksFor (nI set) σ P := by
  have := ok.n0
  unfold w_X12_looksFor
  refine Lp_for set (fun j q => q.1 = nI (j + 1) ∧ Eo S115 σ q.2 ∧ ∀ r, 1 ≤ r → r ≤ j → sub r set → gi q.2 115 r = oI (LK (c 0) fb r)) ⟨rfl, Eo.rf, fun r a b => absurd a (by omega)⟩ ?_ ?_
  · rintro j hj K ⟨x2, τ⟩ ⟨r2, e, hr⟩ hK
    dsimp only at r2 e hr hK ⊢
    subst r2
    have hs : j + 1 < 4096 := by omega
    have hm := h.sm (e.mo (fun _ _ => S115m))
    have hsd := sd_12' (b := set) hs
    unfold w_X12_looksFor_2
    rw [if_neg (by rw [jI_lt (by omega) (by omega)]; omega), jI_andn, N0, N1]
    by_cases hd : sd (j + 1) set = 0
    · rw [if_pos (by rw [hd])]
      have hsub := sd_zero.mp hd
      refine t_sizeOf12 hs ?_
      have hcs := card_le (a := j + 1)
      have go : ∀ v, v = oI (if card (j + 1) = 1 then 1 else 0) → Lp (fun (K' : Int32 × Sto → Prop) q => w_X12_looksFor_39 K K' (nI set) (nI (j + 1)) q.1 q.2 P) (0, si τ 115 (j + 1) v) := fun v hv => by
        have e2 : Eo S115 τ (si τ 115 (j + 1) v) := Eo.si rfl
        refine m_look_in (hm.sm (e2.mo (fun _ _ => S115m))) ok (fb := fb) hs (by omega) (fun x hx => ?_) (fun r a b q => ?_) (by rw [gi_si_s]; exact hv) (fun υ e3 hv3 => hK _ ⟨rfl, (e.tr e2).tr (e3.mo (fun a k q => q.1)), fun r a b q => ?_⟩)
        · rw [gi_si_a (by decide), e.1 114 x (by unfold S115; decide)]; exact hg x hx
        · rw [gi_si_k (by omega)]; exact hr r a (by omega) (q.tr hsub)
        · dsimp only
          by_cases hrj : r = j + 1
          · rw [hrj]; exact hv3
          · rw [e3.1 115 r (by omega), gi_si_k hrj]; exact hr r a (by omega) q
      simp (disch := omega) only [tn_nI]
      by_cases hc : card (j + 1) = 1
      · rw [if_pos (by rw [hc])]
        exact ⟨vp_nI hs (by decide), go _ (by rw [if_pos hc]; rfl)⟩
      · rw [if_neg (by rw [jI_eq (by omega) (by omega)]; exact hc)]
        exact ⟨vp_nI hs (by decide), go _ (by rw [if_neg hc]; rfl)⟩
    · rw [if_neg (by rw [jI_eq (by omega) (by omega)]; exact hd)]
      rintro x rfl
      rw [jI_add]
      refine hK _ ⟨rfl, e, fun r a b q => ?_⟩
      by_cases hrj : r = j + 1
      · rw [hrj] at q; exact absurd (sd_zero.mpr q) hd
      · exact hr r a (by omega) q
  · rintro K ⟨x2, τ⟩ ⟨r2, e, hr⟩
    dsimp only at r2 e hr ⊢
    subst r2
    unfold w_X12_looksFor_2
    rw [if_pos (by rw [jI_lt (by omega) (by omega)]; omega)]
    refine ⟨vp_nI hset (by decide), ?_⟩
    rw [tn_nI (by omega), hr set h1 (Nat.le_refl _) sub.rf]
    exact k τ e
theorem m_sure {σ : Sto} {c : Nat → Nat} {P : Int32 → Sto → Prop} (h : MR σ c) (ok : OK c) {x : Int32} (k : ∀ τ, Eo SM σ τ → gi τ 101 0 = (sureA c x).2 → P (sureA c x).1 τ) : w_X12_sure x σ P := by
  have := ok.n0
  have := pw12 ok
  have hs : MR (si (si σ 101 1 0) 101 0 0) c := h.sm sm10
  have hst0 : gi (si (si σ 101 1 0) 101 0 0) 101 0 = 0 := gi_si_s
  have he : Eo SM σ (si (si σ 101 1 0) 101 0 0) := sm10
  unfold sureA at k
  unfold w_X12_sure
  generalize si (si σ 101 1 0) 101 0 0 = τ at hs hst0 he ⊢
  have bad : (∀ t, t < 2 ^ c 0 → x = nI t → ¬ susp c 1 t) → w_X12_sure_33 τ P := fun hn => by
    rw [suspA_neg ok hn] at k
    exact k _ (he.tr sm0) gi_si_s
  refine t_isSet hs ok (fun hx => ?_) (fun hx => ?_)
  · rw [if_neg (by decide)]
    obtain ⟨t, ht, rfl⟩ := hx
    have hct := card_le (a := t)
    have uni : ∀ t', t' < 2 ^ c 0 → nI t = nI t' → t' = t := fun t' h1 h2 => ((jI_eq (by omega) (by omega)).mp h2).symm
    by_cases h0 : t = 0
    · rw [h0] at bad ⊢
      rw [if_pos (show nI 0 = 0 from rfl)]
      exact bad (fun t' h1 h2 q => by rw [uni t' h1 (by rw [h0]; exact h2), h0] at q; have := q.1; rw [card_0] at this; omega)
    · rw [if_neg (by rw [N0, jI_eq (by omega) (by omega)]; exact h0)]
      refine t_now hs ok ?_
      have h2 := sd_12' (a := t) (b := nowF c) (by omega)
      rw [jI_andn, N0]
      by_cases hd : sd t (nowF c) = 0
      · rw [suspA_pos ok ht ⟨card_pos (by omega) h0, hd⟩] at k
        rw [if_pos (by rw [hd])]
        refine m_laysFalls hs ok (fun υ e2 hs2 hg => ?_)
        have he2 : Eo SM σ υ := he.tr (e2.mo (fun _ _ => S114m))
        have hst2 : gi υ 101 0 = 0 := by rw [e2.1 101 0 (by unfold S114; decide)]; exact hst0
        refine m_looksFor hs2 ok (by omega) (by omega) hg (fun φ e3 => ?_)
        have hle := LK_le (n := c 0) (fb := felF c t) (s := t) (by omega)
        exact m_or2 (m := sureF c t) (by unfold sureF; omega) (he2.tr (e3.mo (fun _ _ => S115m))) (by rw [e3.1 101 0 (by unfold S115; decide)]; exact hst2) k
      · rw [if_neg (by rw [jI_eq (by omega) (by decide)]; exact hd)]
        exact bad (fun t' h1 h2 q => by rw [uni t' h1 h2] at q; exact hd q.2)
  · rw [if_pos rfl]
    exact bad (fun t h1 h2 => absurd ⟨t, h1, h2⟩ hx)
