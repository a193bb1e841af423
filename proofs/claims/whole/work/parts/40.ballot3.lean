/-! ===== the class's count ===== -/
theorem fav_in {c : Nat → Nat} {set v b : Nat} (hf : favF c set v = b + 1) : set.testBit b = true := by
  refine Classical.byContradiction (fun hq => ?_)
  have hI : ∀ n, (foldN (favS c set v) (0, 0) n).1 ≠ b + 1 := fun n => foldN_inv (f := favS c set v) (a := (0, 0)) (fun _ p => p.1 ≠ b + 1) (by simp) (fun k p hp => by
    unfold favS; split
    · rename_i hh
      intro e5
      have : k = b := by simpa using e5
      subst this
      simp at hh
      exact hq hh.1
    · exact hp) n
  exact hI _ hf
theorem counts_out {c : Nat → Nat} {set t : Nat} (h : set.testBit t = false) : countsF c set t = 0 := by
  have : ∀ n, cntF c set n t = 0 := fun n => foldN_inv (f := fun s v => if favF c set v = t + 1 then s + 1 else s) (a := 0) (fun _ s => s = 0) rfl (fun v s hs => by
    rw [if_neg (fun e => by rw [fav_in e] at h; cases h)]
    exact hs) n
  exact this _
theorem hold_zero {s : Nat} {cnt : Nat → Nat} {n : Nat} : (foldN (holdS s cnt) (0, 0) n).1 = 0 → (foldN (holdS s cnt) (0, 0) n).2 = 0 :=
  foldN_inv (f := holdS s cnt) (a := (0, 0)) (fun _ p => p.1 = 0 → p.2 = 0) (fun _ => rfl) (fun k p hp => by
    unfold holdS; split
    · intro e; exact absurd e (Nat.succ_ne_zero _)
    · exact hp) n
theorem hold_bit {s : Nat} {cnt : Nat → Nat} {n : Nat} : (foldN (holdS s cnt) (0, 0) n).2 ≠ 0 → s.testBit ((foldN (holdS s cnt) (0, 0) n).2 - 1) = true :=
  foldN_inv (f := holdS s cnt) (a := (0, 0)) (fun _ p => p.2 ≠ 0 → s.testBit (p.2 - 1) = true) (fun h => absurd rfl h) (fun k p hp => by
    unfold holdS; split
    · rename_i hh
      simp at hh
      dsimp only
      split
      · intro _; exact hh.1
      · rename_i h2
        intro h3
        exact hp h3
    · exact hp) n
theorem hold_upd {s : Nat} {cnt got : Nat → Nat} : ∀ n, foldN (holdS s (updF s cnt got)) (0, 0) n = foldN (holdS s cnt) (0, 0) n
  | 0 => rfl
  | n + 1 => by
    show holdS s (updF s cnt got) (foldN (holdS s (updF s cnt got)) (0, 0) n) n = holdS s cnt (foldN (holdS s cnt) (0, 0) n) n
    rw [hold_upd n]
    have hb := hold_bit (s := s) (cnt := cnt) (n := n)
    generalize foldN (holdS s cnt) (0, 0) n = p at hb ⊢
    unfold holdS
    cases hs : s.testBit n
    · rfl
    · have e1 : updF s cnt got n = cnt n := by simp [updF, hs]
      rw [e1]
      by_cases h0 : p.2 = 0
      · simp [h0]
      · have e2 : updF s cnt got (p.2 - 1) = cnt (p.2 - 1) := by simp [updF, hb h0]
        rw [e2]
theorem hold_most {s : Nat} {cnt : Nat → Nat} : ∀ n, (foldN (holdS s cnt) (0, 0) n).1 ≤ 1 → foldN (mostS (fun t => if s.testBit t then cnt t else 0)) 0 n = (foldN (holdS s cnt) (0, 0) n).2
  | 0, _ => rfl
  | n + 1, h => by
    have hz := hold_zero (s := s) (cnt := cnt) (n := n)
    have ih := hold_most (s := s) (cnt := cnt) n
    show mostS (fun t => if s.testBit t then cnt t else 0) (foldN (mostS (fun t => if s.testBit t then cnt t else 0)) 0 n) n = (holdS s cnt (foldN (holdS s cnt) (0, 0) n) n).2
    have h' : (holdS s cnt (foldN (holdS s cnt) (0, 0) n) n).1 ≤ 1 := h
    generalize foldN (holdS s cnt) (0, 0) n = p at h' ih hz ⊢
    unfold holdS at h' ⊢
    cases hs : s.testBit n
    · simp only [hs, Bool.false_and, Bool.false_eq_true, ↓reduceIte] at h' ⊢
      rw [ih h']
      simp [mostS, hs]
    · by_cases hc : 0 < cnt n
      · simp only [hs, hc, decide_true, Bool.and_true, ↓reduceIte] at h' ⊢
        have hp0 : p.1 = 0 := by omega
        have hp2 := hz hp0
        rw [ih (by omega), hp2]
        simp [mostS, hs, hc]
      · simp only [hs, hc, decide_false, Bool.and_false, Bool.false_eq_true, ↓reduceIte] at h' ⊢
        rw [ih h']
        simp [mostS, hs, hc]
theorem sk_none {v : Nat} (h : v < 2147483648) : decide (nI v = -1) = false := by simp [jI_none h]
theorem cntB_m1 {c : Nat → Nat} (ok : OK c) {set t : Nat} : cntB c (fun v => decide (nI v = -1)) set (c 3) t = countsF c set t := by
  have := ok.n3
  exact cntB_none (fun v hv => sk_none (by omega))
theorem card_zero {s : Nat} (h : s < 4096) (hc : card s ≤ 0) : s = 0 := by
  refine Classical.byContradiction (fun hn => ?_)
  have := card_lt (a := 0) (b := s) (fun k hk => by simp at hk) h (fun e => hn e.symm)
  omega
theorem upd_le {c : Nat → Nat} (ok : OK c) {s : Nat} {got : Nat → Nat} (hb : ∀ t, got t ≤ 6) (t : Nat) : updF s (countsF c s) got t ≤ 6 := by
  unfold updF; split
  · exact cnt_le ok
  · exact hb t
theorem l2F_stop {c : Nat → Nat} {n s : Nat} {got : Nat → Nat} (h : (holdF c s (countsF c s)).1 ≤ 1) : l2F c (n + 1) s got = ((holdF c s (countsF c s)).2, updF s (countsF c s) got) := by
  show (if _ then _ else _) = _
  rw [if_pos (by omega)]
theorem l2F_go {c : Nat → Nat} {n s f : Nat} {got : Nat → Nat} (h : ¬ (holdF c s (countsF c s)).1 ≤ 1) (hf : (holdF c s (countsF c s)).2 = f + 1) : l2F c (n + 1) s got = l2F c n (sd s (2 ^ f)) (updF s (countsF c s) got) := by
  show (if _ then _ else _) = _
  rw [if_neg (by omega), hf, Nat.add_sub_cancel]
theorem t_count_fin {σ : Sto} {c : Nat → Nat} {P : Int32 → Sto → Prop} (h : BC σ c) (ok : OK c) {s : Nat} {got : Nat → Nat} (hb : ∀ t, got t ≤ 6) (hg : ∀ t, t < c 0 → gi σ 92 t = nI (updF s (countsF c s) got t)) (hm : (holdF c s (countsF c s)).1 ≤ 1) (k : P (oI (holdF c s (countsF c s)).2) σ) : w_X0_count_128 (nI s) σ P := by
  refine t_most h ok (got := updF s (countsF c s) got) (fun t _ => Nat.le_trans (upd_le ok hb t) (by decide)) hg ?_
  have e1 : (fun t => if s.testBit t then updF s (countsF c s) got t else 0) = (fun t => if s.testBit t then countsF c s t else 0) := by
    funext t
    unfold updF
    split <;> rfl
  have e2 : mostF c (fun t => if s.testBit t then countsF c s t else 0) = (holdF c s (countsF c s)).2 := hold_most (c 0) hm
  rw [e1, e2]
  exact k
def cIn (c : Nat → Nat) (σ : Sto) (R : Nat × (Nat → Nat)) (j : Nat) (q : Int32 × Int32 × Int32 × Sto) : Prop :=
  ∃ (s' : Nat) (got' : Nat → Nat), s' < 2 ^ c 0 ∧ card s' + j ≤ 12 ∧ (∀ t, got' t ≤ 6) ∧ q.1 = nI s' ∧ q.2.1 = oI (if (holdF c s' (countsF c s')).1 ≤ 1 then 0 else (holdF c s' (countsF c s')).2) ∧ q.2.2.1 = nI j ∧ Eo S92 σ q.2.2.2 ∧ (∀ t, t < c 0 → gi q.2.2.2 92 t = nI (updF s' (countsF c s') got' t)) ∧ l2F c (13 - j) s' got' = R
theorem t_count_step {σ : Sto} {c : Nat → Nat} {P : Int32 → Sto → Prop} (h : BC σ c) (ok : OK c) {R : Nat × (Nat → Nat)} (k : ∀ τ, Eo S92 σ τ → (∀ t, t < c 0 → gi τ 92 t = nI (R.2 t)) → P (oI R.1) τ) (j : Nat) (hj : j < 12) (K : Int32 × Int32 × Int32 × Sto → Prop) (q : Int32 × Int32 × Int32 × Sto) (hI : cIn c σ R j q) (hK : ∀ q', cIn c σ R (j + 1) q' → K q') : w_X0_count_87 K q.1 q.2.1 q.2.2.1 q.2.2.2 P := by
  have := ok.n0
  obtain ⟨x3, x4, x5, τ⟩ := q
  obtain ⟨s', got', hs', hca, hb, r3, r4, r5, e, hg', hl⟩ := hI
  dsimp only at r3 r4 r5 e hg' ⊢
  subst r3 r4 r5
  unfold w_X0_count_87
  have hn : ¬ 12 ≤ j := by omega
  rw [if_neg (by rw [show (12 : Int32) = nI 12 from rfl, jI_le (by decide) (by omega)]; exact hn)]
  have hj13 : 13 - j = (12 - j) + 1 := by omega
  rw [hj13] at hl
  by_cases hm : (holdF c s' (countsF c s')).1 ≤ 1
  · rw [if_pos (by rw [if_pos hm]; rfl)]
    rw [l2F_stop hm] at hl
    subst hl
    exact t_count_fin (h.eo e NoC92) ok hb hg' hm (k τ e hg')
  · have hfl : (holdF c s' (countsF c s')).2 ≤ c 0 := holdF_le.2
    have hpos : 0 < (holdF c s' (countsF c s')).2 := holdF_pos (show 0 < (holdF c s' (countsF c s')).1 by omega)
    have hbit : s'.testBit ((holdF c s' (countsF c s')).2 - 1) = true := hold_bit (show (holdF c s' (countsF c s')).2 ≠ 0 by omega)
    obtain ⟨f, hf⟩ : ∃ f, (holdF c s' (countsF c s')).2 = f + 1 := ⟨(holdF c s' (countsF c s')).2 - 1, by omega⟩
    rw [l2F_go hm hf] at hl
    rw [if_neg hm]
    rw [hf] at hfl hbit ⊢
    rw [Nat.add_sub_cancel] at hbit
    rw [show oI (f + 1) = nI f from rfl, if_neg (jI_none (by omega))]
    have e2 : nI s' &&& ~~~((1 : Int32) <<< (nI f &&& 31)) = nI (sd s' (2 ^ f)) := by
      rw [jI_31 (by omega), show (1 : Int32) = nI 1 from rfl, jI_shl (by omega), Nat.one_shiftLeft, jI_andn]
    rintro x3 rfl
    rw [e2]
    have hlt : sd s' (2 ^ f) < 2 ^ c 0 := sub_lt sub_sd hs'
    have hcard : card (sd s' (2 ^ f)) < card s' := card_lt sub_sd (p12 hs' ok.n0) (fun e5 => by
      have : (sd s' (2 ^ f)).testBit f = false := by rw [sd_bit, two_bit]; simp
      rw [e5, hbit] at this; cases this)
    refine t_castOne (h.eo e NoC92) ok hg' (fun υ e3 hυ => ?_)
    have hυ2 : ∀ t, t < c 0 → gi υ 92 t = nI (updF (sd s' (2 ^ f)) (countsF c (sd s' (2 ^ f))) (updF s' (countsF c s') got') t) := fun t ht => by
      rw [hυ t ht, cntB_m1 ok]
      rfl
    refine t_lastOfFewest ((h.eo e NoC92).eo e3 NoC92) ok (got := updF (sd s' (2 ^ f)) (countsF c (sd s' (2 ^ f))) (updF s' (countsF c s') got')) (fun t _ => Nat.le_trans (upd_le ok (upd_le ok hb) t) (by decide)) hυ2 ?_
    rw [show holdF c (sd s' (2 ^ f)) (updF (sd s' (2 ^ f)) (countsF c (sd s' (2 ^ f))) (updF s' (countsF c s') got')) = holdF c (sd s' (2 ^ f)) (countsF c (sd s' (2 ^ f))) from hold_upd (c 0)]
    rintro x5 rfl
    refine hK _ ⟨sd s' (2 ^ f), updF s' (countsF c s') got', hlt, by omega, upd_le ok hb, rfl, rfl, jI_add, e.tr e3, hυ2, ?_⟩
    rw [show 13 - (j + 1) = 12 - j by omega]
    exact hl
theorem hold_0 {c : Nat → Nat} : holdF c 0 (countsF c 0) = (0, 0) := foldN_inv (f := holdS 0 (countsF c 0)) (a := (0, 0)) (fun _ p => p = (0, 0)) rfl (fun k p hp => by simp [holdS, hp]) (c 0)
theorem t_count2 {σ : Sto} {c : Nat → Nat} {P : Int32 → Sto → Prop} (h : BC σ c) (ok : OK c) {s : Nat} {got : Nat → Nat} (hs : s < 2 ^ c 0) (hgb : ∀ t, got t ≤ 6) (hg : ∀ t, t < c 0 → gi σ 92 t = nI (updF s (countsF c s) got t))
    {R : Nat × (Nat → Nat)} (hR : l2F c 13 s got = R) (k : ∀ τ, Eo S92 σ τ → (∀ t, t < c 0 → gi τ 92 t = nI (R.2 t)) → P (oI R.1) τ) :
    Lp (fun (K : Int32 × Int32 × Int32 × Sto → Prop) q => w_X0_count_87 K q.1 q.2.1 q.2.2.1 q.2.2.2 P) (nI s, oI (if (holdF c s (countsF c s)).1 ≤ 1 then 0 else (holdF c s (countsF c s)).2), 0, σ) := by
  refine Lp_for 12 (cIn c σ R) ⟨s, got, hs, by have := card_le (a := s); omega, hgb, rfl, rfl, rfl, Eo.rf, hg, hR⟩ (t_count_step h ok k) ?_
  rintro K ⟨x3, x4, x5, τ⟩ ⟨s', got', hs', hca, hb, r3, r4, r5, e, hg', hl⟩
  dsimp only at r3 r4 r5 e hg' ⊢
  subst r3 r4 r5
  unfold w_X0_count_87
  rw [if_pos (by decide)]
  have h0 := card_zero (p12 hs' ok.n0) (by omega)
  subst h0
  have hm : (holdF c 0 (countsF c 0)).1 ≤ 1 := by rw [hold_0]; exact Nat.zero_le _
  rw [show 13 - 12 = 0 + 1 from rfl, l2F_stop hm] at hl
  subst hl
  exact t_count_fin (h.eo e NoC92) ok hb hg' hm (k τ e hg')
