/-! ===== promises 41, 42: game, first move ===== -/
def zI (v : Int) : Int32 := Int32.ofInt v
theorem zI_toInt {v : Int} (h1 : -1000 ≤ v) (h2 : v ≤ 1000) : (zI v).toInt = v := Int32.toInt_ofInt_of_le (by omega) (by omega)
theorem zI_lt {a b : Int} (h1 : -1000 ≤ a) (h2 : a ≤ 1000) (h3 : -1000 ≤ b) (h4 : b ≤ 1000) : zI a < zI b ↔ a < b := by
  rw [Int32.lt_iff_toInt_lt, zI_toInt h1 h2, zI_toInt h3 h4]
theorem zI_le {a b : Int} (h1 : -1000 ≤ a) (h2 : a ≤ 1000) (h3 : -1000 ≤ b) (h4 : b ≤ 1000) : zI a ≤ zI b ↔ a ≤ b := by
  rw [Int32.le_iff_toInt_le, zI_toInt h1 h2, zI_toInt h3 h4]
theorem zI_eq {a b : Int} (h1 : -1000 ≤ a) (h2 : a ≤ 1000) (h3 : -1000 ≤ b) (h4 : b ≤ 1000) : zI a = zI b ↔ a = b := by
  rw [← Int32.toInt_inj, zI_toInt h1 h2, zI_toInt h3 h4]
theorem zI_sub {a b : Nat} (ha : a ≤ 100) (hb : b ≤ 100) : nI a - nI b = zI ((a : Int) - b) := by
  apply Int32.toInt_inj.mp
  rw [Int32.toInt_sub, jI_toInt (by omega), jI_toInt (by omega), zI_toInt (by omega) (by omega)]
  exact Int.bmod_eq_of_le (by omega) (by omega)
theorem zI_99 : (99 : Int32) = zI 99 := by decide
theorem zI_m99 : (-99 : Int32) = zI (-99) := by decide
theorem zI_0 : (0 : Int32) = zI 0 := by decide
def scF (c : Nat → Nat) (works up : Nat) : Int := (card (doneF c up &&& works) : Int) - (card (sd (doneF c up) works) : Int)
def plS (f : Bool) (op : Nat) (v : Nat → Int) (w : Int) (t : Nat) : Int := if op.testBit t = true then (if f = true then (if w < v t then v t else w) else (if v t < w then v t else w)) else w
def opF (c : Nat → Nat) (g : Nat) : Nat := sd (upF c g) (c 7)
def seF (f : Bool) : Int := if f = true then -99 else 99
def plF (c : Nat → Nat) (works : Nat) : Nat → Nat → Bool → Int
  | 0, g, _ => scF c works (upF c g)
  | k + 1, g, f => if opF c g = 0 then scF c works (upF c g) else foldN (plS f (opF c g) (fun t => plF c works k (g ||| 2 ^ t) (!f))) (seF f) (c 0)
theorem scF_le {c : Nat → Nat} {works up : Nat} : -12 ≤ scF c works up ∧ scF c works up ≤ 12 := by
  have h1 := card_le (a := doneF c up &&& works)
  have h2 := card_le (a := sd (doneF c up) works)
  unfold scF
  omega
theorem plS_in {f : Bool} {op : Nat} {v : Nat → Int} (hv : ∀ t, -12 ≤ v t ∧ v t ≤ 12) : ∀ n, (foldN (plS f op v) (seF f) n = seF f ∧ ∀ t, t < n → op.testBit t = false) ∨ (-12 ≤ foldN (plS f op v) (seF f) n ∧ foldN (plS f op v) (seF f) n ≤ 12)
  | 0 => Or.inl ⟨rfl, fun t ht => absurd ht (Nat.not_lt_zero _)⟩
  | n + 1 => by
    have ih := plS_in (f := f) (op := op) hv n
    have hvn := hv n
    show ((if op.testBit n = true then (if f = true then (if foldN (plS f op v) (seF f) n < v n then v n else foldN (plS f op v) (seF f) n) else (if v n < foldN (plS f op v) (seF f) n then v n else foldN (plS f op v) (seF f) n)) else foldN (plS f op v) (seF f) n) = seF f ∧ _) ∨ (-12 ≤ (if op.testBit n = true then (if f = true then (if foldN (plS f op v) (seF f) n < v n then v n else foldN (plS f op v) (seF f) n) else (if v n < foldN (plS f op v) (seF f) n then v n else foldN (plS f op v) (seF f) n)) else foldN (plS f op v) (seF f) n) ∧ (if op.testBit n = true then (if f = true then (if foldN (plS f op v) (seF f) n < v n then v n else foldN (plS f op v) (seF f) n) else (if v n < foldN (plS f op v) (seF f) n then v n else foldN (plS f op v) (seF f) n)) else foldN (plS f op v) (seF f) n) ≤ 12)
    generalize foldN (plS f op v) (seF f) n = w at ih ⊢
    cases hb : op.testBit n
    · rw [if_neg (by decide)]
      rcases ih with ⟨i1, i2⟩ | ih
      · refine Or.inl ⟨i1, fun t ht => ?_⟩
        by_cases htn : t = n
        · rw [htn]; exact hb
        · exact i2 t (by omega)
      · exact Or.inr ih
    · rw [if_pos rfl]
      refine Or.inr ?_
      cases f
      · have : seF false = 99 := rfl
        rw [if_neg (by decide)]
        rcases ih with ⟨i1, -⟩ | ih <;> split <;> omega
      · have : seF true = -99 := rfl
        rw [if_pos rfl]
        rcases ih with ⟨i1, -⟩ | ih <;> split <;> omega
theorem opF_lt {c : Nat → Nat} (ok : OK c) {g : Nat} : opF c g < 2 ^ c 0 := sub_lt sub_sd (upF_lt ok)
theorem plF_le {c : Nat → Nat} (ok : OK c) {works : Nat} : ∀ k g f, -12 ≤ plF c works k g f ∧ plF c works k g f ≤ 12
  | 0, _, _ => scF_le
  | k + 1, g, f => by
    show -12 ≤ (if opF c g = 0 then _ else _) ∧ (if opF c g = 0 then _ else _) ≤ 12
    by_cases h0 : opF c g = 0
    · rw [if_pos h0]; exact scF_le
    · rw [if_neg h0]
      rcases plS_in (f := f) (op := opF c g) (v := fun t => plF c works k (g ||| 2 ^ t) (!f)) (fun t => plF_le ok k _ _) (c 0) with ⟨-, h⟩ | h
      · obtain ⟨t, ht⟩ := bit_of h0
        rw [h t (bit_n (opF_lt ok) ht)] at ht
        cases ht
      · exact h
theorem plF_pass {c : Nat → Nat} {works g : Nat} (h : opF c g = 0) : ∀ k f, plF c works k g f = scF c works (upF c g)
  | 0, _ => rfl
  | k + 1, f => if_pos h
/-- the best and with what -/
def tpS (f : Bool) (op : Nat) (v : Nat → Int) (p : Nat × Int) (t : Nat) : Nat × Int := if op.testBit t = true ∧ (p.1 = 0 ∨ (if f = true then p.2 < v t else v t < p.2)) then (t + 1, v t) else p
theorem tp_fold {f : Bool} {op : Nat} {v : Nat → Int} (hv : ∀ t, -12 ≤ v t ∧ v t ≤ 12) : ∀ n, ((foldN (tpS f op v) (0, 0) n).1 = 0 ∧ (foldN (tpS f op v) (0, 0) n).2 = 0 ∧ foldN (plS f op v) (seF f) n = seF f ∧ ∀ t, t < n → op.testBit t = false) ∨ ((foldN (tpS f op v) (0, 0) n).1 ≠ 0 ∧ (foldN (tpS f op v) (0, 0) n).1 ≤ n ∧ (foldN (tpS f op v) (0, 0) n).2 = foldN (plS f op v) (seF f) n ∧ -12 ≤ foldN (plS f op v) (seF f) n ∧ foldN (plS f op v) (seF f) n ≤ 12)
  | 0 => Or.inl ⟨rfl, rfl, rfl, fun t ht => absurd ht (Nat.not_lt_zero _)⟩
  | n + 1 => by
    have ih := tp_fold (f := f) (op := op) hv n
    have hvn := hv n
    have e1 : foldN (tpS f op v) (0, 0) (n + 1) = tpS f op v (foldN (tpS f op v) (0, 0) n) n := rfl
    have e2 : foldN (plS f op v) (seF f) (n + 1) = plS f op v (foldN (plS f op v) (seF f) n) n := rfl
    rw [e1, e2]
    generalize foldN (tpS f op v) (0, 0) n = p at ih ⊢
    generalize foldN (plS f op v) (seF f) n = w at ih ⊢
    unfold tpS plS
    cases hb : op.testBit n
    · rw [if_neg (fun q => by cases q.1), if_neg (by decide)]
      rcases ih with ⟨i1, i2, i3, i4⟩ | ⟨i1, i2, i3, i4, i5⟩
      · refine Or.inl ⟨i1, i2, i3, fun t ht => ?_⟩
        by_cases htn : t = n
        · rw [htn]; exact hb
        · exact i4 t (by omega)
      · exact Or.inr ⟨i1, by omega, i3, i4, i5⟩
    · simp only [true_and, ↓reduceIte]
      refine Or.inr ?_
      rcases ih with ⟨i1, i2, i3, i4⟩ | ⟨i1, i2, i3, i4, i5⟩
      · rw [if_pos (Or.inl i1), i3]
        refine ⟨by simp, by simp, ?_⟩
        cases f
        · have : seF false = 99 := rfl
          simp only [Bool.false_eq_true, ↓reduceIte]
          rw [if_pos (by omega)]
          exact ⟨rfl, hvn.1, hvn.2⟩
        · have : seF true = -99 := rfl
          simp only [↓reduceIte]
          rw [if_pos (by omega)]
          exact ⟨rfl, hvn.1, hvn.2⟩
      · rw [i3]
        cases f
        · simp only [Bool.false_eq_true, ↓reduceIte]
          by_cases hl : v n < w
          · rw [if_pos (Or.inr hl), if_pos hl]
            exact ⟨by simp, by simp, rfl, hvn.1, hvn.2⟩
          · rw [if_neg (fun q => q.elim i1 hl), if_neg hl]
            exact ⟨i1, by omega, i3, i4, i5⟩
        · simp only [↓reduceIte]
          by_cases hl : w < v n
          · rw [if_pos (Or.inr hl), if_pos hl]
            exact ⟨by simp, by simp, rfl, hvn.1, hvn.2⟩
          · rw [if_neg (fun q => q.elim i1 hl), if_neg hl]
            exact ⟨i1, by omega, i3, i4, i5⟩
def fmF (c : Nat → Nat) (works k g : Nat) (f : Bool) : Nat := (foldN (tpS f (opF c g) (fun t => plF c works k (g ||| 2 ^ t) (!f))) (0, 0) (c 0)).1
theorem doneF_lt {c : Nat → Nat} {up : Nat} : doneF c up < 2 ^ c 2 :=
  foldN_inv2 (c 2) (fun _ x => x < 2 ^ c 2) (Nat.two_pow_pos _) (fun k x hk hx => by
    split
    · exact or_lt hx (two_lt hk)
    · exact hx) _ (Nat.le_refl _)
theorem doneF_12 {c : Nat → Nat} (ok : OK c) {up : Nat} : doneF c up < 4096 := p12 doneF_lt (by have := ok.n2; omega)
/-! == the class == -/
def SPL (a _ : Nat) : Prop := a = 87 ∨ a = 89
theorem SPLq {a k : Nat} (h : SPL a k) : SQ a k := by unfold SPL at h; unfold SQ; omega
theorem stI_not {c : Nat → Nat} {g mk k : Nat} (hg : g.testBit k = true) : ∀ r, (stI c g mk r).testBit k = false
  | 0 => by
    show (sd _ g).testBit k = false
    rw [sd_bit, hg]
    simp
  | r + 1 => foldN_inv (f := stepF c g mk) (fun _ x => x.testBit k = false) (stI_not hg r) (fun m x hx => by
    unfold stepF
    by_cases hc : (mk.testBit m && (sd (c (36 + m)) x == 0) && !g.testBit (c (20 + m))) = true
    · rw [if_pos hc, Nat.testBit_or, hx, two_bit]
      simp only [Bool.and_eq_true, Bool.not_eq_true'] at hc
      have : c (20 + m) ≠ k := fun e => by rw [e, hg] at hc; cases hc.2
      simp [this]
    · rw [if_neg hc]; exact hx) (c 1)
theorem up_not {c : Nat → Nat} {g t : Nat} (h : (upF c g).testBit t = true) : g.testBit t = false := by
  cases hg : g.testBit t with
  | false => rfl
  | true =>
    have h2 : (upF c g).testBit t = false := stI_not hg 13
    rw [h2] at h
    cases h
theorem card_or {g t : Nat} (ht : t < 12) (h : g.testBit t = false) : card (g ||| 2 ^ t) = card g + 1 := by
  have key : ∀ n, foldN (fun m k => m + ((g ||| 2 ^ t).testBit k).toNat) 0 n = foldN (fun m k => m + (g.testBit k).toNat) 0 n + (if t < n then 1 else 0) := fun n => by
    induction n with
    | zero => rfl
    | succ n ih =>
      show foldN (fun m k => m + ((g ||| 2 ^ t).testBit k).toNat) 0 n + ((g ||| 2 ^ t).testBit n).toNat = foldN (fun m k => m + (g.testBit k).toNat) 0 n + (g.testBit n).toNat + _
      rw [ih, Nat.testBit_or, two_bit]
      by_cases htn : t = n
      · subst htn
        rw [h]
        simp
      · have e1 : (if t < n + 1 then 1 else 0) = if t < n then 1 else 0 := by
          by_cases q : t < n
          · rw [if_pos q, if_pos (by omega)]
          · rw [if_neg q, if_neg (by omega)]
        rw [e1]
        simp [htn]
        omega
  have := key 12
  rw [if_pos ht] at this
  exact this
theorem c_score {σ : Sto} {c : Nat → Nat} {P : Int32 → Sto → Prop} {N : Nat} (h : KW N σ c) (ok : OK c) {works up : Nat} (hm : gi σ 93 6 = nI works) (k : P (zI (scF c works up)) σ) : w_X5_score (nI up) σ P := by
  have hcs : isCity (gr σ 88 1) ∧ CR σ (gr σ 88 1) c := ⟨h.kb.1.1, h.kb.1.2.1⟩
  have hd := doneF_12 ok (up := up)
  unfold w_X5_score
  refine t_doable hcs.1 hcs.2 ok ?_
  rw [hm, jI_and, t_bitCount12 (and_12 hd), hm, jI_andn, t_bitCount12 (sd_12' hd), zI_sub (Nat.le_trans card_le (by decide)) (Nat.le_trans card_le (by decide))]
  exact k
def ev (d : Nat) : Bool := decide (d % 2 = 0)
theorem ev_s {d : Nat} : ev (d + 1) = !ev d := by
  unfold ev
  by_cases h : d % 2 = 0
  · rw [decide_eq_true h, decide_eq_false (by omega)]; rfl
  · rw [decide_eq_false h, decide_eq_true (by omega)]; rfl
def MemG (σ : Sto) (c : Nat → Nat) (works T : Nat) : Prop := ∀ g, g < 4096 → gi σ 87 g = 99 ∨ gi σ 87 g = zI (plF c works (T - (card g - card (c 6))) g (ev (card g - card (c 6))))
theorem c_play {c : Nat → Nat} (ok : OK c) {N : Nat} (hN : N ≤ 2000) {works T : Nat} (hT : T ≤ 4) : ∀ (n g d : Nat) (σ : Sto) (P : Int32 → Sto → Prop), g < 2 ^ c 0 → card g = card (c 6) + d → d ≤ T → T - d < n → KW N σ c → MemG σ c works T → gi σ 93 6 = nI works → (∀ τ, Eo SPL σ τ → KW N τ c → MemG τ c works T → P (zI (plF c works (T - d) g (ev d))) τ) → w_X5_play n (nI g) (nI (T - d)) (bI (ev d)) σ P
  | 0, _, _, _, _, _, _, _, h, _, _, _, _ => absurd h (Nat.not_lt_zero _)
  | n + 1, g, d, σ, P, hg, hcd, hd, hn, hw, hm, hmi, k => by
    have := ok.n0
    have hg12 := p12 hg ok.n0
    have hdd : card g - card (c 6) = d := by omega
    show w_X5_play_e (w_X5_play n) (nI g) (nI (T - d)) (bI (ev d)) σ P
    unfold w_X5_play_e
    refine t_without hw.kb.1 ok hN hg12 (fun τ e1 h1 => ?_)
    have hw1 := hw.e89 e1 h1
    have hm1 : MemG τ c works T := fun g' hg' => by rw [e1.1 87 g' (by unfold S89; decide)]; exact hm g' hg'
    have hmi1 : gi τ 93 6 = nI works := by rw [e1.1 93 6 (by unfold S89; decide)]; exact hmi
    have e1' : Eo SPL σ τ := e1.mo (fun _ _ => Or.inr)
    have ho12 := p12 (opF_lt ok (g := g)) ok.n0
    refine ⟨hw1.p93.1, ?_⟩
    rw [show gi τ (gr τ 93 5) 15 = nI (c 7) from hw1.p93.2.1 7 (by decide), jI_andn, show sd (upF c g) (c 7) = opF c g from rfl]
    rintro x5 rfl
    have k1 := k τ e1' hw1 hm1
    have hb := plF_le ok (works := works) (T - d) g (ev d)
    have sco : plF c works (T - d) g (ev d) = scF c works (upF c g) → w_X5_play_33 (w_X5_play n) (nI (upF c g)) τ P := fun e => by
      unfold w_X5_play_33
      refine c_score hw1 ok hmi1 ?_
      rw [← e]
      exact k1
    rw [N0]
    by_cases h0 : T - d = 0
    · rw [if_pos (by rw [jI_le (by omega) (by omega)]; omega)]
      exact sco (by rw [h0]; rfl)
    rw [if_neg (by rw [jI_le (by omega) (by omega)]; omega)]
    by_cases hop : opF c g = 0
    · rw [if_pos (by rw [hop])]
      exact sco (plF_pass hop _ _)
    rw [if_neg (by rw [jI_eq (by omega) (by decide)]; exact hop), tn_nI (by omega)]
    refine ⟨vp_nI hg12 (by decide), ?_⟩
    obtain ⟨r, hr⟩ : ∃ r, T - d = r + 1 := ⟨T - d - 1, by omega⟩
    have hplF : plF c works (T - d) g (ev d) = foldN (plS (ev d) (opF c g) (fun t => plF c works r (g ||| 2 ^ t) (!ev d))) (seF (ev d)) (c 0) := by
      rw [hr]
      exact if_neg hop
    have hv : ∀ t, -12 ≤ plF c works r (g ||| 2 ^ t) (!ev d) ∧ plF c works r (g ||| 2 ^ t) (!ev d) ≤ 12 := fun t => plF_le ok _ _ _
    rcases hm1 g hg12 with hu | hu
    · rw [if_pos hu]
      have loop : Lp (fun (K : Int32 × Int32 × Sto → Prop) s => w_X5_play_74 (w_X5_play n) K (nI g) (nI (T - d)) (bI (ev d)) (nI (opF c g)) s.1 s.2.1 s.2.2 P) (zI (seF (ev d)), nI 0, τ) := by
        refine Lp_for (c 0) (fun j q => q.1 = zI (foldN (plS (ev d) (opF c g) (fun t => plF c works r (g ||| 2 ^ t) (!ev d))) (seF (ev d)) j) ∧ q.2.1 = nI j ∧ Eo SPL σ q.2.2 ∧ KW N q.2.2 c ∧ MemG q.2.2 c works T) ⟨rfl, rfl, e1', hw1, hm1⟩ ?_ ?_
        · rintro j hj K ⟨x6, x7, υ⟩ ⟨r6, r7, e2, hw2, hm2⟩ hK
          dsimp only at r6 r7 e2 hw2 hm2 hK ⊢
          subst r6 r7
          have hnj : ¬ c 0 ≤ j := by omega
          have hst : foldN (plS (ev d) (opF c g) (fun t => plF c works r (g ||| 2 ^ t) (!ev d))) (seF (ev d)) (j + 1) = plS (ev d) (opF c g) (fun t => plF c works r (g ||| 2 ^ t) (!ev d)) (foldN (plS (ev d) (opF c g) (fun t => plF c works r (g ||| 2 ^ t) (!ev d))) (seF (ev d)) j) j := rfl
          rw [hst] at hK
          have hwb : -99 ≤ foldN (plS (ev d) (opF c g) (fun t => plF c works r (g ||| 2 ^ t) (!ev d))) (seF (ev d)) j ∧ foldN (plS (ev d) (opF c g) (fun t => plF c works r (g ||| 2 ^ t) (!ev d))) (seF (ev d)) j ≤ 99 := by
            rcases plS_in (f := ev d) (op := opF c g) hv j with ⟨q, -⟩ | q
            · rw [q]
              unfold seF
              split <;> omega
            · omega
          generalize foldN (plS (ev d) (opF c g) (fun t => plF c works r (g ||| 2 ^ t) (!ev d))) (seF (ev d)) j = w at hK hwb ⊢
          unfold w_X5_play_74
          refine ⟨hw2.p93.1, ?_⟩
          rw [show gi υ (gr υ 93 5) 8 = nI (c 0) from hw2.p93.2.1 0 (by decide), if_neg (by rw [jI_le (by omega) (by omega)]; exact hnj), bit1 (by omega), jI_31 (by omega), N1, N0, jI_or, jI_add]
          simp only [jI_bit0 (show j < 32 by omega)]
          unfold plS at hK
          cases hb : (opF c g).testBit j <;> simp only [hb, Bool.false_eq_true, Bool.true_eq_false, ↓reduceIte] at hK ⊢
          · rintro x rfl
            exact hK _ ⟨rfl, rfl, e2, hw2, hm2⟩
          · have hup : (upF c g).testBit j = true := by
              unfold opF at hb
              rw [sd_bit, Bool.and_eq_true] at hb
              exact hb.1
            have hgj := up_not hup
            have hcg := card_or (by omega : j < 12) hgj
            have hg2 : g ||| 2 ^ j < 2 ^ c 0 := or_lt hg (two_lt hj)
            have hmi2 : gi υ 93 6 = nI works := by rw [e2.1 93 6 (by unfold SPL; decide)]; exact hmi
            have er : T - (d + 1) = r := by omega
            have hvj := hv j
            have go : w_X5_play_115 (w_X5_play n) K (nI g) (nI (T - d)) (bI (ev d)) (nI (opF c g)) (zI w) (nI j) (bI (ev (d + 1))) (nI (T - (d + 1))) (nI (g ||| 2 ^ j)) υ P := by
              unfold w_X5_play_115
              refine c_play ok hN hT n (g ||| 2 ^ j) (d + 1) υ _ hg2 (by omega) (by omega) (by omega) hw2 hm2 hmi2 (fun φ e3 hw3 hm3 => ?_)
              rw [er, ev_s, N1, jI_add]
              cases he : ev d
              · rw [if_pos (show bI false = 0 from rfl)]
                rw [he] at hK hvj
                simp only [Bool.false_eq_true, ↓reduceIte] at hK
                rintro x rfl
                rintro y rfl
                refine hK _ ⟨?_, rfl, e2.tr e3, hw3, hm3⟩
                by_cases hl : plF c works r (g ||| 2 ^ j) (!false) < w
                · rw [if_pos hl, if_pos ((zI_lt (by omega) (by omega) (by omega) (by omega)).mpr hl)]
                · rw [if_neg hl, if_neg (fun q => hl ((zI_lt (by omega) (by omega) (by omega) (by omega)).mp q))]
              · rw [if_neg (show ¬ bI true = 0 by decide)]
                rw [he] at hK hvj
                simp only [↓reduceIte] at hK
                rintro x rfl
                rintro y rfl
                refine hK _ ⟨?_, rfl, e2.tr e3, hw3, hm3⟩
                by_cases hl : w < plF c works r (g ||| 2 ^ j) (!true)
                · rw [if_pos hl, if_pos ((zI_lt (by omega) (by omega) (by omega) (by omega)).mpr hl)]
                · rw [if_neg hl, if_neg (fun q => hl ((zI_lt (by omega) (by omega) (by omega) (by omega)).mp q))]
            have et : nI (T - d) - nI 1 = nI (T - (d + 1)) := by rw [jI_sub (by omega)]; congr 1
            rw [et]
            rw [ev_s] at go
            cases he : ev d
            · rw [he] at go
              rw [if_pos (show bI false = nI 0 from rfl)]
              exact go
            · rw [he] at go
              rw [if_neg (show ¬ bI true = nI 0 by decide)]
              exact go
        · rintro K ⟨x6, x7, υ⟩ ⟨r6, r7, e2, hw2, hm2⟩
          dsimp only at r6 r7 e2 hw2 hm2 ⊢
          subst r6 r7
          unfold w_X5_play_74
          refine ⟨hw2.p93.1, ?_⟩
          rw [show gi υ (gr υ 93 5) 8 = nI (c 0) from hw2.p93.2.1 0 (by decide), if_pos (by rw [jI_le (by omega) (by omega)]; exact Nat.le_refl _)]
          refine ⟨vp_nI hg12 (by decide), ?_⟩
          rw [tn_nI (by omega), ← hplF]
          have e3 : Eo SPL υ (si υ 87 g (zI (plF c works (T - d) g (ev d)))) := Eo.si (Or.inl rfl)
          refine k _ (e2.tr e3) (hw2.ex (Eo.si (Or.inl rfl))) (fun g' hg' => ?_)
          by_cases hgg : g' = g
          · refine Or.inr ?_
            rw [hgg, gi_si_s, hdd]
          · rw [gi_si_k hgg]
            exact hm2 g' hg'
      cases he : ev d
      · rw [if_pos (show bI false = nI 0 from rfl), zI_99]
        rw [he] at loop
        exact loop
      · rw [if_neg (show ¬ bI true = nI 0 by decide), zI_m99]
        rw [he] at loop
        exact loop
    · rw [hdd] at hu
      rw [hu, if_neg (by rw [zI_99, zI_eq (by omega) (by omega) (by omega) (by omega)]; omega)]
      exact k1
