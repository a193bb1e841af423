/-! ===== the class's count and its cache; the year to come ===== -/
theorem oI_sub {m : Nat} (h : m < 2147483648) : nI m - 1 = oI m := by
  cases m with
  | zero => decide
  | succ m => rw [show (1 : Int32) = nI 1 from rfl, jI_sub (by omega)]; rfl
theorem oI_add {m : Nat} : oI m + 1 = nI m := by
  cases m with
  | zero => decide
  | succ m => rw [show (1 : Int32) = nI 1 from rfl]; exact jI_add
theorem l2F_le {c : Nat → Nat} : ∀ n s got, (l2F c n s got).1 ≤ c 0
  | 0, _, _ => Nat.zero_le _
  | n + 1, s, got => by
    show (if _ then ((holdF c s (countsF c s)).2, updF s (countsF c s) got) else l2F c n _ _ : Nat × (Nat → Nat)).1 ≤ c 0
    split
    · exact holdF_le.2
    · exact l2F_le n _ _
theorem nameF_le {c : Nat → Nat} {law s : Nat} : nameF c law s ≤ c 0 := by
  unfold nameF; split
  · exact l2F_le _ _ _
  · exact mostF_le (c := c)
theorem most_congr {c : Nat → Nat} {f g : Nat → Nat} (h : ∀ t, f t = g t) : mostF c f = mostF c g := by
  rw [show f = g from funext h]
theorem t_count {σ : Sto} {c : Nat → Nat} {P : Int32 → Sto → Prop} (h : BC σ c) (ok : OK c) {law s : Nat} (hl : law ≤ 2) (hs : s < 2 ^ c 0) (k : ∀ τ, Eo S92 σ τ → (∀ t, t < c 0 → gi τ 92 t = nI (gotF c law s t)) → P (oI (nameF c law s)) τ) : w_X0_count (nI s) (nI law) σ P := by
  have := ok.n0
  have := ok.n3
  unfold w_X0_count
  refine t_fill a92 (by decide) (fun τ e hz => ?_)
  have e : Eo S92 σ τ := e
  have hτ := h.eo e NoC92
  by_cases h1 : law = 1
  · subst h1
    rw [if_pos (by rfl)]
    refine Lp_for (c 0) (fun j q => q.1 = nI j ∧ Eo S92 σ q.2 ∧ ∀ t, t < j → gi q.2 92 t = nI (sumF c s t)) ⟨rfl, e, fun t ht => absurd ht (Nat.not_lt_zero _)⟩ ?_ ?_
    · rintro j hj K ⟨x, υ⟩ ⟨rfl, e2, hg⟩ hK
      dsimp only at e2 hg hK ⊢
      have hυ := h.eo e2 NoC92
      have h8 : gi υ (gr υ 90 3) 8 = nI (c 0) := hυ.f (k := 0) (by decide)
      have hn : ¬ c 0 ≤ j := by omega
      unfold w_X0_count_15
      refine ⟨hυ.1, ?_⟩
      rw [h8]
      simp (disch := omega) only [N0, N1, N2, N3, N4, N5, N6, N7, N8, N9, N10, N11, N12, N13, N14, N15, N16, N17, N18, N19, N20, N21, N22, N23, N24, N25, N26, N27, N28, N29, N30, N32, N33, N34, N35, N36, N37, N38, N39, N40, N41, N42, N43, N44, N45, N46, N47, N48, N49, N50, N51, N52, N53, N54, N55, N56, N57, N58, N59, N60, N61, N62, N63, N64, N90, N96, N97, N98, N99, N100, N102, N103, N104, N107, N108, N109, N110, N111, N112, N114, N115, N116, N117, N118, N119, N120, N121, N122, N130, N138, N141, N142, N143, N144, N156, N240, N255, N256, N300, N400, N420, N421, N600, N900, N999, N1000, N1684, N2104, N2105, N2971, N4095, N4096, N9999, N10000, N10663, N65536, jI_add, jI_mul, jI_and, jI_or, jI_xor, jI_andn, jI_31, jI_shl, Nat.one_shiftLeft, jI_le, jI_lt, jI_eq, tn_nI, tc_nI, vp_nI, jI_allF, jI_bit, jI_bit0, jI_noneN, bI_N0, bI_N1, forall_eq, true_and, ↓reduceIte, hn]
      have fin : ∀ x, x = sumF c s j → K (nI (j + 1), si υ 92 j (nI x)) := fun x hx => hK _ ⟨rfl, e2.tr (Eo.si rfl), fun t ht => by
        dsimp only
        by_cases htj : t = j
        · subst htj; rw [gi_si_s, hx]
        · rw [gi_si_k htj]; exact hg t (by omega)⟩
      cases hb : s.testBit j <;> simp only [Bool.false_eq_true, Bool.true_eq_false, ↓reduceIte]
      · exact fin 0 (by simp [sumF, sumN, hb])
      · refine t_hatredOf hυ ok hj ?_
        exact fin _ (by simp [sumF, sumN, hb])
    · rintro K ⟨x, υ⟩ ⟨rfl, e2, hg⟩
      dsimp only at e2 hg ⊢
      have hυ := h.eo e2 NoC92
      have h8 : gi υ (gr υ 90 3) 8 = nI (c 0) := hυ.f (k := 0) (by decide)
      unfold w_X0_count_15
      refine ⟨hυ.1, ?_⟩
      rw [h8, if_pos (by rw [jI_le (by omega) (by omega)]; exact Nat.le_refl _)]
      refine t_most hυ ok (got := sumF c s) (fun t ht => by have := sumN_le ok (set := s) ht (Nat.le_refl (c 3)); unfold sumF; omega) hg ?_
      rw [most_congr (g := sumF c s) (fun t => by cases hb : s.testBit t <;> simp [sumF, sumN, hb])]
      exact k υ e2 hg
  · rw [if_neg (by rw [show (1 : Int32) = nI 1 from rfl, jI_eq (by omega) (by decide)]; exact h1)]
    refine t_castOne hτ ok (got := fun _ => 0) (fun t ht => hz t (by omega)) (fun υ e2 hc => ?_)
    have e3 := e.tr e2
    have hυ := h.eo e3 NoC92
    have hc2 : ∀ t, t < c 0 → gi υ 92 t = nI (updF s (countsF c s) (fun _ => 0) t) := fun t ht => by
      rw [hc t ht, cntB_m1 ok]; rfl
    by_cases h0 : law = 0
    · subst h0
      rw [if_pos (by rfl)]
      have hc3 : ∀ t, updF s (countsF c s) (fun _ => 0) t = countsF c s t := fun t => by
        unfold updF
        cases hb : s.testBit t
        · simp [counts_out hb]
        · simp
      refine Lp_det 0 (fun j => (nI s, (-1), 0, υ)) rfl (fun j hj => absurd hj (Nat.not_lt_zero _)) (fun K => ?_)
      dsimp only
      unfold w_X0_count_87
      rw [if_neg (by decide), if_pos rfl]
      unfold w_X0_count_128
      refine t_most hυ ok (got := countsF c s) (fun t ht => by have := cnt_le ok (set := s) (t := t); omega) (fun t ht => by rw [hc2 t ht, hc3]) ?_
      rw [most_congr (g := countsF c s) (fun t => by
        cases hb : s.testBit t
        · simp [counts_out hb]
        · simp)]
      exact k υ e3 (fun t ht => by rw [hc2 t ht, hc3]; rfl)
    · have h2 : law = 2 := by omega
      subst h2
      rw [if_neg (by decide)]
      refine t_lastOfFewest hυ ok (got := updF s (countsF c s) (fun _ => 0)) (fun t _ => Nat.le_trans (upd_le ok (fun _ => Nat.zero_le _) t) (by decide)) hc2 ?_
      rw [show holdF c s (updF s (countsF c s) (fun _ => 0)) = holdF c s (countsF c s) from hold_upd (c 0)]
      exact t_count2 hυ ok hs (fun _ => Nat.zero_le _) hc2 rfl (fun φ e4 hg => k φ (e3.tr e4) hg)
/-- the ballot's cache: by what is open, one more than who is named -/
def BR (N : Nat) (σ : Sto) (c : Nat → Nat) : Prop :=
  BC σ c ∧ ∃ s, 1 ≤ s ∧ s ≤ N ∧ gi σ 90 4 = nI s ∧ ∀ o, o < 4096 → ∃ v, gi σ 91 o = nI v ∧ v / 16 ≤ s ∧ (v / 16 = s → v % 16 = nameF c (c 4) o)
theorem BR.eo {N : Nat} {S : Nat → Nat → Prop} {σ τ : Sto} {c : Nat → Nat} (h : BR N σ c) (e : Eo S σ τ) (hs : NoC S) (h90 : ¬ S 90 4) (h91 : ∀ k, ¬ S 91 k) : BR N τ c := by
  obtain ⟨hb, s, hs1, hsN, hst, hkn⟩ := h
  refine ⟨hb.eo e hs, s, hs1, hsN, by rw [e.1 _ _ h90]; exact hst, fun o ho => ?_⟩
  rw [e.1 _ _ (h91 o)]
  exact hkn o ho
def KB (N : Nat) (σ : Sto) (c : Nat → Nat) : Prop := SR N σ c ∧ BR N σ c
def S3 (a _ : Nat) : Prop := a = 89 ∨ a = 91 ∨ a = 92
theorem NoC3 : NoC S3 := fun a k (h : a = 89 ∨ a = 91 ∨ a = 92) => by omega
theorem NoC89 : NoC S89 := fun a k (h : a = 89) => by omega
theorem KB.e89 {N : Nat} {σ τ : Sto} {c : Nat → Nat} (h : KB N σ c) (e : Eo S89 σ τ) (hs : SR N τ c) : KB N τ c := ⟨hs, h.2.eo e NoC89 (fun q => absurd (show (90 : Nat) = 89 from q) (by decide)) (fun k q => absurd (show (91 : Nat) = 89 from q) (by decide))⟩
def nextF (c : Nat → Nat) (g x : Nat) : Nat := if votedF c g x = 0 then g else g ||| 2 ^ (votedF c g x - 1)
theorem votedF_le {c : Nat → Nat} {g x : Nat} : votedF c g x ≤ c 0 := nameF_le
theorem nextF_lt {c : Nat → Nat} {g x : Nat} (hg : g < 2 ^ c 0) : nextF c g x < 2 ^ c 0 := by
  have := votedF_le (c := c) (g := g) (x := x)
  unfold nextF; split
  · exact hg
  · exact or_lt hg (two_lt (by omega))
theorem t_next72 {σ : Sto} {c : Nat → Nat} {P : Int32 → Sto → Prop} (ok : OK c) {g x m : Nat} (hm : votedF c g x = m) (k : P (nI (nextF c g x)) σ) : w_X0_goneNextYear_72 (nI g) (oI m) σ P := by
  have := ok.n0
  have hle := votedF_le (c := c) (g := g) (x := x)
  unfold w_X0_goneNextYear_72
  unfold nextF at k
  rw [hm] at k hle
  cases m with
  | zero => rw [if_pos (by rfl)]; exact k
  | succ t =>
    rw [show oI (t + 1) = nI t from rfl, if_neg (jI_none (by omega))]
    rw [if_neg (by omega), Nat.add_sub_cancel] at k
    have e2 : nI g ||| (1 : Int32) <<< (nI t &&& 31) = nI (g ||| 2 ^ t) := by
      rw [jI_31 (by omega), show (1 : Int32) = nI 1 from rfl, jI_shl (by omega), Nat.one_shiftLeft, jI_or]
    rw [e2]
    exact k
theorem t_goneNext {σ : Sto} {c : Nat → Nat} {P : Int32 → Sto → Prop} {N : Nat} (h : KB N σ c) (ok : OK c) (hN : N ≤ 2000) {g x : Nat} (hg : g < 2 ^ c 0) (k : ∀ τ, Eo S3 σ τ → KB N τ c → P (nI (nextF c g x)) τ) : w_X0_goneNextYear (nI g) (nI x) σ P := by
  have := ok.n0
  unfold w_X0_goneNextYear
  refine t_without h.1 ok hN (p12 hg ok.n0) (fun τ e1 h1 => ?_)
  have hk := h.e89 e1 h1
  have e1' : Eo S3 σ τ := e1.mo (fun a k q => Or.inl q)
  obtain ⟨hb, s, hs1, hsN, hst, hkn⟩ := hk.2
  rintro x3 rfl
  rw [jI_andn]
  have hol : sd (upF c g) x < 2 ^ c 0 := sub_lt sub_sd (upF_lt ok)
  have ho := p12 hol ok.n0
  have hnm := nameF_le (c := c) (law := c 4) (s := sd (upF c g) x)
  refine ⟨vp_nI ho (by decide), ?_⟩
  obtain ⟨v, hv, hvs, hvu⟩ := hkn _ ho
  rw [tn_nI (by omega)]
  rintro x4 rfl
  rw [hv]
  rintro x5 rfl
  rw [hst, show (4 : Int32) = nI 4 from rfl, jI_ushr (by omega) (by decide), show (2 : Nat) ^ 4 = 16 by decide, show (15 : Int32) = nI 15 from rfl, jI_and, show v &&& 15 = v % 16 from Nat.and_two_pow_sub_one_eq_mod v 4, oI_sub (by omega)]
  by_cases he : v / 16 = s
  · rw [if_pos (by rw [he])]
    exact t_next72 ok (hvu he).symm (k τ e1' hk)
  · rw [if_neg (by rw [jI_eq (by omega) (by omega)]; exact he)]
    refine ⟨hb.1, ?_⟩
    rw [show gi τ (gr τ 90 3) 12 = nI (c 4) from hb.f (k := 4) (by decide)]
    refine t_count hb ok ok.n4 hol (fun υ e2 hgot => ?_)
    have h90 : gi υ 90 4 = nI s := by rw [e2.1 _ _ (fun q => absurd (show (90 : Nat) = 92 from q) (by decide))]; exact hst
    rw [h90, oI_add]
    have e3 : nI s <<< nI 4 ||| nI (nameF c (c 4) (sd (upF c g) x)) = nI (s * 16 + nameF c (c 4) (sd (upF c g) x)) := by
      rw [jI_shl (by decide), jI_or]
      congr 1
      rw [← Nat.shiftLeft_add_eq_or_of_lt (show nameF c (c 4) (sd (upF c g) x) < 2 ^ 4 by omega), Nat.shiftLeft_eq]
    rw [e3]
    have e4 : Eo S3 υ (si υ 91 (sd (upF c g) x) (nI (s * 16 + nameF c (c 4) (sd (upF c g) x)))) := Eo.si (Or.inr (Or.inl rfl))
    have e24 : Eo S3 τ (si υ 91 (sd (upF c g) x) (nI (s * 16 + nameF c (c 4) (sd (upF c g) x)))) := (e2.mo (fun a k q => Or.inr (Or.inr q))).tr e4
    have e5 : Eo (fun a _ => a = 91 ∨ a = 92) τ (si υ 91 (sd (upF c g) x) (nI (s * 16 + nameF c (c 4) (sd (upF c g) x)))) := (e2.mo (fun a k q => Or.inr q)).tr (Eo.si (Or.inl rfl))
    refine t_next72 ok rfl (k _ (e1'.tr e24) ⟨hk.1.eo e5 (fun a k q => by omega), hb.eo e24 NoC3, s, hs1, hsN, ?_, fun o ho2 => ?_⟩)
    · rw [gi_si_a (by decide)]; exact h90
    · by_cases hoo : o = sd (upF c g) x
      · subst hoo
        exact ⟨_, gi_si_s, by omega, fun _ => by omega⟩
      · obtain ⟨v2, hv2, hv3⟩ := hkn o ho2
        exact ⟨v2, by rw [gi_si_k hoo, e2.1 _ _ (fun q => absurd (show (91 : Nat) = 92 from q) (by decide))]; exact hv2, hv3⟩
theorem t_openNow {σ : Sto} {c : Nat → Nat} {P : Int32 → Sto → Prop} {N : Nat} (h : KB N σ c) (ok : OK c) (hN : N ≤ 2000) (k : ∀ τ, Eo S89 σ τ → KB N τ c → P (nI (openF c)) τ) : w_X0_openNow σ P := by
  refine ⟨h.2.1.1, ?_⟩
  rw [show gi σ (gr σ 90 3) 14 = nI (c 6) from h.2.1.f (k := 6) (by decide)]
  refine t_without h.1 ok hN (p12 ok.n6 ok.n0) (fun τ e1 h1 => ?_)
  have hk := h.e89 e1 h1
  refine ⟨hk.2.1.1, ?_⟩
  rw [show gi τ (gr τ 90 3) 15 = nI (c 7) from hk.2.1.f (k := 7) (by decide), jI_andn]
  exact k τ e1 hk
