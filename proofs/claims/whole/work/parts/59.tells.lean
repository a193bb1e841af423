/-! ===== promise 46: tells ===== -/
def felN (c : Nat → Nat) (set x n : Nat) : Nat := foldN (fun s t => if set.testBit t = true ∧ (fallF c t).testBit x = true then s ||| 2 ^ t else s) 0 n
def felF (c : Nat → Nat) (set x : Nat) : Nat := felN c set x (c 0)
theorem felN_s {c : Nat → Nat} {set x n : Nat} : felN c set x (n + 1) = if set.testBit n = true ∧ (fallF c n).testBit x = true then felN c set x n ||| 2 ^ n else felN c set x n := rfl
theorem felN_lt {c : Nat → Nat} (ok : OK c) {set x n : Nat} (hn : n ≤ c 0) : felN c set x n < 4096 :=
  p12 (n := c 0) (foldN_inv2 (c 0) (fun _ s => s < 2 ^ c 0) (Nat.two_pow_pos _) (fun k s hk hs => by
    split
    · exact or_lt hs (two_lt hk)
    · exact hs) n hn) ok.n0
theorem fall_now {c : Nat → Nat} {t x : Nat} (h : (fallF c t).testBit x = true) : (nowF c).testBit x = true := sub_sd x h
theorem felF_out {c : Nat → Nat} {set x : Nat} (h : (nowF c).testBit x = false) : felF c set x = 0 :=
  foldN_inv (f := fun s t => if set.testBit t = true ∧ (fallF c t).testBit x = true then s ||| 2 ^ t else s) (a := 0) (fun _ s => s = 0) rfl (fun t s hs => by
    rw [if_neg (fun q => by rw [fall_now q.2] at h; cases h)]
    exact hs) _
def S96 (a _ : Nat) : Prop := a = 96
theorem S96x {a k : Nat} (h : S96 a k) : SX a k := Or.inr (Or.inl h)
def S896 (a _ : Nat) : Prop := a = 89 ∨ a = 96
theorem t_ff_in {σ : Sto} {c : Nat → Nat} {P : Sto → Prop} {N : Nat} (h : KW N σ c) (ok : OK c) {j f s : Nat} {old : Nat → Nat} (hj : j < c 0) (hold : ∀ x, x < c 0 → gi σ 96 x = nI (old x)) {K10 : Int32 × Sto → Prop}
    (k : ∀ τ, Eo S96 σ τ → KW N τ c → (∀ x, x < c 0 → gi τ 96 x = nI (if f.testBit x then old x ||| 2 ^ j else old x)) → K10 (nI (j + 1), τ)) :
    Lp (fun (K : Int32 × Sto → Prop) q => w_X4_findFelling_45 K10 K (nI s) (nI j) (nI f) q.1 q.2 P) (0, σ) := by
  have := ok.n0
  refine Lp_for (c 0) (fun i q => q.1 = nI i ∧ Eo S96 σ q.2 ∧ ∀ x, x < c 0 → gi q.2 96 x = nI (if x < i ∧ f.testBit x = true then old x ||| 2 ^ j else old x)) ⟨rfl, Eo.rf, fun x hx => by rw [if_neg (by omega)]; exact hold x hx⟩ ?_ ?_
  · rintro i hi K ⟨x4, τ⟩ ⟨r4, e, hg⟩ hK
    dsimp only at r4 e hg hK ⊢
    subst r4
    have hw := h.ex (e.mo (fun _ _ => S96x))
    have hn : ¬ c 0 ≤ i := by omega
    have hgi := hg i hi
    rw [if_neg (by omega)] at hgi
    unfold w_X4_findFelling_45
    refine ⟨hw.p95.1, ?_⟩
    rw [show gi τ (gr τ 95 3) 8 = nI (c 0) from hw.p95.2.1 0 (by decide)]
    simp (disch := omega) only [N0, N1, N2, N3, N4, N5, N6, N7, N8, N9, N10, N11, N12, N13, N14, N15, N16, N17, N18, N19, N20, N21, N22, N23, N24, N25, N26, N27, N28, N29, N30, N32, N33, N34, N35, N36, N37, N38, N39, N40, N41, N42, N43, N44, N45, N46, N47, N48, N49, N50, N51, N52, N53, N54, N55, N56, N57, N58, N59, N60, N61, N62, N63, N64, N90, N96, N97, N98, N99, N100, N102, N103, N104, N107, N108, N109, N110, N111, N112, N114, N115, N116, N117, N118, N119, N120, N121, N122, N130, N138, N141, N142, N143, N144, N156, N240, N255, N256, N300, N400, N420, N421, N600, N900, N999, N1000, N1684, N2104, N2105, N2971, N4095, N4096, N9999, N10000, N10663, N65536, jI_add, jI_mul, jI_and, jI_or, jI_xor, jI_andn, jI_31, jI_shl, Nat.one_shiftLeft, jI_le, jI_lt, jI_eq, tn_nI, tc_nI, vp_nI, jI_allF, jI_bit, jI_bit0, jI_noneN, bI_N0, bI_N1, forall_eq, true_and, ↓reduceIte, hn, hgi, jI_bitx, bI_i]
    refine hK _ ⟨rfl, e.tr (Eo.si rfl), fun x hx => ?_⟩
    dsimp only
    by_cases hxi : x = i
    · subst hxi
      rw [gi_si_s]
      cases hb : f.testBit x <;> simp [hb, Nat.shiftLeft_eq]
    · rw [gi_si_k hxi, hg x hx]
      have : (x < i + 1 ∧ f.testBit x = true) ↔ (x < i ∧ f.testBit x = true) := by
        constructor <;> rintro ⟨a, b⟩ <;> exact ⟨by omega, b⟩
      simp only [this]
  · rintro K ⟨x4, τ⟩ ⟨r4, e, hg⟩
    dsimp only at r4 e hg ⊢
    subst r4
    have hw := h.ex (e.mo (fun _ _ => S96x))
    unfold w_X4_findFelling_45
    refine ⟨hw.p95.1, ?_⟩
    rw [show gi τ (gr τ 95 3) 8 = nI (c 0) from hw.p95.2.1 0 (by decide)]
    simp (disch := omega) only [N0, N1, N2, N3, N4, N5, N6, N7, N8, N9, N10, N11, N12, N13, N14, N15, N16, N17, N18, N19, N20, N21, N22, N23, N24, N25, N26, N27, N28, N29, N30, N32, N33, N34, N35, N36, N37, N38, N39, N40, N41, N42, N43, N44, N45, N46, N47, N48, N49, N50, N51, N52, N53, N54, N55, N56, N57, N58, N59, N60, N61, N62, N63, N64, N90, N96, N97, N98, N99, N100, N102, N103, N104, N107, N108, N109, N110, N111, N112, N114, N115, N116, N117, N118, N119, N120, N121, N122, N130, N138, N141, N142, N143, N144, N156, N240, N255, N256, N300, N400, N420, N421, N600, N900, N999, N1000, N1684, N2104, N2105, N2971, N4095, N4096, N9999, N10000, N10663, N65536, jI_add, jI_mul, jI_and, jI_or, jI_xor, jI_andn, jI_31, jI_shl, Nat.one_shiftLeft, jI_le, jI_lt, jI_eq, tn_nI, tc_nI, vp_nI, jI_allF, jI_bit, jI_bit0, jI_noneN, bI_N0, bI_N1, forall_eq, true_and, ↓reduceIte, Nat.le_refl]
    refine k τ e hw (fun x hx => ?_)
    rw [hg x hx]
    simp only [hx, true_and]
theorem c_findFelling {σ : Sto} {c : Nat → Nat} {P : Sto → Prop} {N : Nat} (h : KW N σ c) (ok : OK c) (hN : N ≤ 2000) {set : Nat} (k : ∀ τ, Eo S896 σ τ → KW N τ c → (∀ x, x < c 0 → gi τ 96 x = nI (felF c set x)) → P τ) : w_X4_findFelling (nI set) σ P := by
  have := ok.n0
  unfold w_X4_findFelling
  refine t_fill a96 (by decide) (fun τ e hz => ?_)
  have hw := h.ex (e.mo (fun _ _ => S96x))
  refine Lp_for (c 0) (fun j q => q.1 = nI j ∧ Eo S896 σ q.2 ∧ KW N q.2 c ∧ ∀ x, x < c 0 → gi q.2 96 x = nI (felN c set x j)) ⟨rfl, e.mo (fun _ _ => Or.inr), hw, fun x hx => hz x (by omega)⟩ ?_ ?_
  · rintro j hj K ⟨x2, υ⟩ ⟨r2, e2, hw2, hg⟩ hK
    dsimp only at r2 e2 hw2 hg hK ⊢
    subst r2
    have hn : ¬ c 0 ≤ j := by omega
    unfold w_X4_findFelling_10
    refine ⟨hw2.p95.1, ?_⟩
    rw [show gi υ (gr υ 95 3) 8 = nI (c 0) from hw2.p95.2.1 0 (by decide), if_neg (by rw [jI_le (by omega) (by omega)]; exact hn), N1, jI_31 (by omega), N0]
    simp only [jI_bit0 (show j < 32 by omega)]
    cases hb : set.testBit j <;> simp only [Bool.false_eq_true, Bool.true_eq_false, ↓reduceIte]
    · refine t_ff_in hw2 ok (f := 0) hj hg (fun φ e3 hw3 hg3 => hK _ ⟨rfl, e2.tr (e3.mo (fun _ _ => Or.inr)), hw3, fun x hx => ?_⟩)
      dsimp only
      rw [hg3 x hx, felN_s]
      simp [hb]
    · refine t_fallingWith hw2.kb.1 ok hN hj (fun φ e3 h3 => ?_)
      have hw3 := hw2.e89 e3 h3
      refine t_ff_in hw3 ok (f := fallF c j) hj (old := fun x => felN c set x j) (fun x hx => by rw [e3.1 96 x (by unfold S89; decide)]; exact hg x hx) (fun ψ e4 hw4 hg4 => hK _ ⟨rfl, (e2.tr (e3.mo (fun _ _ => Or.inl))).tr (e4.mo (fun _ _ => Or.inr)), hw4, fun x hx => ?_⟩)
      dsimp only
      rw [hg4 x hx, felN_s]
      simp [hb]
  · rintro K ⟨x2, υ⟩ ⟨r2, e2, hw2, hg⟩
    dsimp only at r2 e2 hw2 hg ⊢
    subst r2
    unfold w_X4_findFelling_10
    refine ⟨hw2.p95.1, ?_⟩
    rw [show gi υ (gr υ 95 3) 8 = nI (c 0) from hw2.p95.2.1 0 (by decide), if_pos (by rw [jI_le (by omega) (by omega)]; exact Nat.le_refl _)]
    exact k υ e2 hw2 hg
/-- the greater of both sets that are left, by a look at x -/
def restF (c : Nat → Nat) (set x : Nat) : Nat := Nat.max (card (set &&& felF c set x)) (card (sd set (felF c set x)))
def tellS (c : Nat → Nat) (set : Nat) (p : Nat × Nat) (x : Nat) : Nat × Nat := if restF c set x < p.2 then (x + 1, restF c set x) else p
def tellF (c : Nat → Nat) (set : Nat) : Nat := (foldN (tellS c set) (0, card set) (c 0)).1
theorem jI_max {a b : Nat} (ha : a < 2147483648) (hb : b < 2147483648) : (if nI a < nI b then nI b else nI a) = nI (Nat.max a b) := by
  by_cases h : a < b
  · rw [if_pos ((jI_lt ha hb).mpr h)]; congr 1; show b = max a b; omega
  · rw [if_neg (fun q => h ((jI_lt ha hb).mp q))]; congr 1; show a = max a b; omega
theorem jI_min {a b : Nat} (ha : a < 2147483648) (hb : b < 2147483648) : (if nI a < nI b then nI a else nI b) = nI (Nat.min a b) := by
  by_cases h : a < b
  · rw [if_pos ((jI_lt ha hb).mpr h)]; congr 1; show a = min a b; omega
  · rw [if_neg (fun q => h ((jI_lt ha hb).mp q))]; congr 1; show b = min a b; omega
theorem restF_le {c : Nat → Nat} {set x : Nat} : restF c set x ≤ 12 := by
  have h1 := card_le (a := set &&& felF c set x)
  have h2 := card_le (a := sd set (felF c set x))
  show max _ _ ≤ 12
  omega
theorem tellF_le {c : Nat → Nat} {set n : Nat} : (foldN (tellS c set) (0, card set) n).1 ≤ n ∧ (foldN (tellS c set) (0, card set) n).2 ≤ card set :=
  foldN_inv (f := tellS c set) (a := (0, card set)) (fun j (p : Nat × Nat) => p.1 ≤ j ∧ p.2 ≤ card set) ⟨Nat.le_refl _, Nat.le_refl _⟩ (fun k p hp => by
    unfold tellS; split
    · exact ⟨Nat.le_refl _, by dsimp only; omega⟩
    · exact ⟨by omega, hp.2⟩) n
theorem and_12 {a b : Nat} (h : a < 4096) : a &&& b < 4096 := Nat.lt_of_le_of_lt Nat.and_le_left h
theorem sd_12' {a b : Nat} (h : a < 4096) : sd a b < 4096 := sd_12 (n := 12) h (Nat.le_refl _)
theorem c_bestLook {σ : Sto} {c : Nat → Nat} {P : Int32 → Sto → Prop} {N : Nat} (h : KW N σ c) (ok : OK c) (hN : N ≤ 2000) {set : Nat} (hset : set < 4096) (k : ∀ τ, Eo SQ σ τ → KW N τ c → P (oI (tellF c set)) τ) : w_X4_bestLook (nI set) σ P := by
  have := ok.n0
  unfold w_X4_bestLook
  refine c_findFelling h ok hN (fun τ e hw hg => ?_)
  rw [t_bitCount12 hset]
  have heq : Eo SQ σ τ := e.mo (fun a k q => by unfold S896 at q; unfold SQ; omega)
  refine Lp_det (c 0) (fun j => (oI (foldN (tellS c set) (0, card set) j).1, nI (foldN (tellS c set) (0, card set) j).2, nI j, τ)) rfl (fun j hj K hK => ?_) (fun K => ?_)
  · have hn : ¬ c 0 ≤ j := by omega
    have hle := tellF_le (c := c) (set := set) (n := j)
    have hcs := card_le (a := set)
    replace hK : K (oI (tellS c set (foldN (tellS c set) (0, card set) j) j).1, nI (tellS c set (foldN (tellS c set) (0, card set) j) j).2, nI (j + 1), τ) := hK
    generalize foldN (tellS c set) (0, card set) j = p at hle hK ⊢
    dsimp only
    unfold w_X4_bestLook_15
    refine ⟨hw.p95.1, ?_⟩
    rw [show gi τ (gr τ 95 3) 8 = nI (c 0) from hw.p95.2.1 0 (by decide)]
    have h1 := and_12 (b := felF c set j) hset
    have h2 := sd_12' (b := felF c set j) hset
    have h3 := card_le (a := set &&& felF c set j)
    have h4 := card_le (a := sd set (felF c set j))
    have h5 := restF_le (c := c) (set := set) (x := j)
    rw [if_neg (by rw [jI_le (by omega) (by omega)]; exact hn), tn_nI (by omega), hg j hj, jI_and, t_bitCount12 (and_12 hset), hg j hj, jI_andn, t_bitCount12 (sd_12' hset), jI_max (by omega) (by omega)]
    refine ⟨vp_nI (by omega) (by decide), ?_⟩
    simp only [N1, jI_add, forall_eq]
    unfold tellS at hK
    rw [show Nat.max (card (set &&& felF c set j)) (card (sd set (felF c set j))) = restF c set j from rfl]
    by_cases hl : restF c set j < p.2
    · rw [if_pos hl] at hK
      rw [if_neg (by rw [jI_le (by omega) (by omega)]; omega)]
      exact hK
    · rw [if_neg hl] at hK
      rw [if_pos (by rw [jI_le (by omega) (by omega)]; omega)]
      exact hK
  · dsimp only
    unfold w_X4_bestLook_15
    refine ⟨hw.p95.1, ?_⟩
    rw [show gi τ (gr τ 95 3) 8 = nI (c 0) from hw.p95.2.1 0 (by decide), if_pos (by rw [jI_le (by omega) (by omega)]; exact Nat.le_refl _)]
    exact k τ heq hw
/-- a set whose things all stand, so many at least -/
def susp (c : Nat → Nat) (fewest : Nat) (set : Nat) : Prop := fewest ≤ card set ∧ sd set (nowF c) = 0
theorem c_noSuspects {σ : Sto} {c : Nat → Nat} {P : Int32 → Sto → Prop} {N : Nat} (h : KW N σ c) (ok : OK c) (hN : N ≤ 2000) {x : Int32} {fw : Nat} (hfw : fw < 100)
    (k1 : ∀ τ, Eo SQ σ τ → KW N τ c → (∀ t, t < 2 ^ c 0 → x = nI t → ¬ susp c fw t) → P 1 τ) (k0 : ∀ t τ, t < 2 ^ c 0 → x = nI t → susp c fw t → Eo SQ σ τ → KW N τ c → P 0 τ) : w_X11_noSuspects x (nI fw) σ P := by
  have := pw12 ok
  unfold w_X11_noSuspects
  refine t_noSet h ok (fun hx => ?_) (fun hx => ?_)
  · rw [if_pos rfl]
    obtain ⟨t, ht, rfl⟩ := hx
    have hc := card_le (a := t)
    have uni : ∀ t', t' < 2 ^ c 0 → nI t = nI t' → t' = t := fun t' h1 h2 => ((jI_eq (by omega) (by omega)).mp h2).symm
    rw [t_bitCount12 (by omega)]
    by_cases hl : card t < fw
    · rw [if_pos ((jI_lt (by omega) (by omega)).mpr hl)]
      exact k1 σ Eo.rf h (fun t' h1 h2 q => by rw [uni t' h1 h2] at q; have := q.1; omega)
    · rw [if_neg (fun q => hl ((jI_lt (by omega) (by omega)).mp q))]
      refine t_atPresent h.kb.1 ok hN (fun τ e hs => ?_)
      have h2 := sd_12' (a := t) (b := nowF c) (by omega)
      rw [jI_andn, N0]
      by_cases hd : sd t (nowF c) = 0
      · rw [if_pos (by rw [hd])]
        exact k0 t τ ht rfl ⟨by omega, hd⟩ (e.mo (fun _ _ => S89q)) (h.e89 e hs)
      · rw [if_neg (by rw [jI_eq (by omega) (by decide)]; exact hd)]
        exact k1 τ (e.mo (fun _ _ => S89q)) (h.e89 e hs) (fun t' h1 h2 q => by rw [uni t' h1 h2] at q; exact hd q.2)
  · rw [if_neg (by decide)]
    exact k1 σ Eo.rf h (fun t h1 h2 => absurd ⟨t, h1, h2⟩ hx)
def suspA (c : Nat → Nat) (fw : Nat) (x : Int32) (A : Nat → Int32 × Int32) : Int32 × Int32 := if ¬ x < 0 ∧ x < nI (2 ^ c 0) then (if fw ≤ card (tn x) ∧ sd (tn x) (nowF c) = 0 then A (tn x) else (-1, 5)) else (-1, 5)
theorem suspA_pos {c : Nat → Nat} (ok : OK c) {fw t : Nat} {A : Nat → Int32 × Int32} (ht : t < 2 ^ c 0) (hs : susp c fw t) : suspA c fw (nI t) A = A t := by
  have := pw12 ok
  unfold suspA
  rw [ifD_pos ht (by omega), tn_nI (by omega)]
  exact if_pos hs
theorem suspA_neg {c : Nat → Nat} (ok : OK c) {fw : Nat} {x : Int32} {A : Nat → Int32 × Int32} (h : ∀ t, t < 2 ^ c 0 → x = nI t → ¬ susp c fw t) : suspA c fw x A = (-1, 5) := by
  have := pw12 ok
  by_cases hx : inD x (2 ^ c 0)
  · obtain ⟨t, ht, rfl⟩ := hx
    unfold suspA
    rw [ifD_pos ht (by omega), tn_nI (by omega)]
    exact if_neg (h t ht rfl)
  · exact ifD_neg hx (by omega)
def tellsA (c : Nat → Nat) (x : Int32) : Int32 × Int32 := suspA c 2 x (fun t => orA (tellF c t))
theorem c_tells {σ : Sto} {c : Nat → Nat} {P : Int32 → Sto → Prop} {N : Nat} (h : KW N σ c) (ok : OK c) (hN : N ≤ 2000) {x : Int32} (k : ∀ τ, Eo SQ σ τ → KW N τ c → gi τ 1 15 = (tellsA c x).2 → P (tellsA c x).1 τ) : w_X11_tells x σ P := by
  have := pw12 ok
  have := ok.n0
  unfold tellsA at k
  unfold w_X11_tells
  rw [N2]
  refine c_noSuspects h ok hN (by decide) (fun τ e hw hn => ?_) (fun t τ ht hxt hsu e hw => ?_)
  · rw [suspA_neg ok hn] at k
    rw [if_neg (by decide)]
    exact k _ (e.tr stq) hw.st gi_si_s
  · subst hxt
    rw [suspA_pos ok ht hsu] at k
    rw [if_pos rfl]
    refine c_bestLook hw ok hN (by omega) (fun υ e2 hw2 => ?_)
    have hle : tellF c t ≤ c 0 := tellF_le.1
    refine t_fineOrNone (by omega) ?_
    exact k _ ((e.tr e2).tr stq) hw2.st gi_si_s
theorem m_or2 {σ τ : Sto} {P : Int32 → Sto → Prop} {m : Nat} (hm : m < 2147483648) (e : Eo SM σ τ) (h0 : gi τ 101 0 = 0) (k : ∀ τ, Eo SM σ τ → gi τ 101 0 = (orA m).2 → P (orA m).1 τ) : (if 0 ≤ oI m then P (oI m) τ else w_X12_refuse 8 τ (fun r σ => P r σ)) := by
  by_cases hz : m = 0
  · subst hz
    rw [if_neg (by decide)]
    exact k _ (e.tr sm0) gi_si_s
  · rw [if_pos ((oI_ge hm).mpr hz)]
    refine k _ e ?_
    rw [h0]
    unfold orA
    rw [if_neg hz]
def S114 (a _ : Nat) : Prop := a = 114
theorem S114m {a k : Nat} (h : S114 a k) : SM a k := by unfold S114 at h; unfold SM; omega
theorem m_laysFalls {σ : Sto} {c : Nat → Nat} {P : Sto → Prop} (h : MR σ c) (ok : OK c) {set : Nat} (k : ∀ τ, Eo S114 σ τ → MR τ c → (∀ x, x < c 0 → gi τ 114 x = nI (felF c set x)) → P τ) : w_X12_laysFalls (nI set) σ P := by
  have := ok.n0
  unfold w_X12_laysFalls
  refine Lp_for (c 0) (fun j q => q.1 = nI j ∧ Eo S114 σ q.2 ∧ ∀ x, x < j → gi q.2 114 x = 0) ⟨rfl, Eo.rf, fun x hx => absurd hx (Nat.not_lt_zero _)⟩ ?_ ?_
  · rintro j hj K ⟨x2, υ⟩ ⟨r2, e2, hg⟩ hK
    dsimp only at r2 e2 hg hK ⊢
    subst r2
    have hn : ¬ c 0 ≤ j := by omega
    have hs := h.sm (e2.mo (fun _ _ => S114m))
    unfold w_X12_laysFalls_2
    rw [hs 0 (by decide)]
    simp (disch := omega) only [N0, N1, N2, N3, N4, N5, N6, N7, N8, N9, N10, N11, N12, N13, N14, N15, N16, N17, N18, N19, N20, N21, N22, N23, N24, N25, N26, N27, N28, N29, N30, N32, N33, N34, N35, N36, N37, N38, N39, N40, N41, N42, N43, N44, N45, N46, N47, N48, N49, N50, N51, N52, N53, N54, N55, N56, N57, N58, N59, N60, N61, N62, N63, N64, N90, N96, N97, N98, N99, N100, N102, N103, N104, N107, N108, N109, N110, N111, N112, N114, N115, N116, N117, N118, N119, N120, N121, N122, N130, N138, N141, N142, N143, N144, N156, N240, N255, N256, N300, N400, N420, N421, N600, N900, N999, N1000, N1684, N2104, N2105, N2971, N4095, N4096, N9999, N10000, N10663, N65536, jI_add, jI_mul, jI_and, jI_or, jI_xor, jI_andn, jI_31, jI_shl, Nat.one_shiftLeft, jI_le, jI_lt, jI_eq, tn_nI, tc_nI, vp_nI, jI_allF, jI_bit, jI_bit0, jI_noneN, bI_N0, bI_N1, forall_eq, true_and, ↓reduceIte, hn]
    refine hK _ ⟨rfl, e2.tr (Eo.si rfl), fun x hx => ?_⟩
    dsimp only
    by_cases hxj : x = j
    · subst hxj; exact gi_si_s
    · rw [gi_si_k hxj]; exact hg x (by omega)
  · rintro K ⟨x2, τ⟩ ⟨r2, e1, hz⟩
    dsimp only at r2 e1 hz ⊢
    subst r2
    have hs := h.sm (e1.mo (fun _ _ => S114m))
    unfold w_X12_laysFalls_2
    rw [hs 0 (by decide), if_pos (by rw [jI_le (by omega) (by omega)]; exact Nat.le_refl _)]
    refine Lp_for (c 0) (fun j q => q.1 = nI j ∧ Eo S114 σ q.2 ∧ ∀ x, x < c 0 → gi q.2 114 x = nI (felN c set x j)) ⟨rfl, e1, hz⟩ ?_ ?_
    · rintro j hj K ⟨x2, υ⟩ ⟨r2, e2, hg⟩ hK
      dsimp only at r2 e2 hg hK ⊢
      subst r2
      have hn : ¬ c 0 ≤ j := by omega
      have hs := h.sm (e2.mo (fun _ _ => S114m))
      unfold w_X12_laysFalls_27
      rw [hs 0 (by decide), if_neg (by rw [jI_le (by omega) (by omega)]; exact hn), t_has (by omega)]
      cases hb : set.testBit j <;> simp only [bI, Bool.false_eq_true, ↓reduceIte]
      · rintro x rfl
        rw [N1, jI_add]
        refine hK _ ⟨rfl, e2, fun x hx => ?_⟩
        dsimp only
        rw [hg x hx, felN_s]
        simp [hb]
      · rw [if_neg (by decide)]
        refine t_fallsWith hs ok hj ?_
        refine Lp_for (c 0) (fun i q => q.1 = nI i ∧ Eo S114 σ q.2 ∧ ∀ x, x < c 0 → gi q.2 114 x = nI (if x < i then felN c set x (j + 1) else felN c set x j)) ⟨rfl, e2, fun x hx => by rw [if_neg (by omega)]; exact hg x hx⟩ ?_ ?_
        · rintro i hi K2 ⟨x4, φ⟩ ⟨r4, e3, hg3⟩ hK2
          dsimp only at r4 e3 hg3 hK2 ⊢
          subst r4
          have hni : ¬ c 0 ≤ i := by omega
          have hs3 := h.sm (e3.mo (fun _ _ => S114m))
          have hgi := hg3 i hi
          rw [if_neg (by omega)] at hgi
          unfold w_X12_laysFalls_57
          rw [hs3 0 (by decide), if_neg (by rw [jI_le (by omega) (by omega)]; exact hni), t_has (by omega)]
          refine ⟨vp_nI (by omega) (by decide), ?_⟩
          have fin : ∀ v, v = nI (felN c set i (j + 1)) → K2 (nI (i + 1), si φ 114 i v) := fun v hv => hK2 _ ⟨rfl, e3.tr (Eo.si rfl), fun x hx => by
            dsimp only
            by_cases hxi : x = i
            · subst hxi; rw [gi_si_s, if_pos (by omega)]; exact hv
            · rw [gi_si_k hxi, hg3 x hx]
              by_cases hxl : x < i
              · rw [if_pos hxl, if_pos (by omega)]
              · rw [if_neg hxl, if_neg (by omega)]⟩
          rw [tn_nI (by omega), hgi]
          rw [felN_s] at fin
          cases hf : (fallF c j).testBit i <;> simp only [hb, hf, bI, Bool.false_eq_true, and_false, and_self, ↓reduceIte] at fin ⊢
          · rintro x rfl
            rw [N1, jI_add, N0, jI_or, Nat.or_zero]
            exact fin _ rfl
          · rw [if_neg (by decide)]
            rintro x rfl
            rw [bit1 (by omega), N1, jI_add, jI_or]
            exact fin _ rfl
        · rintro K2 ⟨x4, φ⟩ ⟨r4, e3, hg3⟩
          dsimp only at r4 e3 hg3 ⊢
          subst r4
          have hs3 := h.sm (e3.mo (fun _ _ => S114m))
          unfold w_X12_laysFalls_57
          rw [hs3 0 (by decide), if_pos (by rw [jI_le (by omega) (by omega)]; exact Nat.le_refl _)]
          rintro x rfl
          rw [N1, jI_add]
          refine hK _ ⟨rfl, e3, fun x hx => ?_⟩
          have := hg3 x hx
          rw [if_pos hx] at this
          exact this
    · rintro K ⟨x2, υ⟩ ⟨r2, e2, hg⟩
      dsimp only at r2 e2 hg ⊢
      subst r2
      have hs := h.sm (e2.mo (fun _ _ => S114m))
      unfold w_X12_laysFalls_27
      rw [hs 0 (by decide), if_pos (by rw [jI_le (by omega) (by omega)]; exact Nat.le_refl _)]
      exact k υ e2 hs hg
theorem card_0 : card 0 = 0 := by decide
theorem sd_0 {a : Nat} : sd a 0 = a := by simp [sd]
theorem and_0 {a : Nat} : a &&& 0 = 0 := Nat.and_zero a
theorem m_tells {σ : Sto} {c : Nat → Nat} {P : Int32 → Sto → Prop} (h : MR σ c) (ok : OK c) {x : Int32} (k : ∀ τ, Eo SM σ τ → gi τ 101 0 = (tellsA c x).2 → P (tellsA c x).1 τ) : w_X12_tells x σ P := by
  have := ok.n0
  have := pw12 ok
  have hs : MR (si (si σ 101 1 0) 101 0 0) c := h.sm sm10
  have hst0 : gi (si (si σ 101 1 0) 101 0 0) 101 0 = 0 := gi_si_s
  have he : Eo SM σ (si (si σ 101 1 0) 101 0 0) := sm10
  unfold tellsA at k
  unfold w_X12_tells
  generalize si (si σ 101 1 0) 101 0 0 = τ at hs hst0 he ⊢
  have bad : (∀ t, t < 2 ^ c 0 → x = nI t → ¬ susp c 2 t) → w_X12_tells_37 τ P := fun hn => by
    rw [suspA_neg ok hn] at k
    exact k _ (he.tr sm0) gi_si_s
  refine t_isSet hs ok (fun hx => ?_) (fun hx => ?_)
  · rw [if_neg (by decide)]
    obtain ⟨t, ht, rfl⟩ := hx
    have hct := card_le (a := t)
    have uni : ∀ t', t' < 2 ^ c 0 → nI t = nI t' → t' = t := fun t' h1 h2 => ((jI_eq (by omega) (by omega)).mp h2).symm
    refine t_sizeOf12 (by omega) ?_
    rw [N2]
    by_cases hl : card t < 2
    · rw [if_pos ((jI_lt (by omega) (by omega)).mpr hl)]
      exact bad (fun t' h1 h2 q => by rw [uni t' h1 h2] at q; have := q.1; omega)
    · rw [if_neg (fun q => hl ((jI_lt (by omega) (by omega)).mp q))]
      refine t_now hs ok ?_
      have h2 := sd_12' (a := t) (b := nowF c) (by omega)
      rw [jI_andn, N0]
      by_cases hd : sd t (nowF c) = 0
      · rw [suspA_pos ok ht ⟨by omega, hd⟩] at k
        rw [if_pos (by rw [hd])]
        refine m_laysFalls hs ok (fun υ e2 hs2 hg => ?_)
        have he2 : Eo SM σ υ := he.tr (e2.mo (fun _ _ => S114m))
        have hst2 : gi υ 101 0 = 0 := by rw [e2.1 101 0 (by unfold S114; decide)]; exact hst0
        refine t_sizeOf12 (by omega) ?_
        refine Lp_det (c 0) (fun j => (oI (foldN (tellS c t) (0, card t) j).1, nI (foldN (tellS c t) (0, card t) j).2, nI j, υ)) rfl (fun j hj K hK => ?_) (fun K => ?_)
        · have hn : ¬ c 0 ≤ j := by omega
          have hle := tellF_le (c := c) (set := t) (n := j)
          replace hK : K (oI (tellS c t (foldN (tellS c t) (0, card t) j) j).1, nI (tellS c t (foldN (tellS c t) (0, card t) j) j).2, nI (j + 1), υ) := hK
          generalize foldN (tellS c t) (0, card t) j = p at hle hK ⊢
          have h3 := card_le (a := t &&& felF c t j)
          have h4 := card_le (a := sd t (felF c t j))
          have h5 := restF_le (c := c) (set := t) (x := j)
          dsimp only
          unfold w_X12_tells_58
          rw [hs2 0 (by decide), if_neg (by rw [jI_le (by omega) (by omega)]; exact hn), tn_nI (by omega), hg j hj, jI_and]
          refine ⟨vp_nI (by omega) (by decide), t_sizeOf12 (and_12 (by omega)) ?_⟩
          rw [hg j hj, jI_andn]
          refine t_sizeOf12 (sd_12' (by omega)) ?_
          rw [jI_max (by omega) (by omega), show Nat.max (card (t &&& felF c t j)) (card (sd t (felF c t j))) = restF c t j from rfl]
          rintro x5 rfl
          refine t_now hs2 ok ?_
          rw [t_has (by omega)]
          have skip : ¬ restF c t j < p.2 → K (oI p.1, nI p.2, nI (j + 1), υ) := fun hl => by
            unfold tellS at hK
            rw [if_neg hl] at hK
            exact hK
          cases hb : (nowF c).testBit j <;> simp only [bI, Bool.false_eq_true, ↓reduceIte]
          · rintro x rfl
            rw [N1, jI_add]
            refine skip ?_
            unfold restF
            rw [felF_out hb, and_0, sd_0, card_0]
            show ¬ max 0 (card t) < p.2
            omega
          · rw [if_neg (by decide)]
            by_cases hl : restF c t j < p.2
            · rw [if_pos ((jI_lt (by omega) (by omega)).mpr hl)]
              rintro x rfl
              unfold tellS at hK
              rw [if_pos hl] at hK
              rw [N1, jI_add]
              exact hK
            · rw [if_neg (fun q => hl ((jI_lt (by omega) (by omega)).mp q))]
              rintro x rfl
              rw [N1, jI_add]
              exact skip hl
        · dsimp only
          unfold w_X12_tells_58
          rw [hs2 0 (by decide), if_pos (by rw [jI_le (by omega) (by omega)]; exact Nat.le_refl _)]
          have hle : tellF c t ≤ c 0 := tellF_le.1
          exact m_or2 (m := tellF c t) (by omega) he2 hst2 k
      · rw [if_neg (by rw [jI_eq (by omega) (by decide)]; exact hd)]
        exact bad (fun t' h1 h2 q => by rw [uni t' h1 h2] at q; exact hd q.2)
  · rw [if_pos rfl]
    exact bad (fun t h1 h2 => absurd ⟨t, h1, h2⟩ hx)
