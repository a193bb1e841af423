/-! ===== promises 43, 44: again; what makings make ===== -/
def isLsG (n : Nat) (T : Nat → Bool) (r : Nat) : Prop := (r = 0 ∧ ∀ s, s < n → T s = false) ∨ ∃ s, r = s + 1 ∧ s < n ∧ T s = true ∧ ∀ s', s' < n → T s' = true → pop s < pop s' ∨ (pop s = pop s' ∧ s ≤ s')
theorem isLsG.uniq {n : Nat} {T : Nat → Bool} {r q : Nat} (h : isLsG n T r) (g : isLsG n T q) : r = q := by
  rcases h with ⟨h1, h2⟩ | ⟨s, h1, h2, h3, h4⟩
  · rcases g with ⟨g1, g2⟩ | ⟨t, g1, g2, g3, g4⟩
    · omega
    · rw [h2 t g2] at g3; cases g3
  · rcases g with ⟨g1, g2⟩ | ⟨t, g1, g2, g3, g4⟩
    · rw [g2 s h2] at h3; cases h3
    · have a := h4 t g2 g3
      have b := g4 s h2 h3
      omega
def lgS (T : Nat → Bool) (b s : Nat) : Nat := if (b = 0 ∨ pop s < pop (b - 1)) ∧ T s = true then s + 1 else b
def lgF (T : Nat → Bool) (n : Nat) : Nat := foldN (lgS T) 0 n
theorem lgF_in {T : Nat → Bool} : ∀ n, isLsG n T (lgF T n)
  | 0 => Or.inl ⟨rfl, fun s hs => absurd hs (Nat.not_lt_zero _)⟩
  | n + 1 => by
    have ih := lgF_in (T := T) n
    show isLsG (n + 1) T (lgS T (lgF T n) n)
    generalize lgF T n = b at ih ⊢
    unfold lgS
    by_cases hc : (b = 0 ∨ pop n < pop (b - 1)) ∧ T n = true
    · rw [if_pos hc]
      refine Or.inr ⟨n, rfl, by omega, hc.2, fun s' hs' ht' => ?_⟩
      by_cases hsn : s' = n
      · rw [hsn]; exact Or.inr ⟨rfl, Nat.le_refl _⟩
      · rcases ih with ⟨i1, i2⟩ | ⟨s, i1, i2, i3, i4⟩
        · rw [i2 s' (by omega)] at ht'; cases ht'
        · have h6 := i4 s' (by omega) ht'
          have h7 : pop n < pop s := by
            rcases hc.1 with q | q
            · omega
            · rw [i1, Nat.add_sub_cancel] at q; exact q
          omega
    · rw [if_neg hc]
      rcases ih with ⟨i1, i2⟩ | ⟨s, i1, i2, i3, i4⟩
      · refine Or.inl ⟨i1, fun s hs => ?_⟩
        by_cases hsn : s = n
        · cases ht : T s with
          | false => rfl
          | true => rw [hsn] at ht; exact absurd ⟨Or.inl i1, ht⟩ hc
        · exact i2 s (by omega)
      · refine Or.inr ⟨s, i1, by omega, i3, fun s' hs' ht' => ?_⟩
        by_cases hsn : s' = n
        · rw [hsn] at ht' ⊢
          have : ¬ pop n < pop s := fun q => hc ⟨Or.inr (by rw [i1, Nat.add_sub_cancel]; exact q), ht'⟩
          omega
        · exact i4 s' (by omega) ht'
theorem pop_mono {a b : Nat} (h : sub a b) : pop a ≤ pop b := foldN_le 16 (fun k _ => by
  have := h k
  cases ha : a.testBit k <;> cases hb : b.testBit k <;> simp_all)
theorem pop_lt {a b : Nat} (h : sub a b) (hb : b < 65536) (hne : a ≠ b) : pop a < pop b := by
  refine foldN_lt 16 (fun k _ => by
    have := h k
    cases ha : a.testBit k <;> cases hb : b.testBit k <;> simp_all) ?_
  refine Classical.byContradiction (fun hc => hne (sub.asym h (fun k hk => ?_)))
  have hk12 : k < 16 := Classical.byContradiction (fun q => by
    have : b.testBit k = false := lt_two.mp (show b < 2 ^ 16 from hb) k (by omega)
    rw [this] at hk; cases hk)
  cases ha : a.testBit k with
  | true => rfl
  | false => exact absurd ⟨k, hk12, by rw [ha, hk]; decide⟩ hc
theorem pop_or {g t : Nat} (ht : t < 16) (h : g.testBit t = false) : pop (g ||| 2 ^ t) = pop g + 1 := by
  have key : ∀ n, foldN (fun m k => m + ((g ||| 2 ^ t).testBit k).toNat) 0 n = foldN (fun m k => m + (g.testBit k).toNat) 0 n + (if t < n then 1 else 0) := fun n => by
    induction n with
    | zero => rfl
    | succ n ih =>
      show foldN (fun m k => m + ((g ||| 2 ^ t).testBit k).toNat) 0 n + ((g ||| 2 ^ t).testBit n).toNat = foldN (fun m k => m + (g.testBit k).toNat) 0 n + (g.testBit n).toNat + _
      rw [ih, Nat.testBit_or, two_bit]
      by_cases htn : t = n
      · subst htn
        rw [h]
        simp
      · have e1 : (if t < n + 1 then 1 else 0) = if t < n then 1 else 0 := by
          by_cases q : t < n
          · rw [if_pos q, if_pos (by omega)]
          · rw [if_neg q, if_neg (by omega)]
        rw [e1]
        simp [htn]
        omega
  have := key 16
  rw [if_pos ht] at this
  exact this
theorem or_le {a b m : Nat} (ha : a < 65536) (hb : b < 65536) (hm : m < 16) (h1 : a.testBit m = false) (h2 : b.testBit m = false) (hle : a ≤ b) : a ||| 2 ^ m ≤ b ||| 2 ^ m := by
  have key : ∀ x, x < 65536 → x.testBit m = false → x ||| 2 ^ m = x + 2 ^ m := fun x hx h => by
    have h4 : BitVec.ofNat 32 x &&& BitVec.ofNat 32 (2 ^ m) = 0#32 := by
      apply BitVec.eq_of_getLsbD_eq
      intro k hk
      rw [BitVec.getLsbD_and, BitVec.getLsbD_ofNat, BitVec.getLsbD_ofNat, two_bit]
      by_cases hkm : m = k
      · subst hkm; rw [h]; simp
      · simp [hkm]
    have h5 := BitVec.add_eq_or_of_and_eq_zero _ _ h4
    have h6 : (2 : Nat) ^ m < 65536 := two_lt (n := 16) hm
    have h7 : x ||| 2 ^ m < 65536 := or_lt (n := 16) hx h6
    have h8 : BitVec.ofNat 32 x ||| BitVec.ofNat 32 (2 ^ m) = BitVec.ofNat 32 (x ||| 2 ^ m) := by
      apply BitVec.eq_of_getLsbD_eq
      intro k hk
      rw [BitVec.getLsbD_or, BitVec.getLsbD_ofNat, BitVec.getLsbD_ofNat, BitVec.getLsbD_ofNat, Nat.testBit_or, decide_eq_true hk]
      simp
    rw [h8, ← BitVec.ofNat_add] at h5
    have h9 := congrArg BitVec.toNat h5
    rw [BitVec.toNat_ofNat, BitVec.toNat_ofNat, Nat.mod_eq_of_lt (by omega), Nat.mod_eq_of_lt (by omega)] at h9
    exact h9.symm
  rw [key a ha h1, key b hb h2]
  omega
/-- so many makings, one behind another, make just a set out of raw things -/
def MkN (c : Nat → Nat) (raw : Nat) : Nat → Nat → Nat → Prop
  | 0, M, X => M = 0 ∧ X = 0
  | k + 1, M, X => ∃ m M0, m < c 1 ∧ X.testBit (c (20 + m)) = true ∧ MkN c raw k M0 (sd X (2 ^ c (20 + m))) ∧ M = M0 ||| 2 ^ m ∧ sub (c (36 + m)) (sd X (2 ^ c (20 + m)) ||| raw)
theorem MkN.card {c : Nat → Nat} {raw : Nat} : ∀ k M X, MkN c raw k M X → X < 4096 → card X = k
  | 0, M, X, h, _ => by rw [h.2]; rfl
  | k + 1, M, X, h, hX => by
    obtain ⟨m, M0, h1, h2, h3, h4, h5⟩ := h
    have := MkN.card k M0 _ h3 (sd_12' hX)
    have := card_sd hX h2
    omega
theorem MkN.prod {c : Nat → Nat} {raw : Nat} : ∀ k M X, MkN c raw k M X → ∀ i, M.testBit i = true → i < c 1 ∧ X.testBit (c (20 + i)) = true
  | 0, M, X, h, i, hi => by rw [h.1, Nat.zero_testBit] at hi; cases hi
  | k + 1, M, X, h, i, hi => by
    obtain ⟨m, M0, h1, h2, h3, h4, h5⟩ := h
    rw [h4, Nat.testBit_or, two_bit, Bool.or_eq_true] at hi
    rcases hi with hi | hi
    · have := MkN.prod k M0 _ h3 i hi
      exact ⟨this.1, sub_sd _ this.2⟩
    · have : m = i := by simpa using hi
      rw [← this]
      exact ⟨h1, h2⟩
theorem MkN.new {c : Nat → Nat} {raw k M0 X m : Nat} (h : MkN c raw k M0 (sd X (2 ^ c (20 + m)))) : M0.testBit m = false := by
  cases hb : M0.testBit m with
  | false => rfl
  | true =>
    have := (MkN.prod k M0 _ h m hb).2
    rw [sd_bit, two_bit] at this
    simp at this
theorem MkN.lt {c : Nat → Nat} {raw k M X : Nat} (h : MkN c raw k M X) : M < 2 ^ c 1 := lt_two.mpr (fun i hi => by
  cases hb : M.testBit i with
  | false => rfl
  | true =>
    have := (MkN.prod k M X h i hb).1
    omega)
theorem pw16 {c : Nat → Nat} (ok : OK c) : 2 ^ c 1 ≤ 65536 := by
  have : (65536 : Nat) = 2 ^ 16 := by decide
  rw [this]; exact Nat.pow_le_pow_right (by decide) ok.n1
theorem MkN.pop {c : Nat → Nat} (ok : OK c) {raw : Nat} : ∀ k M X, MkN c raw k M X → pop M = k
  | 0, M, X, h => by rw [h.1]; decide
  | k + 1, M, X, h => by
    obtain ⟨m, M0, h1, h2, h3, h4, h5⟩ := h
    have := ok.n1
    rw [h4, pop_or (by omega) h3.new, MkN.pop ok k M0 _ h3]
theorem MkN.sound {c : Nat → Nat} (ok : OK c) : ∀ k M X, MkN c (baseF c (c 6)) k M X → (∀ p, X.testBit p = true → (c 6).testBit p = false) → sub X (stF c (c 6) M)
  | 0, M, X, h, _ => by rw [h.2]; exact fun k hk => by rw [Nat.zero_testBit] at hk; cases hk
  | k + 1, M, X, h, hg => by
    obtain ⟨m, M0, h1, h2, h3, h4, h5⟩ := h
    have ih := MkN.sound ok k M0 _ h3 (fun p hp => hg p (sub_sd p hp))
    have hMM : sub M0 M := by rw [h4]; exact sub_or
    have hin := ih.tr (stF_mk ok (g := c 6) hMM)
    have hp : (stF c (c 6) M).testBit (c (20 + m)) = true := stF_clo ok m h1 (by rw [h4, Nat.testBit_or, two_bit]; simp) (h5.tr (or_sub hin stF_base)) (hg _ h2)
    intro q hq
    by_cases hqp : c (20 + m) = q
    · rw [← hqp]; exact hp
    · exact hin q (by rw [sd_bit, two_bit, hq]; simp [hqp])
theorem MkN.full {c : Nat → Nat} {g M : Nat} : ∀ r, ∃ k M', sub M' M ∧ MkN c (baseF c g) k M' (sd (stI c g M r) (baseF c g)) ∧ sub (baseF c g) (stI c g M r) := by
  have step : ∀ S m, m < c 1 → (∃ k M', sub M' M ∧ MkN c (baseF c g) k M' (sd S (baseF c g)) ∧ sub (baseF c g) S) → ∃ k M', sub M' M ∧ MkN c (baseF c g) k M' (sd (stepF c g M S m) (baseF c g)) ∧ sub (baseF c g) (stepF c g M S m) := by
    rintro S m hm ⟨k, M', h1, h2, h3⟩
    unfold stepF
    by_cases hc : (M.testBit m && (sd (c (36 + m)) S == 0) && !g.testBit (c (20 + m))) = true
    · rw [if_pos hc]
      cases hS : S.testBit (c (20 + m)) with
      | true => rw [or_two hS]; exact ⟨k, M', h1, h2, h3⟩
      | false =>
        simp only [Bool.and_eq_true, beq_iff_eq, Bool.not_eq_true'] at hc
        have hb : (baseF c g).testBit (c (20 + m)) = false := by
          cases hb : (baseF c g).testBit (c (20 + m)) with
          | false => rfl
          | true => rw [h3 _ hb] at hS; cases hS
        have e1 : sd (sd (S ||| 2 ^ c (20 + m)) (baseF c g)) (2 ^ c (20 + m)) = sd S (baseF c g) := Nat.eq_of_testBit_eq (fun q => by
          rw [sd_bit, sd_bit, sd_bit, Nat.testBit_or, two_bit]
          by_cases hq : c (20 + m) = q
          · rw [← hq, hS]; simp
          · simp [hq])
        refine ⟨k + 1, M' ||| 2 ^ m, or_sub h1 (sub_two hc.1.1), ⟨m, M', hm, by rw [sd_bit, Nat.testBit_or, two_bit, hb]; simp, by rw [e1]; exact h2, rfl, ?_⟩, h3.tr sub_or⟩
        rw [e1]
        intro q hq
        have h4 := sd_zero.mp hc.1.2 q hq
        rw [Nat.testBit_or, sd_bit, h4]
        cases (baseF c g).testBit q <;> rfl
    · rw [if_neg hc]
      exact ⟨k, M', h1, h2, h3⟩
  intro r
  induction r with
  | zero => exact ⟨0, 0, (fun k hk => by rw [Nat.zero_testBit] at hk; cases hk), ⟨rfl, sd_zero.mpr sub.rf⟩, sub.rf⟩
  | succ r ih => exact foldN_inv2 (f := stepF c g M) (c 1) (fun _ S => ∃ k M', sub M' M ∧ MkN c (baseF c g) k M' (sd S (baseF c g)) ∧ sub (baseF c g) S) ih (fun m S hm hS => step S m hm hS) (c 1) (Nat.le_refl _)
theorem made_bitn {c : Nat → Nat} {m : Nat} : ∀ n, m < n → (foldN (fun s m => s ||| 2 ^ c (20 + m)) 0 n).testBit (c (20 + m)) = true
  | 0, h => absurd h (Nat.not_lt_zero _)
  | n + 1, h => by
    show (foldN (fun s m => s ||| 2 ^ c (20 + m)) 0 n ||| 2 ^ c (20 + n)).testBit _ = true
    rw [Nat.testBit_or, two_bit]
    by_cases hmn : m = n
    · rw [hmn]; simp
    · rw [made_bitn n (by omega)]; rfl
theorem st_made {c : Nat → Nat} {g mk : Nat} : sub (stF c g mk) (baseF c g ||| madeF c) :=
  stF_least sub_or (fun m hm _ _ _ => by
    rw [Nat.testBit_or]
    unfold madeF
    rw [made_bitn (c 1) hm]
    simp)
theorem base_made {c : Nat → Nat} {g t : Nat} (h : (baseF c g).testBit t = true) : (madeF c).testBit t = false := by
  unfold baseF at h
  rw [sd_bit, sd_bit] at h
  cases hm : (madeF c).testBit t with
  | false => rfl
  | true => rw [hm] at h; simp at h
theorem raw_base {c : Nat → Nat} : sd (nowF c) (madeF c) = baseF c (c 6) := sub.asym (fun k hk => by
    rw [sd_bit, Bool.and_eq_true] at hk
    have h1 := st_made (g := c 6) (mk := ALL) k hk.1
    rw [Nat.testBit_or, Bool.or_eq_true] at h1
    rcases h1 with q | q
    · exact q
    · rw [q] at hk; simp at hk) (fun k hk => by
    rw [sd_bit, base_made hk]
    have : (nowF c).testBit k = true := stF_base k hk
    rw [this]
    rfl)
def agaT (c : Nat → Nat) (t M : Nat) : Bool := (stF c (c 6) M).testBit t
def againF (c : Nat → Nat) (t : Nat) : Nat := lgF (agaT c t) (2 ^ c 1)
theorem ALL_sub {c : Nat → Nat} (ok : OK c) {M : Nat} (h : M < 2 ^ c 1) : sub M ALL := fun k hk => by
  have := bit_n h hk
  have := ok.n1
  exact ALL_bit (by omega)
theorem aga_none {c : Nat → Nat} (ok : OK c) {t : Nat} (h : (nowF c).testBit t = false) : againF c t = 0 :=
  (lgF_in (T := agaT c t) (2 ^ c 1)).uniq (Or.inl ⟨rfl, fun M hM => by
    cases hb : agaT c t M with
    | false => rfl
    | true =>
      have : (nowF c).testBit t = true := stF_mk ok (ALL_sub ok hM) t hb
      rw [this] at h
      cases h⟩)
theorem aga_raw {c : Nat → Nat} {t : Nat} (h : (nowF c).testBit t = true) (hm : (madeF c).testBit t = false) : againF c t = 1 :=
  (lgF_in (T := agaT c t) (2 ^ c 1)).uniq (Or.inr ⟨0, rfl, Nat.two_pow_pos _, by
    have h1 := st_made (g := c 6) (mk := ALL) t h
    rw [Nat.testBit_or, hm, Bool.or_false] at h1
    exact stF_base t h1, fun s' _ _ => by
    have : pop 0 = 0 := by decide
    omega⟩)
/-- the least of the smallest among what makes a set with t in it -/
theorem aga_of {c : Nat → Nat} (ok : OK c) {t M X : Nat} (hm : (madeF c).testBit t = true) (hX : sub X (nowF c &&& madeF c)) (ht : X.testBit t = true) (hMk : MkN c (baseF c (c 6)) (card X) M X)
    (hmin : ∀ M' X', sub X' (nowF c &&& madeF c) → X'.testBit t = true → MkN c (baseF c (c 6)) (card X') M' X' → card X < card X' ∨ (card X = card X' ∧ M ≤ M')) : againF c t = M + 1 := by
  have hnot : ∀ p, X.testBit p = true → (c 6).testBit p = false := fun p hp => by
    have h1 := hX p hp
    rw [Nat.testBit_and, Bool.and_eq_true] at h1
    exact up_not h1.1
  refine (lgF_in (T := agaT c t) (2 ^ c 1)).uniq (Or.inr ⟨M, rfl, hMk.lt, MkN.sound ok _ _ _ hMk hnot t ht, fun M1 hM1 hT1 => ?_⟩)
  obtain ⟨k, M', h1, h2, h3⟩ := MkN.full (c := c) (g := c 6) (M := M1) 13
  have hin : sub (sd (stF c (c 6) M1) (baseF c (c 6))) (nowF c &&& madeF c) := fun q hq => by
    rw [sd_bit, Bool.and_eq_true] at hq
    have a1 : (nowF c).testBit q = true := stF_mk ok (ALL_sub ok hM1) q hq.1
    have a2 := st_made q hq.1
    rw [Nat.testBit_or, Bool.or_eq_true] at a2
    rw [Nat.testBit_and, a1]
    rcases a2 with y | y
    · rw [y] at hq; simp at hq
    · rw [y]; rfl
  have htX : (sd (stF c (c 6) M1) (baseF c (c 6))).testBit t = true := by
    rw [sd_bit]
    have a1 : (stF c (c 6) M1).testBit t = true := hT1
    rw [a1]
    cases hb : (baseF c (c 6)).testBit t with
    | false => rfl
    | true => rw [base_made hb] at hm; cases hm
  have h2' : MkN c (baseF c (c 6)) k M' (sd (stF c (c 6) M1) (baseF c (c 6))) := h2
  have hX12 : sd (stF c (c 6) M1) (baseF c (c 6)) < 4096 := sd_12' (p12 (stF_lt ok) ok.n0)
  have hk := MkN.card _ _ _ h2' hX12
  rw [← hk] at h2'
  have h5 := hmin M' _ hin htX h2'
  have h6 := MkN.pop ok _ _ _ h2'
  have h7 := MkN.pop ok _ _ _ hMk
  by_cases he : M' = M1
  · rw [he] at h6 h5
    omega
  · have := pw16 ok
    have h8 := pop_lt h1 (by omega) he
    omega
