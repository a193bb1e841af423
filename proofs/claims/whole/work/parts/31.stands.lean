/-! ===== the city, in the model's layout; what stands ===== -/
def allF (n : Nat) : Nat := 2 ^ n - 1
def madeF (c : Nat → Nat) : Nat := foldN (fun s m => s ||| 2 ^ c (20 + m)) 0 (c 1)
def stepF (c : Nat → Nat) (g mk s m : Nat) : Nat := if mk.testBit m && (sd (c (36 + m)) s == 0) && !g.testBit (c (20 + m)) then s ||| 2 ^ c (20 + m) else s
def passF (c : Nat → Nat) (g mk s : Nat) : Nat := foldN (stepF c g mk) s (c 1)
def stI (c : Nat → Nat) (g mk : Nat) : Nat → Nat
  | 0 => sd (sd (allF (c 0)) (madeF c)) g
  | r + 1 => passF c g mk (stI c g mk r)
def stF (c : Nat → Nat) (g mk : Nat) : Nat := stI c g mk 13
def OK (c : Nat → Nat) : Prop :=
  c 0 ≤ 12 ∧ c 1 ≤ 16 ∧ c 2 ≤ 6 ∧ c 3 ≤ 6 ∧ c 4 ≤ 2 ∧ c 5 ≤ 9999 ∧ c 6 < 2 ^ c 0 ∧ c 7 < 2 ^ c 0 ∧
  (∀ t, t < c 0 → c (8 + t) ≤ 99) ∧ (∀ m, m < c 1 → c (20 + m) < c 0) ∧ (∀ m, m < c 1 → c (36 + m) < 2 ^ c 0) ∧ (∀ m, m < c 1 → (c (36 + m)).testBit (c (20 + m)) = false) ∧
  (∀ w, w < c 2 → c (52 + w) < 2 ^ c 0) ∧ (∀ v, v < c 3 → ∀ t, t < 12 → c (58 + 12 * v + t) ≤ 9) ∧ (∀ t, t < c 0 → c (130 + t) < 2 ^ c 0) ∧ (∀ t, t < c 0 → (c (130 + t)).testBit t = false)
def MR (σ : Sto) (c : Nat → Nat) : Prop := ∀ k, k < 421 → gi σ 106 k = nI (c k)
/-! == sets as numbers == -/
def sub (a b : Nat) : Prop := ∀ k, a.testBit k = true → b.testBit k = true
theorem sub.rf {a : Nat} : sub a a := fun _ h => h
theorem sub.tr {a b c : Nat} (h : sub a b) (g : sub b c) : sub a c := fun k q => g k (h k q)
theorem sub.asym {a b : Nat} (h : sub a b) (g : sub b a) : a = b := Nat.eq_of_testBit_eq (fun k => by
  have h1 := h k; have h2 := g k
  cases ha : a.testBit k <;> cases hb : b.testBit k <;> simp_all)
theorem sub_or {a b : Nat} : sub a (a ||| b) := fun k h => by rw [Nat.testBit_or, h]; rfl
theorem sub_sd {a b : Nat} : sub (sd a b) a := fun k h => by rw [sd_bit] at h; simp at h; exact h.1
theorem sd_zero {a b : Nat} : sd a b = 0 ↔ sub a b := by
  constructor
  · intro h k hk
    have : (sd a b).testBit k = false := by rw [h]; simp
    rw [sd_bit, hk] at this
    simpa using this
  · intro h
    apply Nat.eq_of_testBit_eq
    intro k
    rw [sd_bit, Nat.zero_testBit]
    have := h k
    cases ha : a.testBit k <;> cases hb : b.testBit k <;> simp_all
theorem lt_two {a n : Nat} : a < 2 ^ n ↔ ∀ k, n ≤ k → a.testBit k = false := by
  constructor
  · intro h k hk
    exact Nat.testBit_lt_two_pow (Nat.lt_of_lt_of_le h (Nat.pow_le_pow_right (by decide) hk))
  · intro h
    exact Nat.lt_pow_two_of_testBit a (fun i hi => h i hi)
theorem two_bit {m k : Nat} : (2 ^ m).testBit k = decide (m = k) := Nat.testBit_two_pow
theorem allF_bit {n k : Nat} : (allF n).testBit k = decide (k < n) := by
  show (2 ^ n - 1).testBit k = _
  rw [Nat.testBit_two_pow_sub_one]
theorem sub_lt {a b n : Nat} (h : sub a b) (hb : b < 2 ^ n) : a < 2 ^ n := lt_two.mpr (fun k hk => by
  have h1 := lt_two.mp hb k hk
  cases ha : a.testBit k with
  | false => rfl
  | true => rw [h k ha] at h1; cases h1)
theorem or_lt {a b n : Nat} (ha : a < 2 ^ n) (hb : b < 2 ^ n) : a ||| b < 2 ^ n := Nat.or_lt_two_pow ha hb
theorem two_lt {m n : Nat} (h : m < n) : 2 ^ m < 2 ^ n := Nat.pow_lt_pow_right (by decide) h
theorem p12 {a n : Nat} (h : a < 2 ^ n) (hn : n ≤ 12) : a < 4096 := Nat.lt_of_lt_of_le h (by
  have : (4096 : Nat) = 2 ^ 12 := by decide
  rw [this]; exact Nat.pow_le_pow_right (by decide) hn)
/-- how many there are, below 12 -/
def card (a : Nat) : Nat := foldN (fun n k => n + (a.testBit k).toNat) 0 12
theorem foldN_le {f g : Nat → Nat} : ∀ n, (∀ k, k < n → f k ≤ g k) → foldN (fun s k => s + f k) 0 n ≤ foldN (fun s k => s + g k) 0 n
  | 0, _ => Nat.le_refl _
  | n + 1, h => Nat.add_le_add (foldN_le n (fun k hk => h k (by omega))) (h n (by omega))
theorem foldN_lt {f g : Nat → Nat} : ∀ n, (∀ k, k < n → f k ≤ g k) → (∃ k, k < n ∧ f k < g k) → foldN (fun s k => s + f k) 0 n < foldN (fun s k => s + g k) 0 n
  | 0, _, h => by obtain ⟨k, hk, -⟩ := h; omega
  | n + 1, h, ⟨k, hk, hl⟩ => by
    show _ + f n < _ + g n
    by_cases hkn : k = n
    · subst hkn
      have := foldN_le k (fun j hj => h j (by omega))
      omega
    · have := foldN_lt n (fun j hj => h j (by omega)) ⟨k, by omega, hl⟩
      have := h n (by omega)
      omega
theorem card_le {a : Nat} : card a ≤ 12 := by
  have h1 : card a ≤ foldN (fun s _ => s + 1) 0 12 := foldN_le 12 (fun k _ => by cases a.testBit k <;> decide)
  exact h1
theorem card_mono {a b : Nat} (h : sub a b) : card a ≤ card b := foldN_le 12 (fun k _ => by
  have := h k
  cases ha : a.testBit k <;> cases hb : b.testBit k <;> simp_all)
theorem card_lt {a b : Nat} (h : sub a b) (hb : b < 4096) (hne : a ≠ b) : card a < card b := by
  refine foldN_lt 12 (fun k _ => by
    have := h k
    cases ha : a.testBit k <;> cases hb : b.testBit k <;> simp_all) ?_
  refine Classical.byContradiction (fun hc => hne (sub.asym h (fun k hk => ?_)))
  have hk12 : k < 12 := Classical.byContradiction (fun q => by
    have : b.testBit k = false := lt_two.mp (show b < 2 ^ 12 from hb) k (by omega)
    rw [this] at hk; cases hk)
  cases ha : a.testBit k with
  | true => rfl
  | false => exact absurd ⟨k, hk12, by rw [ha, hk]; decide⟩ hc
/-! == the closure == -/
theorem stepF_sub {c : Nat → Nat} {g mk s m : Nat} : sub s (stepF c g mk s m) := by
  unfold stepF; split
  · exact sub_or
  · exact sub.rf
theorem passF_sub {c : Nat → Nat} {g mk s : Nat} : sub s (passF c g mk s) :=
  foldN_inv (f := stepF c g mk) (fun _ x => sub s x) sub.rf (fun _ _ h => h.tr stepF_sub) _
theorem stepF_lt {c : Nat → Nat} {g mk s m n : Nat} (hs : s < 2 ^ n) (hm : c (20 + m) < n) : stepF c g mk s m < 2 ^ n := by
  unfold stepF; split
  · exact or_lt hs (two_lt hm)
  · exact hs
theorem foldN_inv2 {α : Type} {f : α → Nat → α} {a : α} (N : Nat) (I : Nat → α → Prop) (h0 : I 0 a) (hs : ∀ k x, k < N → I k x → I (k + 1) (f x k)) : ∀ n, n ≤ N → I n (foldN f a n)
  | 0, _ => h0
  | n + 1, h => hs n _ (by omega) (foldN_inv2 N I h0 hs n (by omega))
theorem passF_lt {c : Nat → Nat} (h : OK c) {g mk s : Nat} (hs : s < 2 ^ c 0) : passF c g mk s < 2 ^ c 0 :=
  foldN_inv2 (c 1) (fun _ x => x < 2 ^ c 0) hs (fun k x hk hx => stepF_lt hx (h.2.2.2.2.2.2.2.2.2.1 k hk)) _ (Nat.le_refl _)
theorem stI_lt {c : Nat → Nat} (h : OK c) {g mk : Nat} : ∀ r, stI c g mk r < 2 ^ c 0
  | 0 => sub_lt (sub_sd.tr sub_sd) (by have := Nat.two_pow_pos (c 0); show 2 ^ c 0 - 1 < _; omega)
  | r + 1 => passF_lt h (stI_lt h r)
theorem stI_fix {c : Nat → Nat} {g mk r : Nat} (h : stI c g mk (r + 1) = stI c g mk r) : ∀ d, stI c g mk (r + d) = stI c g mk r
  | 0 => rfl
  | d + 1 => by
    show passF c g mk (stI c g mk (r + d)) = _
    rw [stI_fix h d]
    exact h
theorem stI_card {c : Nat → Nat} (h : OK c) {g mk : Nat} : ∀ r, (∀ j, j < r → stI c g mk (j + 1) ≠ stI c g mk j) → r ≤ card (stI c g mk r)
  | 0, _ => Nat.zero_le _
  | r + 1, hn => by
    have h1 := stI_card h (g := g) (mk := mk) r (fun j hj => hn j (by omega))
    have h2 : card (stI c g mk r) < card (stI c g mk (r + 1)) := card_lt passF_sub (p12 (stI_lt h _) h.1) (fun e => hn r (by omega) e.symm)
    omega
theorem stI_stop {c : Nat → Nat} (h : OK c) {g mk : Nat} : ∃ r, r ≤ 12 ∧ stI c g mk (r + 1) = stI c g mk r := by
  refine Classical.byContradiction (fun hc => ?_)
  have := stI_card h (g := g) (mk := mk) 13 (fun j hj e => hc ⟨j, by omega, e⟩)
  have := card_le (a := stI c g mk 13)
  omega
theorem stF_of {c : Nat → Nat} (h : OK c) {g mk r : Nat} (hr : r ≤ 13) (he : stI c g mk (r + 1) = stI c g mk r) : stI c g mk r = stF c g mk := by
  have := stI_fix he (13 - r)
  rw [← this]
  unfold stF
  congr 1
  omega
theorem stF_pass {c : Nat → Nat} (h : OK c) {g mk : Nat} : passF c g mk (stF c g mk) = stF c g mk := by
  obtain ⟨r, hr, he⟩ := stI_stop h (g := g) (mk := mk)
  rw [← stF_of h (by omega) he]
  exact he
theorem stI_13 {c : Nat → Nat} (h : OK c) {g mk : Nat} : stI c g mk 13 = stI c g mk 12 := by
  obtain ⟨r, hr, he⟩ := stI_stop h (g := g) (mk := mk)
  have h1 := stI_fix he (12 - r)
  have h2 := stI_fix he (13 - r)
  rw [show r + (12 - r) = 12 by omega] at h1
  rw [show r + (13 - r) = 13 by omega] at h2
  rw [h1, h2]
theorem stF_lt {c : Nat → Nat} (h : OK c) {g mk : Nat} : stF c g mk < 2 ^ c 0 := stI_lt h 13
