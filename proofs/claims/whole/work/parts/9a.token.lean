/-! ===== texts: tokens; the class goes to the next ===== -/
theorem s8_all : ∀ n, n < 256 → (n < 128 → s8 n = nI n) ∧ (128 ≤ n → s8 n < 0) ∧ s8 n &&& 255 = nI n := by decide +kernel
theorem s8_pos {n : Nat} (h : n < 128) : s8 n = nI n := (s8_all n (by omega)).1 h
theorem s8_neg {n : Nat} (h : n < 256) (h1 : 128 ≤ n) : s8 n < 0 := (s8_all n h).2.1 h1
theorem s8_and {n : Nat} (h : n < 256) : s8 n &&& 255 = nI n := (s8_all n h).2.2
def isL (x : Nat) : Prop := 97 ≤ x ∧ x ≤ 122
def isG (x : Nat) : Prop := 48 ≤ x ∧ x ≤ 57
def isW (x : Nat) : Prop := x = 32 ∨ x = 10
theorem cRg {n lo hi : Nat} {A B : Prop} (h : n < 256) (hlo : lo < 128) (hh : hi < 128) (k1 : lo ≤ n ∧ n ≤ hi → B) (k0 : ¬ (lo ≤ n ∧ n ≤ hi) → A) : if s8 n < nI lo then A else (if nI hi < s8 n then A else B) := by
  by_cases h8 : n < 128
  · rw [s8_pos h8]
    by_cases q1 : n < lo
    · rw [if_pos ((jI_lt (by omega) (by omega)).mpr q1)]
      exact k0 (by omega)
    · rw [if_neg (fun q => q1 ((jI_lt (by omega) (by omega)).mp q))]
      by_cases q2 : hi < n
      · rw [if_pos ((jI_lt (by omega) (by omega)).mpr q2)]
        exact k0 (by omega)
      · rw [if_neg (fun q => q2 ((jI_lt (by omega) (by omega)).mp q))]
        exact k1 (by omega)
  · have hn := s8_neg h (by omega)
    by_cases q1 : s8 n < nI lo
    · rw [if_pos q1]
      exact k0 (by omega)
    · rw [if_neg q1]
      by_cases q2 : nI hi < s8 n
      · rw [if_pos q2]
        exact k0 (by omega)
      · rw [if_neg q2]
        refine absurd ?_ q1
        rw [Int32.lt_iff_toInt_lt] at hn ⊢
        rw [jI_toInt (by omega)]
        have e1 : (0 : Int32).toInt = 0 := by decide
        omega
theorem s8_eq {n m : Nat} (h : n < 256) (hm : m < 128) : s8 n = nI m ↔ n = m := by
  by_cases h8 : n < 128
  · rw [s8_pos h8, jI_eq (by omega) (by omega)]
  · have hn := s8_neg h (by omega)
    constructor
    · intro q
      rw [q, Int32.lt_iff_toInt_lt, jI_toInt (by omega)] at hn
      have e1 : (0 : Int32).toInt = 0 := by decide
      omega
    · intro q; omega
/-- over d more bytes from p: past blanks, letters, digits -/
def skF (T : Nat → Nat) : Nat → Nat → Nat
  | 0, p => p
  | d + 1, p => if T p = 32 ∨ T p = 10 then skF T d (p + 1) else p
def leF (T : Nat → Nat) : Nat → Nat → Nat
  | 0, p => p
  | d + 1, p => if 97 ≤ T p ∧ T p ≤ 122 then leF T d (p + 1) else p
def diF (T : Nat → Nat) : Nat → Nat → Nat
  | 0, p => p
  | d + 1, p => if 48 ≤ T p ∧ T p ≤ 57 then diF T d (p + 1) else p
theorem skF_le {T : Nat → Nat} : ∀ d p, p ≤ skF T d p ∧ skF T d p ≤ p + d
  | 0, p => ⟨Nat.le_refl _, Nat.le_refl _⟩
  | d + 1, p => by
    have h := skF_le (T := T) d (p + 1)
    unfold skF
    split <;> omega
theorem leF_le {T : Nat → Nat} : ∀ d p, p ≤ leF T d p ∧ leF T d p ≤ p + d
  | 0, p => ⟨Nat.le_refl _, Nat.le_refl _⟩
  | d + 1, p => by
    have h := leF_le (T := T) d (p + 1)
    unfold leF
    split <;> omega
theorem diF_le {T : Nat → Nat} : ∀ d p, p ≤ diF T d p ∧ diF T d p ≤ p + d
  | 0, p => ⟨Nat.le_refl _, Nat.le_refl _⟩
  | d + 1, p => by
    have h := diF_le (T := T) d (p + 1)
    unfold diF
    split <;> omega
/-- k letters from a, packed; k digits from a -/
def pkF (T : Nat → Nat) (a : Nat) : Nat → Nat
  | 0 => 0
  | k + 1 => pkF T a k * 32 + (T (a + k) - 96)
def dgF (T : Nat → Nat) (a : Nat) : Nat → Nat
  | 0 => 0
  | k + 1 => dgF T a k * 10 + (T (a + k) - 48)
/-- what the class calls a text of n bytes -/
def TB (σ : Sto) (T : Nat → Nat) (n : Nat) : Prop := gi σ 10 3 = nI n ∧ n ≤ 900 ∧ ∀ k, k < n → gi σ 11 k = s8 (T k) ∧ T k < 256
def STk (a k : Nat) : Prop := a = 10 ∧ 4 ≤ k ∧ k ≤ 8
theorem TB.eo {σ τ : Sto} {T : Nat → Nat} {n : Nat} {S : Nat → Nat → Prop} (h : TB σ T n) (e : Eo S σ τ) (h3 : ¬ S 10 3) (h11 : ∀ k, ¬ S 11 k) : TB τ T n := ⟨by rw [e.1 10 3 h3]; exact h.1, h.2.1, fun k hk => by rw [e.1 11 k (h11 k)]; exact h.2.2 k hk⟩
theorem TB.tk {σ τ : Sto} {T : Nat → Nat} {n : Nat} (h : TB σ T n) (e : Eo STk σ τ) : TB τ T n := h.eo e (by unfold STk; omega) (fun k q => by unfold STk at q; omega)
theorem c_skip {T : Nat → Nat} {n : Nat} {P : Sto → Prop} : ∀ d p σ, p + d = n → TB σ T n → gi σ 10 4 = nI p → (∀ τ, Eo STk σ τ → gi τ 10 4 = nI (skF T d p) → w_X9_advance_52 τ P) → LpB (fun (K : Sto → Prop) s => w_X9_advance_0 K s P) (d + 1) σ
  | 0, p, σ, hd, hb, hp, k => by
    have h9 := hb.2.1
    refine LpB.go (fun K hK => ?_)
    unfold w_X9_advance_0
    rw [hb.1, hp, if_pos (by rw [jI_le (by omega) (by omega)]; omega)]
    exact k σ Eo.rf hp
  | d + 1, p, σ, hd, hb, hp, k => by
    have h9 := hb.2.1
    obtain ⟨b1, b2⟩ := hb.2.2 p (by omega)
    have kk := k σ Eo.rf
    unfold skF at k kk
    refine LpB.go (fun K hK => ?_)
    unfold w_X9_advance_0
    rw [hb.1, hp, if_neg (by rw [jI_le (by omega) (by omega)]; omega), tn_nI (by omega), b1, N1, jI_add, N32, N10]
    refine ⟨vp_nI (by omega) (by decide), ?_⟩
    have nx : T p = 32 ∨ T p = 10 → K (si σ 10 4 (nI (p + 1))) := fun hw => by
      rw [if_pos hw] at k
      have e : Eo STk σ (si σ 10 4 (nI (p + 1))) := Eo.si (by unfold STk; omega)
      exact hK _ (c_skip d (p + 1) _ (by omega) (hb.tk e) gi_si_s (fun τ e2 h2 => k τ (e.tr e2) h2))
    by_cases h32 : T p = 32
    · rw [if_pos ((s8_eq b2 (by decide)).mpr h32)]
      exact nx (Or.inl h32)
    · rw [if_neg (fun q => h32 ((s8_eq b2 (by decide)).mp q))]
      by_cases h10 : T p = 10
      · rw [if_pos ((s8_eq b2 (by decide)).mpr h10)]
        exact nx (Or.inr h10)
      · rw [if_neg (fun q => h10 ((s8_eq b2 (by decide)).mp q))]
        rw [if_neg (by omega)] at kk
        exact kk hp
