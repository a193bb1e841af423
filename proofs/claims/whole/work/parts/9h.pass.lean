/-! ===== texts: to pass a token, both sides ===== -/
def tokV (n : Nat) (t : TKn) : Prop := tokW t ∧ t.2.2.1 ≤ n
theorem tokF_V {T : Nat → Nat} {n p : Nat} (hT : ∀ k, k < n → T k < 256) (hp : p ≤ n) : tokV n (tokF T n p) := by
  have hs := skF_le (T := T) (n - p) p
  refine ⟨tokA_W hT, ?_⟩
  unfold tokF
  generalize skF T (n - p) p = a at hs
  have hl := leF_le (T := T) (n - a) a
  have hd := diF_le (T := T) (n - a) a
  unfold tokA
  split
  · dsimp only; omega
  · split
    · dsimp only; omega
    · split
      · split
        · dsimp only; omega
        · dsimp only; omega
      · split
        · dsimp only; omega
        · dsimp only; omega
def nxF (T : Nat → Nat) (n : Nat) (t : TKn) : TKn := tokF T n t.2.2.1
def RdC (σ : Sto) (T : Nat → Nat) (n : Nat) (t : TKn) : Prop := TB σ T n ∧ KC σ ∧ TKC σ t ∧ tokV n t
def RdM (σ : Sto) (T : Nat → Nat) (n : Nat) (t : TKn) : Prop := TBm σ T n ∧ TKM σ t ∧ tokV n t
theorem c_adv {σ : Sto} {T : Nat → Nat} {n : Nat} {t : TKn} {P : Sto → Prop} (h : RdC σ T n t) (k : ∀ τ, Eo STk σ τ → RdC τ T n (nxF T n t) → P τ) : w_X9_advance σ P := by
  obtain ⟨h1, h2, h3, h4⟩ := h
  exact c_advance h1 h2 h4.2 h3.2.1 (fun τ e ht => k τ e ⟨h1.tk e, h2.tk e, ht, tokF_V (fun k hk => (h1.2.2 k hk).2) h4.2⟩)
theorem m_adv {σ : Sto} {T : Nat → Nat} {n : Nat} {t : TKn} {P : Sto → Prop} (h : RdM σ T n t) (k : ∀ τ, Eo STm σ τ → RdM τ T n (nxF T n t) → P τ) : w_X12_advance σ P := by
  obtain ⟨h1, h3, h4⟩ := h
  exact m_advance h1 h4.2 h3.2.1 (fun τ e ht => k τ e ⟨h1.tk e, ht, tokF_V (fun k hk => (h1.2.2 k hk).2) h4.2⟩)
/-- the fault that a token makes of a fault -/
def fkF (t : TKn) (f : Nat) : Nat := if t.1 = 4 then 1 else f
def isSg (t : TKn) (x : Nat) : Prop := t.1 = 3 ∧ t.2.2.2.1 = x
def STf (a k : Nat) : Prop := a = 10 ∧ (k = 9 ∨ k = 10)
def SMf (a k : Nat) : Prop := a = 101 ∧ (k = 12 ∨ k = 13)
theorem c_kind {σ : Sto} {t : TKn} (h : TKC σ t) (hw : tokW t) : (gi σ 10 5 = 1 ↔ t.1 = 4) ∧ (gi σ 10 5 = 2 ↔ isNm t) ∧ (gi σ 10 5 = 5 ↔ t.1 = 2) ∧ (gi σ 10 5 = 6 ↔ t.1 = 3) ∧ (gi σ 10 5 = 0 ↔ t.1 = 0) ∧ (gi σ 10 5 = 3 ↔ (t.1 = 1 ∧ t.2.2.2.2 ≤ 8 ∧ kwF t.2.2.2.1 ≠ 0)) := by
  obtain ⟨h6, h4, a0, a1, a2, a3, a4⟩ := h
  have h14 := hw.1
  unfold isNm
  by_cases z0 : t.1 = 0
  · rw [a0 z0]
    refine ⟨?_, ?_, ?_, ?_, ?_, ?_⟩ <;> (constructor <;> intro q <;> first | (exact absurd q (by decide)) | omega | rfl)
  by_cases z2 : t.1 = 2
  · rw [(a2 z2).1]
    refine ⟨?_, ?_, ?_, ?_, ?_, ?_⟩ <;> (constructor <;> intro q <;> first | (exact absurd q (by decide)) | omega | rfl)
  by_cases z3 : t.1 = 3
  · rw [(a3 z3).1]
    refine ⟨?_, ?_, ?_, ?_, ?_, ?_⟩ <;> (constructor <;> intro q <;> first | (exact absurd q (by decide)) | omega | rfl)
  by_cases z4 : t.1 = 4
  · rw [a4 z4]
    refine ⟨?_, ?_, ?_, ?_, ?_, ?_⟩ <;> (constructor <;> intro q <;> first | (exact absurd q (by decide)) | omega | rfl)
  have z1 : t.1 = 1 := by omega
  obtain ⟨b1, b2⟩ := a1 z1
  by_cases z8 : t.2.2.2.2 ≤ 8
  · obtain ⟨c1, c2, c3⟩ := b1 z8
    by_cases zk : kwF t.2.2.2.1 = 0
    · rw [c2 zk]
      refine ⟨?_, ?_, ?_, ?_, ?_, ?_⟩ <;> (constructor <;> intro q <;> first | (exact absurd q (by decide)) | (exact ⟨z1, z8, zk⟩) | omega | rfl)
    · rw [(c3 zk).1]
      refine ⟨?_, ?_, ?_, ?_, ?_, ?_⟩ <;> (constructor <;> intro q <;> first | (exact absurd q (by decide)) | (exact ⟨z1, z8, zk⟩) | omega | rfl)
  · rw [b2 (by omega)]
    refine ⟨?_, ?_, ?_, ?_, ?_, ?_⟩ <;> (constructor <;> intro q <;> first | (exact absurd q (by decide)) | omega | rfl)
theorem c_fail {σ : Sto} {t : TKn} {f : Nat} {P : Int32 → Sto → Prop} (h : TKC σ t) (hw : tokW t) (k : ∀ τ, Eo STf σ τ → gi τ 10 9 = nI (fkF t f) → gi τ 10 10 = nI t.2.1 → P 0 τ) : w_X9_fail (nI f) σ P := by
  have hk := (c_kind h hw).1
  unfold w_X9_fail
  unfold fkF at k
  by_cases h4 : t.1 = 4
  · rw [if_pos h4] at k
    rw [if_pos (hk.mpr h4)]
    rintro _ rfl
    rw [gi_si_k (by decide), h.1]
    exact k _ ((Eo.si (by unfold STf; omega)).tr (Eo.si (by unfold STf; omega))) (by rw [gi_si_k (by decide), gi_si_s]; rfl) gi_si_s
  · rw [if_neg h4] at k
    rw [if_neg (fun q => h4 (hk.mp q))]
    rintro _ rfl
    rw [gi_si_k (by decide), h.1]
    exact k _ ((Eo.si (by unfold STf; omega)).tr (Eo.si (by unfold STf; omega))) (by rw [gi_si_k (by decide), gi_si_s]) gi_si_s
theorem c_isKeyword {σ : Sto} {t : TKn} {i : Nat} {P : Int32 → Sto → Prop} (h : TKC σ t) (hw : tokW t) (hi : i < 23) (k1 : isKw t i → P 1 σ) (k0 : ¬ isKw t i → P 0 σ) : w_X9_isKeyword (nI i) σ P := by
  have hk := (c_kind h hw).2.2.2.2.2
  obtain ⟨-, -, -, a1, -⟩ := h
  have hle := kwF_le (v := t.2.2.2.1)
  unfold isKw at k1 k0
  unfold w_X9_isKeyword
  generalize kwF t.2.2.2.1 = w at hk a1 hle k1 k0
  by_cases h3 : t.1 = 1 ∧ t.2.2.2.2 ≤ 8 ∧ w ≠ 0
  · have h7 : gi σ 10 7 = nI (w - 1) := (((a1 h3.1).1 h3.2.1).2.2 h3.2.2).2
    rw [if_pos (hk.mpr h3), h7]
    by_cases he : w = i + 1
    · rw [if_pos (by rw [he]; rfl)]
      exact k1 ⟨h3.1, h3.2.1, he⟩
    · rw [if_neg (by rw [jI_eq (by omega) (by omega)]; omega)]
      exact k0 (fun q => he q.2.2)
  · rw [if_neg (fun q => h3 (hk.mp q))]
    exact k0 (fun q => h3 ⟨q.1, q.2.1, by rw [q.2.2]; omega⟩)
theorem c_isSign {σ : Sto} {t : TKn} {x : Nat} {P : Int32 → Sto → Prop} (h : TKC σ t) (hw : tokW t) (hx : x < 256) (k1 : isSg t x → P 1 σ) (k0 : ¬ isSg t x → P 0 σ) : w_X9_isSign (nI x) σ P := by
  have hk := (c_kind h hw).2.2.2.1
  unfold w_X9_isSign
  by_cases h3 : t.1 = 3
  · have hv := hw.2.2.2.1 h3
    rw [if_pos (hk.mpr h3), (h.2.2.2.2.2.1 h3).2]
    by_cases he : t.2.2.2.1 = x
    · rw [if_pos (by rw [he])]
      exact k1 ⟨h3, he⟩
    · rw [if_neg (by rw [jI_eq (by omega) (by omega)]; exact he)]
      exact k0 (fun q => he q.2)
  · rw [if_neg (fun q => h3 (hk.mp q))]
    exact k0 (fun q => h3 q.1)
theorem c_passKeyword {σ : Sto} {T : Nat → Nat} {n i : Nat} {t : TKn} {P : Int32 → Sto → Prop} (h : RdC σ T n t) (hi : i < 23) (k1 : isKw t i → ∀ τ, Eo STk σ τ → RdC τ T n (nxF T n t) → P 1 τ) (k0 : ¬ isKw t i → ∀ τ, Eo STf σ τ → gi τ 10 9 = nI (fkF t 2) → gi τ 10 10 = nI t.2.1 → P 0 τ) : w_X9_passKeyword (nI i) σ P := by
  unfold w_X9_passKeyword
  refine c_isKeyword h.2.2.1 h.2.2.2.1 hi (fun q => ?_) (fun q => ?_)
  · rw [if_neg (show ¬ (1 : Int32) = 0 by decide)]
    exact c_adv h (k1 q)
  · rw [if_pos rfl]
    exact c_fail (f := 2) h.2.2.1 h.2.2.2.1 (fun τ e g9 g10 => ⟨Or.inl rfl, k0 q τ e g9 g10⟩)
theorem c_passSign {σ : Sto} {T : Nat → Nat} {n x : Nat} {t : TKn} {P : Int32 → Sto → Prop} (h : RdC σ T n t) (hx : x < 256) (k1 : isSg t x → ∀ τ, Eo STk σ τ → RdC τ T n (nxF T n t) → P 1 τ) (k0 : ¬ isSg t x → ∀ τ, Eo STf σ τ → gi τ 10 9 = nI (fkF t 2) → gi τ 10 10 = nI t.2.1 → P 0 τ) : w_X9_passSign (nI x) σ P := by
  unfold w_X9_passSign
  refine c_isSign h.2.2.1 h.2.2.2.1 hx (fun q => ?_) (fun q => ?_)
  · rw [if_neg (show ¬ (1 : Int32) = 0 by decide)]
    exact c_adv h (k1 q)
  · rw [if_pos rfl]
    exact c_fail (f := 2) h.2.2.1 h.2.2.2.1 (fun τ e g9 g10 => ⟨Or.inl rfl, k0 q τ e g9 g10⟩)
/-- a number's fault; 0: none -/
def nmF (lo hi : Nat) (t : TKn) : Nat := if t.1 = 2 then (if lo ≤ t.2.2.2.1 ∧ t.2.2.2.1 ≤ hi then 0 else 4) else fkF t 2
theorem c_passNumber {σ : Sto} {T : Nat → Nat} {n lo hi : Nat} {t : TKn} {P : Int32 → Sto → Prop} (h : RdC σ T n t) (hlo : lo < 10000) (hhi : hi < 10000) (k1 : nmF lo hi t = 0 → t.1 = 2 → lo ≤ t.2.2.2.1 → t.2.2.2.1 ≤ hi → ∀ τ, Eo STk σ τ → RdC τ T n (nxF T n t) → P (nI t.2.2.2.1) τ) (k0 : nmF lo hi t ≠ 0 → ∀ τ, Eo STf σ τ → gi τ 10 9 = nI (nmF lo hi t) → gi τ 10 10 = nI t.2.1 → P (-1) τ) : w_X9_passNumber (nI lo) (nI hi) σ P := by
  have hw := h.2.2.2.1
  have hk := (c_kind h.2.2.1 hw).2.2.1
  unfold w_X9_passNumber w_X9_passNumber_32
  unfold nmF at k1 k0
  by_cases h2 : t.1 = 2
  · rw [if_pos h2] at k1 k0
    have hv := hw.2.2.1 h2
    have e4 : fkF t 4 = 4 := if_neg (by omega)
    rw [if_pos (hk.mpr h2), (h.2.2.1.2.2.2.2.1 h2).2]
    by_cases hl : t.2.2.2.1 < lo
    · rw [if_pos ((jI_lt (by omega) (by omega)).mpr hl)]
      rw [if_neg (by omega)] at k0
      exact c_fail (f := 4) h.2.2.1 hw (fun τ e g9 g10 => k0 (by decide) τ e (by rw [g9, e4]) g10)
    · rw [if_neg (fun q => hl ((jI_lt (by omega) (by omega)).mp q))]
      by_cases hh : t.2.2.2.1 ≤ hi
      · rw [if_pos ((jI_le (by omega) (by omega)).mpr hh)]
        rintro _ rfl
        exact c_adv h (k1 (if_pos ⟨by omega, hh⟩) h2 (by omega) hh)
      · rw [if_neg (fun q => hh ((jI_le (by omega) (by omega)).mp q))]
        rw [if_neg (by omega)] at k0
        exact c_fail (f := 4) h.2.2.1 hw (fun τ e g9 g10 => k0 (by decide) τ e (by rw [g9, e4]) g10)
  · rw [if_neg h2] at k1 k0
    rw [if_neg (fun q => h2 (hk.mp q))]
    exact c_fail (f := 2) h.2.2.1 hw (fun τ e g9 g10 => k0 (by unfold fkF; split <;> decide) τ e g9 g10)
