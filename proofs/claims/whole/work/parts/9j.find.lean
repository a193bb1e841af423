/-! ===== texts: names found ===== -/
/-- the first of m names from f that is v, from 1; 0: none -/
def fdF (nm : Nat → Int64) (f : Nat) (v : Int64) : Nat → Nat
  | 0 => 0
  | m + 1 => if fdF nm f v m ≠ 0 then fdF nm f v m else if nm (f + m) = v then m + 1 else 0
theorem fdF_le {nm : Nat → Int64} {f : Nat} {v : Int64} : ∀ m, fdF nm f v m ≤ m
  | 0 => Nat.le_refl _
  | m + 1 => by
    have h := fdF_le (nm := nm) (f := f) (v := v) m
    unfold fdF
    split
    · omega
    · split <;> omega
theorem fdF_up {nm : Nat → Int64} {f m : Nat} {v : Int64} (h : fdF nm f v m ≠ 0) : ∀ i, fdF nm f v (m + i) = fdF nm f v m
  | 0 => rfl
  | i + 1 => by
    have e := fdF_up h i
    show (if fdF nm f v (m + i) ≠ 0 then fdF nm f v (m + i) else _) = _
    rw [e, if_pos h]
/-- names beyond are none -/
theorem fdF_none {nm : Nat → Int64} {f m : Nat} {v : Int64} : ∀ i, (∀ k, m ≤ k → k < m + i → nm (f + k) ≠ v) → fdF nm f v (m + i) = fdF nm f v m
  | 0, _ => rfl
  | i + 1, h => by
    have e := fdF_none i (fun k h1 h2 => h k h1 (by omega))
    show (if fdF nm f v (m + i) ≠ 0 then fdF nm f v (m + i) else if nm (f + (m + i)) = v then m + i + 1 else 0) = _
    rw [e, if_neg (h (m + i) (by omega) (by omega))]
    by_cases q : fdF nm f v m = 0
    · rw [if_neg (fun z => z q), q]
    · rw [if_pos q]
theorem c_find0 {a f top : Nat} {nm : Nat → Int64} {v : Int64} {P : Int32 → Sto → Prop} {σ : Sto} (ha : isCity a) (hn : ∀ k, k < 24 → gl σ (a + 1) k = nm k) (ht : top ≤ 24) : ∀ d j, f + j + d = top → fdF nm f v j = 0 → (fdF nm f v (j + d) ≠ 0 → P (nI (fdF nm f v (j + d) - 1)) σ) → (fdF nm f v (j + d) = 0 → P (-1) σ) → LpB (fun (K : Int32 × Sto → Prop) s => w_X1_find_27 K a v (nI f) (nI top) s.1 s.2 P) (d + 1) (nI (f + j), σ)
  | 0, j, hd, h0, k1, k0 => by
    refine LpB.go (fun K hK => ?_)
    dsimp only
    unfold w_X1_find_27
    rw [if_pos (by rw [jI_le (by omega) (by omega)]; omega)]
    exact k0 h0
  | d + 1, j, hd, h0, k1, k0 => by
    refine LpB.go (fun K hK => ?_)
    dsimp only
    unfold w_X1_find_27
    rw [if_neg (by rw [jI_le (by omega) (by omega)]; omega), tn_nI (by omega), hn _ (by omega)]
    refine ⟨ha, vp_nI (by omega) (by decide), ?_⟩
    have hs : fdF nm f v (j + 1) = if nm (f + j) = v then j + 1 else 0 := by
      show (if fdF nm f v j ≠ 0 then fdF nm f v j else if nm (f + j) = v then j + 1 else 0) = _
      rw [if_neg (fun q => q h0)]
    by_cases he : nm (f + j) = v
    · rw [if_pos he] at hs
      have hF : fdF nm f v (j + (d + 1)) = j + 1 := by
        rw [show j + (d + 1) = (j + 1) + d by omega, fdF_up (by rw [hs]; omega), hs]
      rw [if_pos (by rw [lg_eq]; exact he), jI_sub (by omega), show f + j - f = j by omega]
      rw [hF] at k1
      exact k1 (by omega)
    · rw [if_neg he] at hs
      rw [if_neg (by rw [lg_eq]; exact he), N1, jI_add]
      rintro _ rfl
      refine hK _ ?_
      rw [show f + j + 1 = f + (j + 1) by omega]
      refine c_find0 ha hn ht d (j + 1) (by omega) hs ?_ ?_
      · rw [show j + 1 + d = j + (d + 1) by omega]; exact k1
      · rw [show j + 1 + d = j + (d + 1) by omega]; exact k0
/-- a group: 0 things, 1 works, 2 voters: its first slot, its length -/
def grp (s : Nat) : Nat := if s = 0 then 0 else if s = 1 then 12 else 18
def grl (s : Nat) : Nat := if s = 0 then 12 else 6
theorem c_find {σ : Sto} {a s : Nat} {nm : Nat → Int64} {v : Int64} {P : Int32 → Sto → Prop} (ha : isCity a) (hs : s ≤ 2) (hn : ∀ k, k < 24 → gl σ (a + 1) k = nm k) (k1 : fdF nm (grp s) v (grl s) ≠ 0 → P (nI (fdF nm (grp s) v (grl s) - 1)) σ) (k0 : fdF nm (grp s) v (grl s) = 0 → P (-1) σ) : w_X1_find a v (nI (grp s)) σ P := by
  unfold w_X1_find
  rcases (show s = 0 ∨ s = 1 ∨ s = 2 by omega) with rfl | rfl | rfl
  · rw [if_pos (show nI (grp 0) = 0 from rfl)]
    have h := c_find0 (a := a) (f := 0) (top := 12) (nm := nm) (v := v) (P := P) ha hn (by decide) 12 0 rfl rfl
    rw [show 0 + 12 = grl 0 from rfl] at h
    exact (h k1 k0).lp
  · rw [if_neg (show ¬ nI (grp 1) = 0 by decide), if_pos (show nI (grp 1) = 12 from rfl)]
    have h := c_find0 (a := a) (f := 12) (top := 18) (nm := nm) (v := v) (P := P) ha hn (by decide) 6 0 rfl rfl
    rw [show 0 + 6 = grl 1 from rfl] at h
    exact (h k1 k0).lp
  · rw [if_neg (show ¬ nI (grp 2) = 0 by decide), if_neg (show ¬ nI (grp 2) = 12 by decide)]
    have h := c_find0 (a := a) (f := 18) (top := 24) (nm := nm) (v := v) (P := P) ha hn (by decide) 6 0 rfl rfl
    rw [show 0 + 6 = grl 2 from rfl] at h
    exact (h k1 k0).lp
