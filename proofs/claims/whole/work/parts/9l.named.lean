/-! ===== texts: names told, names new ===== -/
theorem nn1 {m : Nat} (h : m < 2147483648) : ¬ nI m = -1 := fun q => (jI_noneN h).mp q
theorem sh1 {x : Nat} (h : x < 32) : (1 : Int32) <<< (nI x &&& 31) = nI (2 ^ x) := by
  rw [N1, jI_31 h, jI_shl h, Nat.one_shiftLeft]
/-- how many of a group -/
def cnt (c : Nat → Nat) (s : Nat) : Nat := if s = 0 then c 0 else if s = 1 then c 2 else c 3
/-- no name beyond -/
def NmK (c : Nat → Nat) (nm : Nat → Int64) : Prop := c 0 ≤ 12 ∧ c 2 ≤ 6 ∧ c 3 ≤ 6 ∧ ∀ k, k < 24 → ¬ vN c k → nm k = 0
theorem lI_n0 {v : Nat} (h0 : 0 < v) (h : v < 2 ^ 40) : lI v ≠ 0 := by
  rw [L0]
  intro q
  have := (lI_eq (by omega) (by omega)).mp q
  omega
theorem cntK {c : Nat → Nat} {nm : Nat → Int64} {s : Nat} (h : NmK c nm) (hs : s ≤ 2) : cnt c s ≤ grl s := by
  obtain ⟨h0, h2, h3, -⟩ := h
  rcases (show s = 0 ∨ s = 1 ∨ s = 2 by omega) with rfl | rfl | rfl
  · exact h0
  · exact h2
  · exact h3
theorem grl12 {s : Nat} : grl s ≤ 12 := by unfold grl; split <;> decide
theorem fd_cnt {c : Nat → Nat} {nm : Nat → Int64} {s : Nat} {v : Int64} (h : NmK c nm) (hs : s ≤ 2) (hv : v ≠ 0) : fdF nm (grp s) v (grl s) = fdF nm (grp s) v (cnt c s) := by
  have hl := cntK h hs
  obtain ⟨h0, h2, h3, h4⟩ := h
  obtain ⟨i, hi⟩ : ∃ i, grl s = cnt c s + i := ⟨grl s - cnt c s, by omega⟩
  rw [hi]
  refine fdF_none i (fun k k1 k2 q => ?_)
  rw [h4 (grp s + k)] at q
  · exact hv q.symm
  · rcases (show s = 0 ∨ s = 1 ∨ s = 2 by omega) with rfl | rfl | rfl
    · have e1 : grl 0 = 12 := rfl
      have e2 : grp 0 = 0 := rfl
      omega
    · have e1 : grl 1 = 6 := rfl
      have e2 : grp 1 = 12 := rfl
      omega
    · have e1 : grl 2 = 6 := rfl
      have e2 : grp 2 = 18 := rfl
      omega
  · intro z
    unfold vN at z
    rcases (show s = 0 ∨ s = 1 ∨ s = 2 by omega) with rfl | rfl | rfl
    · have e1 : cnt c 0 = c 0 := rfl
      have e2 : grp 0 = 0 := rfl
      have e3 : grl 0 = 12 := rfl
      omega
    · have e1 : cnt c 1 = c 2 := rfl
      have e2 : grp 1 = 12 := rfl
      have e3 : grl 1 = 6 := rfl
      omega
    · have e1 : cnt c 2 = c 3 := rfl
      have e2 : grp 2 = 18 := rfl
      have e3 : grl 2 = 6 := rfl
      omega
def mnyF (s : Nat) : Nat := if s = 0 then 0 else if s = 1 then 2 else 3
theorem mnyF3 {s : Nat} : mnyF s ≤ 3 := by
  unfold mnyF
  split
  · decide
  · split <;> decide
theorem t_manyOf {σ : Sto} {s : Nat} {P : Int32 → Sto → Prop} (hs : s ≤ 2) (k : P (nI (mnyF s)) σ) : w_X12_manyOf (nI s) σ P := by
  unfold w_X12_manyOf
  rcases (show s = 0 ∨ s = 1 ∨ s = 2 by omega) with rfl | rfl | rfl
  · rw [if_pos (show nI 0 = 0 from rfl)]; exact k
  · rw [if_neg (show ¬ nI 1 = 0 by decide), if_pos (show nI 1 = 1 from rfl)]; exact k
  · rw [if_neg (show ¬ nI 2 = 0 by decide), if_neg (show ¬ nI 2 = 1 by decide)]; exact k
theorem t_fromOf {σ : Sto} {s : Nat} {P : Int32 → Sto → Prop} (hs : s ≤ 2) (k : P (nI (grp s)) σ) : w_X12_fromOf (nI s) σ P := by
  unfold w_X12_fromOf
  rcases (show s = 0 ∨ s = 1 ∨ s = 2 by omega) with rfl | rfl | rfl
  · rw [if_pos (show nI 0 = 0 from rfl)]; exact k
  · rw [if_neg (show ¬ nI 1 = 0 by decide), if_pos (show nI 1 = 1 from rfl)]; exact k
  · rw [if_neg (show ¬ nI 2 = 0 by decide), if_neg (show ¬ nI 2 = 1 by decide)]; exact k
/-- the model's block b: names and counts of a city -/
def NB (σ : Sto) (b : Nat) (c : Nat → Nat) (nm : Nat → Int64) : Prop := gi σ 106 (421 * b) = nI (c 0) ∧ gi σ 106 (421 * b + 2) = nI (c 2) ∧ gi σ 106 (421 * b + 3) = nI (c 3) ∧ ∀ k, vN c k → gl σ 108 (24 * b + k) = nm k
theorem NB.cell {σ : Sto} {b s : Nat} {c : Nat → Nat} {nm : Nat → Int64} (h : NB σ b c nm) (hs : s ≤ 2) : gi σ 106 (421 * b + mnyF s) = nI (cnt c s) := by
  rcases (show s = 0 ∨ s = 1 ∨ s = 2 by omega) with rfl | rfl | rfl
  · exact h.1
  · exact h.2.1
  · exact h.2.2.1
theorem vN_cnt {c : Nat → Nat} {s k : Nat} (hs : s ≤ 2) (hk : k < cnt c s) : vN c (grp s + k) := by
  unfold vN
  rcases (show s = 0 ∨ s = 1 ∨ s = 2 by omega) with rfl | rfl | rfl
  · have e1 : cnt c 0 = c 0 := rfl
    have e2 : grp 0 = 0 := rfl
    omega
  · have e1 : cnt c 1 = c 2 := rfl
    have e2 : grp 1 = 12 := rfl
    omega
  · have e1 : cnt c 2 = c 3 := rfl
    have e2 : grp 2 = 18 := rfl
    omega
theorem grp18 {s : Nat} : grp s ≤ 18 := by
  unfold grp
  split
  · decide
  · split <;> decide
theorem m_named0 {b s : Nat} {c : Nat → Nat} {nm : Nat → Int64} {v : Int64} {P : Int32 → Sto → Prop} {σ : Sto} (hb : b ≤ 4) (hs : s ≤ 2) (hn : NB σ b c nm) (hk : NmK c nm) (hv : gl σ 101 19 = v) : ∀ d j, j + d = cnt c s → fdF nm (grp s) v j = 0 → (∀ m, fdF nm (grp s) v (j + d) = m + 1 → P (nI m) σ) → (fdF nm (grp s) v (j + d) = 0 → P (-1) σ) → LpB (fun (K : Int32 × Sto → Prop) z => w_X12_named_2 K (nI b) (nI s) z.1 z.2 P) (d + 1) (nI j, σ)
  | 0, j, hd, h0, k1, k0 => by
    have hl := cntK hk hs
    have hg := grl12 (s := s)
    have hm3 := mnyF3 (s := s)
    refine LpB.go (fun K hK => ?_)
    dsimp only
    unfold w_X12_named_2
    refine t_manyOf hs ?_
    rw [N421, jI_mul, jI_add, tn_nI (by omega), hn.cell hs, if_pos (by rw [jI_le (by omega) (by omega)]; omega)]
    exact ⟨vp_nI (by omega) (by decide), k0 h0⟩
  | d + 1, j, hd, h0, k1, k0 => by
    have hl := cntK hk hs
    have hg := grl12 (s := s)
    have hm3 := mnyF3 (s := s)
    have hp := grp18 (s := s)
    have hvn := vN_cnt (c := c) (s := s) (k := j) hs (by omega)
    have hlt : grp s + j < 24 := by
      rcases (show s = 0 ∨ s = 1 ∨ s = 2 by omega) with rfl | rfl | rfl
      · have e1 : grl 0 = 12 := rfl
        have e2 : grp 0 = 0 := rfl
        omega
      · have e1 : grl 1 = 6 := rfl
        have e2 : grp 1 = 12 := rfl
        omega
      · have e1 : grl 2 = 6 := rfl
        have e2 : grp 2 = 18 := rfl
        omega
    refine LpB.go (fun K hK => ?_)
    dsimp only
    unfold w_X12_named_2
    refine t_manyOf hs ?_
    rw [N421, jI_mul, jI_add, tn_nI (by omega), hn.cell hs, if_neg (by rw [jI_le (by omega) (by omega)]; omega)]
    refine ⟨vp_nI (by omega) (by decide), t_fromOf hs ?_⟩
    rw [N24, jI_mul, jI_add, jI_add, tn_nI (by omega), Nat.add_assoc, hn.2.2.2 _ hvn, hv]
    refine ⟨vp_nI (by omega) (by decide), ?_⟩
    have hs1 : fdF nm (grp s) v (j + 1) = if nm (grp s + j) = v then j + 1 else 0 := by
      show (if fdF nm (grp s) v j ≠ 0 then fdF nm (grp s) v j else if nm (grp s + j) = v then j + 1 else 0) = _
      rw [if_neg (fun q => q h0)]
    by_cases he : nm (grp s + j) = v
    · rw [if_pos he] at hs1
      rw [if_pos (by rw [lg_eq]; exact he)]
      exact k1 j (by rw [show j + (d + 1) = (j + 1) + d by omega, fdF_up (by rw [hs1]; omega), hs1])
    · rw [if_neg he] at hs1
      rw [if_neg (by rw [lg_eq]; exact he), N1, jI_add]
      rintro _ rfl
      refine hK _ (m_named0 hb hs hn hk hv d (j + 1) (by omega) hs1 ?_ ?_)
      · rw [show j + 1 + d = j + (d + 1) by omega]; exact k1
      · rw [show j + 1 + d = j + (d + 1) by omega]; exact k0
theorem m_named {b s : Nat} {c : Nat → Nat} {nm : Nat → Int64} {v : Int64} {P : Int32 → Sto → Prop} {σ : Sto} (hb : b ≤ 4) (hs : s ≤ 2) (hn : NB σ b c nm) (hk : NmK c nm) (hv : gl σ 101 19 = v) (k1 : ∀ m, fdF nm (grp s) v (cnt c s) = m + 1 → P (nI m) σ) (k0 : fdF nm (grp s) v (cnt c s) = 0 → P (-1) σ) : w_X12_named (nI b) (nI s) σ P := by
  unfold w_X12_named
  have h := m_named0 (P := P) hb hs hn hk hv (cnt c s) 0 (by omega) rfl
  rw [Nat.zero_add] at h
  exact (h k1 k0).lp
/-- is any of the 24 so named -/
theorem c_isTaken0 {a : Nat} {nm : Nat → Int64} {v : Int64} {P : Int32 → Sto → Prop} {σ : Sto} (ha : isCity a) (hn : ∀ k, k < 24 → gl σ (a + 1) k = nm k) (k1 : (∃ k, k < 24 ∧ nm k = v) → P 1 σ) (k0 : (∀ k, k < 24 → nm k ≠ v) → P 0 σ) : ∀ d j, j + d = 24 → (∀ k, k < j → nm k ≠ v) → LpB (fun (K : Int32 × Sto → Prop) z => w_X1_isTaken_2 K a v z.1 z.2 P) (d + 1) (nI j, σ)
  | 0, j, hd, h0 => by
    refine LpB.go (fun K hK => ?_)
    dsimp only
    unfold w_X1_isTaken_2
    rw [N24, if_pos (by rw [jI_le (by omega) (by omega)]; omega)]
    exact k0 (fun k hk => h0 k (by omega))
  | d + 1, j, hd, h0 => by
    refine LpB.go (fun K hK => ?_)
    dsimp only
    unfold w_X1_isTaken_2
    rw [N24, if_neg (by rw [jI_le (by omega) (by omega)]; omega), tn_nI (by omega), hn _ (by omega)]
    refine ⟨ha, vp_nI (by omega) (by decide), ?_⟩
    by_cases he : nm j = v
    · rw [if_pos (by rw [lg_eq]; exact he)]
      exact k1 ⟨j, by omega, he⟩
    · rw [if_neg (by rw [lg_eq]; exact he), N1, jI_add]
      rintro _ rfl
      exact hK _ (c_isTaken0 ha hn k1 k0 d (j + 1) (by omega) (fun k hk q => by
        rcases (show k < j ∨ k = j by omega) with h | h
        · exact h0 k h q
        · rw [h] at q; exact he q))
theorem c_isTaken {a : Nat} {nm : Nat → Int64} {v : Int64} {P : Int32 → Sto → Prop} {σ : Sto} (ha : isCity a) (hn : ∀ k, k < 24 → gl σ (a + 1) k = nm k) (k1 : (∃ k, k < 24 ∧ nm k = v) → P 1 σ) (k0 : (∀ k, k < 24 → nm k ≠ v) → P 0 σ) : w_X1_isTaken a v σ P := by
  unfold w_X1_isTaken
  exact (c_isTaken0 ha hn k1 k0 24 0 (by decide) (fun k hk => absurd hk (Nat.not_lt_zero k))).lp
/-- which of a group's names a token is, from 1 -/
def idF (c : Nat → Nat) (nm : Nat → Int64) (s : Nat) (t : TKn) : Nat := fdF nm (grp s) (lI t.2.2.2.1) (cnt c s)
def toE (T : Nat → Nat) (n : Nat) (c : Nat → Nat) (nm : Nat → Int64) (s b : Nat) (t : TKn) : RS Nat :=
  if t.1 = 1 ∧ t.2.2.2.2 ≤ 8 ∧ kwF t.2.2.2.1 = 0 then (if idF c nm s t = 0 then Sum.inl (3, t.2.1) else if idF c nm s t = b + 1 then Sum.inl (5, t.2.1) else Sum.inr (idF c nm s t - 1, nxF T n t)) else Sum.inl (fkF t 2, t.2.1)
theorem toE_n {T : Nat → Nat} {n : Nat} {c : Nat → Nat} {nm : Nat → Int64} {s b : Nat} {t : TKn} (z : ¬ isNm t) : toE T n c nm s b t = Sum.inl (fkF t 2, t.2.1) := if_neg z
theorem toE_0 {T : Nat → Nat} {n : Nat} {c : Nat → Nat} {nm : Nat → Int64} {s b : Nat} {t : TKn} (z : isNm t) (h : idF c nm s t = 0) : toE T n c nm s b t = Sum.inl (3, t.2.1) := (if_pos z).trans (if_pos h)
theorem toE_5 {T : Nat → Nat} {n : Nat} {c : Nat → Nat} {nm : Nat → Int64} {s b : Nat} {t : TKn} (z : isNm t) (h : idF c nm s t = b + 1) : toE T n c nm s b t = Sum.inl (5, t.2.1) := (if_pos z).trans ((if_neg (by omega)).trans (if_pos h))
theorem toE_k {T : Nat → Nat} {n : Nat} {c : Nat → Nat} {nm : Nat → Int64} {s b m : Nat} {t : TKn} (z : isNm t) (h : idF c nm s t = m + 1) (hb : m ≠ b) : toE T n c nm s b t = Sum.inr (m, nxF T n t) := (if_pos z).trans ((if_neg (by omega)).trans ((if_neg (by omega)).trans (by rw [h, Nat.add_sub_cancel])))
theorem idF_le {c : Nat → Nat} {nm : Nat → Int64} {s : Nat} {t : TKn} (hk : NmK c nm) (hs : s ≤ 2) : idF c nm s t ≤ cnt c s ∧ cnt c s ≤ 12 := by
  have h1 := cntK hk hs
  have h2 := grl12 (s := s)
  exact ⟨fdF_le _, by omega⟩
theorem c_see {σ : Sto} {T : Nat → Nat} {n q a s : Nat} {c : Nat → Nat} {nm : Nat → Int64} {t : TKn} {P : Int32 → Sto → Prop} (h : RdC σ T n t) (ht : isTk T n q t) (ha : isCity a) (hn : ∀ k, k < 24 → gl σ (a + 1) k = nm k) (hk : NmK c nm) (hs : s ≤ 2)
    (k1 : isNm t → ∀ m, idF c nm s t = m + 1 → P (nI m) σ) (k3 : isNm t → idF c nm s t = 0 → ∀ τ, Eo ST0 σ τ → gi τ 10 9 = nI 3 → gi τ 10 10 = nI t.2.1 → P (-1) τ) (k2 : ¬ isNm t → ∀ τ, Eo ST0 σ τ → gi τ 10 9 = nI (fkF t 2) → gi τ 10 10 = nI t.2.1 → P (-1) τ) : w_X9_seeKnown a (nI (grp s)) σ P := by
  have hw := h.2.2.2.1
  have hi := (c_kind h.2.2.1 hw).2.1
  unfold w_X9_seeKnown
  by_cases z : isNm t
  · rw [if_pos (hi.mpr z)]
    have hg : gl σ 10 8 = lI t.2.2.2.1 := ((h.2.2.1.2.2.2.1 z.1).1 z.2.1).1
    have hv : lI t.2.2.2.1 ≠ 0 := lI_n0 (ht.f.2.2.2.2.2 z.1).2.2 (hw.2.1 z.2.1 z.1)
    have he := fd_cnt (v := lI t.2.2.2.1) hk hs hv
    have hl := idF_le (t := t) hk hs
    rw [hg]
    refine ⟨ha, c_find ha hs hn (fun y => ?_) (fun y => ?_)⟩
    · rw [he] at y ⊢
      obtain ⟨m, hm⟩ : ∃ m, idF c nm s t = m + 1 := ⟨idF c nm s t - 1, by unfold idF; omega⟩
      rw [show fdF nm (grp s) (lI t.2.2.2.1) (cnt c s) = m + 1 from hm, Nat.add_sub_cancel, if_neg (nn1 (by omega))]
      exact k1 z m hm
    · rw [if_pos rfl]
      rw [he] at y
      refine c_fail (f := 3) h.2.2.1 hw (fun τ e g9 g10 => k3 z y τ (e.mo (fun _ _ => STf0)) ?_ g10)
      rw [g9]
      unfold fkF
      rw [if_neg (by rw [z.1]; decide)]
  · rw [if_neg (fun y => z (hi.mp y))]
    exact c_fail (f := 2) h.2.2.1 hw (fun τ e g9 g10 => k2 z τ (e.mo (fun _ _ => STf0)) g9 g10)
theorem c_told {σ : Sto} {T : Nat → Nat} {n q a s : Nat} {c : Nat → Nat} {nm : Nat → Int64} {t : TKn} {P : Int32 → Sto → Prop} (h : RdC σ T n t) (ht : isTk T n q t) (ha : isCity a) (hn : ∀ k, k < 24 → gl σ (a + 1) k = nm k) (hk : NmK c nm) (hs : s ≤ 2)
    (k : OC ST0 σ T n q (toE T n c nm s 99 t) (fun x τ => x < cnt c s → P (nI x) τ) (fun τ => P (-1) τ)) : w_X9_passKnown a (nI (grp s)) σ P := by
  have hl := idF_le (t := t) hk hs
  unfold w_X9_passKnown
  refine c_see h ht ha hn hk hs (fun z m hm => ?_) (fun z y τ e g9 g10 => ?_) (fun z τ e g9 g10 => ?_)
  · rw [if_neg (nn1 (by omega))]
    exact c_adv h (fun τ e h' => k.2 m _ (toE_k z hm (by omega)) τ (e.mo (fun _ _ => STk0)) h' ht.n1 (by omega))
  · rw [if_pos rfl]
    exact k.1 _ (toE_0 z y) τ e g9 g10
  · rw [if_pos rfl]
    exact k.1 _ (toE_n z) τ e g9 g10
theorem m_told_bad {σ : Sto} {x1 x2 x3 : Int32} {b : Nat} {P : Int32 → Sto → Prop} (hb : gi σ 101 12 = nI b) (h0 : b ≠ 0) (h7 : b ≤ 7) (k : P 0 σ) : w_X12_readTold x1 x2 x3 σ P := by
  have n0 : ¬ nI b = 0 := by rw [N0, jI_eq (by omega) (by decide)]; exact h0
  unfold w_X12_readTold w_X12_readTold_18
  rw [hb, if_neg n0, if_neg (by rw [N0, jI_le (by omega) (by decide)]; omega)]
  exact k
/-- the model's told name; b: 99 for none -/
theorem m_told {σ : Sto} {T : Nat → Nat} {n q a s b : Nat} {c : Nat → Nat} {nm : Nat → Int64} {t : TKn} {x3 : Int32} {P : Int32 → Sto → Prop} (h : RdM σ T n t) (ht : isTk T n q t) (hb : gi σ 101 12 = nI 0) (ha : a ≤ 4) (hn : NB σ a c nm) (hk : NmK c nm) (hs : s ≤ 2) (h3 : (b = 99 ∧ x3 = -1) ∨ (b < 12 ∧ x3 = nI b))
    (k : OM 12 SM0 σ T n q (toE T n c nm s b t) (fun x τ => x < cnt c s → P (nI x) τ) (fun v τ => P (nI v) τ)) : w_X12_readTold (nI a) (nI s) x3 σ P := by
  have hw := h.2.2.1
  have hl := idF_le (t := t) hk hs
  have n0 : ¬ (0 : Int32) < -1 := by decide
  have m0 : ∀ m, m < 2147483648 → (if (0 : Int32) < nI m then nI m else (0 : Int32)) = nI m := fun m hm => by
    by_cases h0 : m = 0
    · rw [h0]; rfl
    · rw [if_pos (by rw [N0]; exact (jI_lt (by decide) hm).mpr (by omega))]
  have ext : ∀ (x : Int32) (v f : Nat) (τ : Sto), f ≠ 0 → f ≤ 7 → (if (0 : Int32) < x then x else (0 : Int32)) = nI v → gi τ 101 12 = nI f → P (nI v) τ → w_X12_readTold_67 x τ P := fun x v f τ f0 f7 ex ef hp => by
    unfold w_X12_readTold_67
    refine m_must_bad ef f7 f0 ?_
    rw [ex]; exact hp
  unfold w_X12_readTold
  rw [hb, if_pos (show nI 0 = 0 from rfl)]
  refine t_isName h.2.1 hw ht.l (fun z => ?_) (fun z => ?_)
  · rw [if_neg (show ¬ (1 : Int32) = 0 by decide)]
    unfold w_X12_readTold_18
    rw [hb, if_pos (by decide)]
    have hg : gl σ 101 19 = lI t.2.2.2.1 := by
      rw [(h.2.1.2.2.2.1 z.1).2, if_pos z.2.1]
    refine m_named ha hs hn hk hg (fun m hm => ?_) (fun hm => ?_)
    · have hm' : idF c nm s t = m + 1 := hm
      rw [N0, if_pos ((jI_le (by decide) (by omega)).mpr (Nat.zero_le _))]
      by_cases he : m = b
      · have e3 : x3 = nI b := by
          rcases h3 with h3 | h3
          · omega
          · exact h3.2
        rw [if_pos (by rw [e3, he]), h.2.1.1]
        refine m_fail hb (by decide) (fun _ τ e g12 g13 => ?_) (fun y => absurd rfl y)
        refine ext _ m 5 τ (by decide) (by decide) ?_ g12 (k.1 _ (toE_5 z (by omega)) (show (5 : Nat) ≠ 0 by decide) (show (5 : Nat) ≤ 7 by decide) m τ (by omega) (e.mo (fun _ _ => SMf0)) g12 g13)
        rw [m0 _ (by omega)]
      · rw [if_neg (fun y => ?_)]
        · unfold w_X12_readTold_67
          refine m_must_1 h hb (fun τ e h' => ?_)
          rw [m0 _ (by omega)]
          exact k.2 m _ (toE_k z hm' he) τ (e.mo (fun _ _ => STm0)) (by rw [e.1 _ _ (by unfold STm; omega)]; exact hb) h' ht.n1 (by omega)
        · rcases h3 with h3 | h3
          · rw [h3.2] at y
            exact nn1 (by omega) y
          · rw [h3.2, jI_eq (by omega) (by omega)] at y
            exact he y
    · have hm' : idF c nm s t = 0 := hm
      rw [if_neg (show ¬ (0 : Int32) ≤ -1 by decide), h.2.1.1]
      refine m_fail hb (by decide) (fun _ τ e g12 g13 => ?_) (fun y => absurd rfl y)
      exact ext _ 0 3 τ (by decide) (by decide) (if_neg n0) g12 (k.1 _ (toE_0 z hm') (show (3 : Nat) ≠ 0 by decide) (show (3 : Nat) ≤ 7 by decide) 0 τ (by decide) (e.mo (fun _ _ => SMf0)) g12 g13)
  · rw [if_pos rfl]
    refine m_amiss h.2.1 hw hb (by decide) (fun _ τ e g12 g13 => ?_) (fun y => absurd rfl y)
    unfold w_X12_readTold_18
    rw [g12, if_neg (by rw [N0, jI_le (by have := (fk2 (t := t)).2; omega) (by decide)]; have := (fk2 (t := t)).1; omega)]
    exact k.1 _ (toE_n z) fk2.1 fk2.2 0 τ (by decide) (e.mo (fun _ _ => SMf0)) g12 g13
