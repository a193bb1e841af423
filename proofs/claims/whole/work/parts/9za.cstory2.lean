/-! ===== texts: a step of centuries, read by the class ===== -/
section
variable {T : Nat → Nat} {n s : Nat} {c m : Nat → Nat} {nm : Nat → Int64} {t : TKn}
theorem reE_0 : reE T n c nm s 0 m t = bS (nuE T n 1 9 t) (fun x t' => Sum.inr (updC m (145 + 9 * s) x, t')) := if_pos rfl
theorem reE_6 : reE T n c nm s 6 m t = bS (nuE T n 1 99 t) (fun x t' => Sum.inr (updC m (145 + 9 * s) x, t')) := (if_neg (by decide)).trans (if_pos rfl)
theorem reE_5 : reE T n c nm s 5 m t = teE T n c nm s m t := (if_neg (by decide)).trans ((if_neg (by decide)).trans (if_pos rfl))
theorem reE_t {k : Nat} (h : k = 1 ∨ k = 2 ∨ k = 3) : reE T n c nm s k m t = bS (toE T n c nm 0 99 t) (fun x t' => Sum.inr (updC m (145 + 9 * s) x, t')) := (if_neg (by omega)).trans ((if_neg (by omega)).trans ((if_neg (by omega)).trans (if_pos (by omega))))
theorem reE_r {k : Nat} (h : k = 4 ∨ k = 7) : reE T n c nm s k m t = Sum.inr (m, t) := (if_neg (by omega)).trans ((if_neg (by omega)).trans ((if_neg (by omega)).trans (if_neg (by omega))))
theorem cmE_keep {m' : Nat → Nat} {t' : TKn} (h : cmE T n s m t = Sum.inr (m', t')) : ∀ j, j ≠ 146 + 9 * s → j ≠ 151 + 9 * s → m' j = m j := by
  unfold cmE at h
  by_cases z : t.1 = 3 ∧ t.2.2.2.1 ≠ 59
  · rw [if_pos z] at h
    obtain ⟨y, t1, -, h⟩ := bS_i h
    rw [← inr_i h]
    exact fun j a b => by rw [updC_n a, updC_n b]
  · rw [if_neg z] at h; cases h
theorem teE_keep {m' : Nat → Nat} {t' : TKn} (h : teE T n c nm s m t = Sum.inr (m', t')) : (∀ j, j < 145 + 9 * s ∨ 151 + 9 * s < j → m' j = m j) ∧ tstF t ≠ 0 ∧ m' (150 + 9 * s) = tstF t - 1 := by
  unfold teE at h
  by_cases z : tstF t = 0
  · rw [if_pos z] at h; cases h
  · rw [if_neg z] at h
    obtain ⟨x, t1, -, h⟩ := bS_i h
    by_cases z3 : tstF t = 3
    · rw [if_pos z3] at h
      have k := cmE_keep h
      refine ⟨fun j hj => ?_, z, ?_⟩
      · rw [k j (by omega) (by omega), updC_n (by omega), updC_n (by omega)]
      · rw [k _ (by omega) (by omega), updC_n (by omega), updC_s]
    · rw [if_neg z3] at h
      rw [← inr_i h]
      refine ⟨fun j hj => ?_, z, ?_⟩
      · rw [updC_n (by omega), updC_n (by omega)]
      · rw [updC_n (by omega), updC_s]
theorem reE_keep {k : Nat} {m' : Nat → Nat} {t' : TKn} (h : reE T n c nm s k m t = Sum.inr (m', t')) : ∀ j, j < 145 + 9 * s ∨ 151 + 9 * s < j → m' j = m j := by
  intro j hj
  unfold reE at h
  by_cases z0 : k = 0
  · rw [if_pos z0] at h
    obtain ⟨x, t1, -, h⟩ := bS_i h
    rw [← inr_i h, updC_n (by omega)]
  rw [if_neg z0] at h
  by_cases z6 : k = 6
  · rw [if_pos z6] at h
    obtain ⟨x, t1, -, h⟩ := bS_i h
    rw [← inr_i h, updC_n (by omega)]
  rw [if_neg z6] at h
  by_cases z5 : k = 5
  · rw [if_pos z5] at h
    exact (teE_keep h).1 j hj
  rw [if_neg z5] at h
  by_cases z4 : k < 4
  · rw [if_pos z4] at h
    obtain ⟨x, t1, -, h⟩ := bS_i h
    rw [← inr_i h, updC_n (by omega)]
  rw [if_neg z4] at h
  rw [← inr_i h]
end
/-- of a when -/
def whOK (c m : Nat → Nat) (V O G U : Nat → Int32) (s L : Nat) : Prop :=
  m (150 + 9 * s) ≤ 2 ∧ V L = nI (7 + m (150 + 9 * s)) ∧ O L = nI (m (145 + 9 * s)) ∧ (m (150 + 9 * s) = 1 → m (145 + 9 * s) < c 2) ∧ (m (150 + 9 * s) ≠ 1 → m (145 + 9 * s) < c 0) ∧
    (m (150 + 9 * s) = 2 → G L = nI (m (151 + 9 * s)) ∧ (m (151 + 9 * s) = 60 ∨ m (151 + 9 * s) = 61 ∨ m (151 + 9 * s) = 62) ∧ U L = nI (m (146 + 9 * s)) ∧ m (146 + 9 * s) ≤ 99)
theorem c_test {σ : Sto} {T : Nat → Nat} {n q a b s L d : Nat} {c m : Nat → Nat} {nm : Nat → Int64} {t : TKn} {P : Int32 → Sto → Prop} (h : RdC σ T n t) (ht : isTk T n q t) (hc : CS σ a b nm (s + 1) L d) (hk : NmK c nm) (hL : L < 60)
    (k : OC (SLn a L) σ T n q (teE T n c nm s m t) (fun m' τ => whOK c m' (gi τ (a + 1)) (gi τ (a + 2)) (gi τ (a + 3)) (gi τ (a + 4)) s L → P 1 τ) (fun τ => P 0 τ)) : w_X8_readTest σ P := by
  have ha := hc.1
  have go : ∀ (w g r : Nat), (w = 6 + r) → (r = 1 ∨ r = 2 ∨ r = 3) → (g = if r = 2 then 1 else 0) → tstF t = r → w_X8_readTest_52 (nI w) σ P := fun w g r hw hr hg hr' => by
    have k1 : OC (SLn a L) σ T n q (bS (toE T n c nm (if tstF t = 2 then 1 else 0) 99 (nxF T n t)) (fun x t2 => if tstF t = 3 then cmE T n s (updC (updC m (150 + 9 * s) (tstF t - 1)) (145 + 9 * s) x) t2 else Sum.inr (updC (updC m (150 + 9 * s) (tstF t - 1)) (145 + 9 * s) x, t2))) (fun m' τ => whOK c m' (gi τ (a + 1)) (gi τ (a + 2)) (gi τ (a + 3)) (gi τ (a + 4)) s L → P 1 τ) (fun τ => P 0 τ) := by
      have e : teE T n c nm s m t = bS (toE T n c nm (if tstF t = 2 then 1 else 0) 99 (nxF T n t)) (fun x t2 => if tstF t = 3 then cmE T n s (updC (updC m (150 + 9 * s) (tstF t - 1)) (145 + 9 * s) x) t2 else Sum.inr (updC (updC m (150 + 9 * s) (tstF t - 1)) (145 + 9 * s) x, t2)) := if_neg (by omega)
      rw [← e]; exact k
    rw [hr', ← hg] at k1
    have ew : (fun (x : Nat) (t2 : TKn) => (if r = 3 then cmE T n s (updC (updC m (150 + 9 * s) (r - 1)) (145 + 9 * s) x) t2 else Sum.inr (updC (updC m (150 + 9 * s) (r - 1)) (145 + 9 * s) x, t2) : RS (Nat → Nat))) = fun x t2 => if w = 9 then cmE T n s (updC (updC m (150 + 9 * s) (r - 1)) (145 + 9 * s) x) t2 else Sum.inr (updC (updC m (150 + 9 * s) (r - 1)) (145 + 9 * s) x, t2) := by
      funext x t2
      by_cases z : r = 3
      · rw [if_pos z, if_pos (by omega)]
      · rw [if_neg z, if_neg (by omega)]
    rw [ew] at k1
    have hg1 : g ≤ 1 := by rw [hg]; split <;> decide
    unfold w_X8_readTest_52
    rw [if_neg (nn1 (by omega))]
    refine c_adv h (fun τ e h1 => ?_)
    have e' : Eo (SLn a L) σ τ := e.mo (fun _ _ q => SLn0 (STk0 q))
    have c1 := hc.eo e'
    have fin : w_X8_readTest_94 (nI w) (nI (grp g)) b τ P := by
      have ek : ∀ m' t', bS (toE T n c nm g 99 (nxF T n t)) (fun x t2 => if w = 9 then cmE T n s (updC (updC m (150 + 9 * s) (r - 1)) (145 + 9 * s) x) t2 else Sum.inr (updC (updC m (150 + 9 * s) (r - 1)) (145 + 9 * s) x, t2)) = Sum.inr (m', t') → m' (150 + 9 * s) = r - 1 := fun m' t' he => by
        have : teE T n c nm s m t = Sum.inr (m', t') := by
          have e : teE T n c nm s m t = bS (toE T n c nm (if tstF t = 2 then 1 else 0) 99 (nxF T n t)) (fun x t2 => if tstF t = 3 then cmE T n s (updC (updC m (150 + 9 * s) (tstF t - 1)) (145 + 9 * s) x) t2 else Sum.inr (updC (updC m (150 + 9 * s) (tstF t - 1)) (145 + 9 * s) x, t2)) := if_neg (by omega)
          rw [e, hr', ← hg, ew]; exact he
        have := (teE_keep this).2.2
        rw [this, hr']
      refine c_test94 (g := g) (w := w) (m := updC m (150 + 9 * s) (r - 1)) (s := s) h1 ht.n1 c1 hk hL hg1 (by omega) ⟨fun e1 he τ1 e2 g9 g10 => k1.1 e1 he τ1 (e'.tr e2) g9 g10, fun m' t' hm τ1 e2 h2 ht2 v1 v2 v3 => k1.2 m' t' hm τ1 (e'.tr e2) h2 ht2 ?_⟩
      have e15 := ek m' t' hm
      obtain ⟨o1, o2⟩ := v2 _ rfl
      refine ⟨by omega, by rw [v1, e15]; congr 1; omega, o1, fun q => ?_, fun q => ?_, fun q => ?_⟩
      · have : g = 1 := by rw [hg, if_pos (by omega)]
        rw [this] at o2; exact o2
      · have : g = 0 := by rw [hg, if_neg (by omega)]
        rw [this] at o2; exact o2
      · obtain ⟨y1, y2⟩ := v3 (by omega)
        exact ⟨(y1 _ rfl).1, (y1 _ rfl).2, (y2 _ rfl).1, (y2 _ rfl).2⟩
    rw [c1.2.2.2.1]
    refine ⟨hc.2.1, ?_⟩
    by_cases z : r = 2
    · have : g = 1 := by rw [hg, if_pos z]
      subst this
      rw [if_pos (by rw [hw, z]; rfl)]
      exact fin
    · have : g = 0 := by rw [hg, if_neg z]
      subst this
      rw [if_neg (by rw [show (8 : Int32) = nI 8 from rfl, jI_eq (by omega) (by decide)]; omega)]
      exact fin
  have none : tstF t = 0 → w_X8_readTest_52 (-1) σ P := fun z => by
    unfold w_X8_readTest_52
    rw [if_pos rfl]
    exact c_fail (f := 2) h.2.2.1 h.2.2.2.1 (fun τ e g9 g10 => ⟨Or.inl rfl, k.1 _ (if_pos z) τ (e.mo (fun _ _ q => SLn0 (STf0 q))) g9 g10⟩)
  have is : ∀ r, tstF t = r → r ≠ 0 → isKw t (16 + r) := fun r hr h0 => (tstF_is hr h0).2
  have h3 := tstF_le (t := t)
  unfold w_X8_readTest
  refine c_isKeyword (i := 17) h.2.2.1 h.2.2.2.1 (by decide) (fun z => ?_) (fun z => ?_)
  · rw [if_neg one0]
    refine go 7 0 1 rfl (Or.inl rfl) rfl ?_
    rcases (show tstF t = 0 ∨ tstF t = 1 ∨ tstF t = 2 ∨ tstF t = 3 by omega) with y | y | y | y
    · exact absurd z (tstF_0 y (Or.inl rfl))
    · exact y
    · exact absurd z (isKw_u (is 2 y (by decide)) (by decide))
    · exact absurd z (isKw_u (is 3 y (by decide)) (by decide))
  rw [if_pos rfl]
  refine c_isKeyword (i := 18) h.2.2.1 h.2.2.2.1 (by decide) (fun z2 => ?_) (fun z2 => ?_)
  · rw [if_neg one0]
    refine go 8 1 2 rfl (Or.inr (Or.inl rfl)) rfl ?_
    rcases (show tstF t = 0 ∨ tstF t = 1 ∨ tstF t = 2 ∨ tstF t = 3 by omega) with y | y | y | y
    · exact absurd z2 (tstF_0 y (Or.inr (Or.inl rfl)))
    · exact absurd z2 (isKw_u (is 1 y (by decide)) (by decide))
    · exact y
    · exact absurd z2 (isKw_u (is 3 y (by decide)) (by decide))
  rw [if_pos rfl]
  refine c_isKeyword (i := 19) h.2.2.1 h.2.2.2.1 (by decide) (fun z3 => ?_) (fun z3 => ?_)
  · rw [if_neg one0]
    refine go 9 0 3 rfl (Or.inr (Or.inr rfl)) rfl ?_
    rcases (show tstF t = 0 ∨ tstF t = 1 ∨ tstF t = 2 ∨ tstF t = 3 by omega) with y | y | y | y
    · exact absurd z3 (tstF_0 y (Or.inr (Or.inr rfl)))
    · exact absurd z3 (isKw_u (is 1 y (by decide)) (by decide))
    · exact absurd z3 (isKw_u (is 2 y (by decide)) (by decide))
    · exact y
  rw [if_pos rfl]
  refine none ?_
  rcases (show tstF t = 0 ∨ tstF t = 1 ∨ tstF t = 2 ∨ tstF t = 3 by omega) with y | y | y | y
  · exact y
  · exact absurd (is 1 y (by decide)) z
  · exact absurd (is 2 y (by decide)) z2
  · exact absurd (is 3 y (by decide)) z3
theorem c_rest {σ : Sto} {T : Nat → Nat} {n q a b s L d : Nat} {c m : Nat → Nat} {nm : Nat → Int64} {t : TKn} {P : Int32 → Sto → Prop} (h : RdC σ T n t) (ht : isTk T n q t) (hc : CS σ a b nm (s + 1) L d) (hk : NmK c nm) (hL : L < 60) (h0 : stpF t ≠ 0) (m0 : m 0 = c 0) (m2 : m 2 = c 2)
    (k : OC (SLn a L) σ T n q (reE T n c nm s (stpF t - 1) (updC m (144 + 9 * s) (stpF t - 1)) (nxF T n t)) (fun m' τ => stOK m' (gi τ (a + 1)) (gi τ (a + 2)) (gi τ (a + 3)) (gi τ (a + 4)) s L → P 1 τ) (fun τ => P 0 τ)) : w_X8_readStep σ P := by
  have ha := hc.1
  obtain ⟨h8, hz⟩ := stpF_is (rfl : stpF t = stpF t) h0
  have g7 : gi σ 10 7 = nI (skw (stpF t)) := by
    have := (((h.2.2.1.2.2.2.1 hz.1).1 hz.2.1).2.2 (by rw [hz.2.2]; omega)).2
    rw [this, hz.2.2, Nat.add_sub_cancel]
  have up : ∀ (σ' : Sto) (x : RS (Nat → Nat)) (F : (Nat → Nat) → Sto → Prop), OC (SLn a L) σ' T n q x (fun m' τ => F m' τ → P 1 τ) (fun τ => P 0 τ) → OC (SLn a L) σ' T n q x (fun m' τ => F m' τ → ((1 : Int32) = 0 ∨ (1 : Int32) = 1) ∧ P 1 τ) (fun τ => ((0 : Int32) = 0 ∨ (0 : Int32) = 1) ∧ P 0 τ) := fun σ' x F kk => ⟨fun e he τ e1 g9 g10 => ⟨Or.inl rfl, kk.1 e he τ e1 g9 g10⟩, fun x t' hx τ e1 h1 ht1 hd1 => ⟨Or.inr rfl, kk.2 x t' hx τ e1 h1 ht1 hd1⟩⟩
  unfold w_X8_readStep
  rw [g7]
  rintro _ rfl
  refine c_adv h (fun τ e h1 => ?_)
  have e' : Eo (SLn a L) σ τ := e.mo (fun _ _ q => SLn0 (STk0 q))
  have c1 := hc.eo e'
  have k1 : OC (SLn a L) τ T n q (reE T n c nm s (stpF t - 1) (updC m (144 + 9 * s) (stpF t - 1)) (nxF T n t)) (fun m' τ => stOK m' (gi τ (a + 1)) (gi τ (a + 2)) (gi τ (a + 3)) (gi τ (a + 4)) s L → P 1 τ) (fun τ => P 0 τ) := ⟨fun e2 he τ2 e2' => k.1 e2 he τ2 (e'.tr e2'), fun x t' hx τ2 e2' => k.2 x t' hx τ2 (e'.tr e2')⟩
  clear k
  rintro _ rfl
  generalize hr : stpF t = r at k1 h8 h0
  -- a step with one number or thing
  have num : ∀ (r' hi : Nat) (τ2 : Sto) (x : Nat), (r' = 0 ∧ hi = 9) ∨ (r' = 6 ∧ hi = 99) → gi τ2 (a + 1) L = nI r' → gi τ2 (a + 4) L = nI x → 1 ≤ x → x ≤ hi → stOK (updC (updC m (144 + 9 * s) r') (145 + 9 * s) x) (gi τ2 (a + 1)) (gi τ2 (a + 2)) (gi τ2 (a + 3)) (gi τ2 (a + 4)) s L := fun r' hi τ2 x hr' v1 v2 x1 x2 => by
    have q0 : updC (updC m (144 + 9 * s) r') (145 + 9 * s) x (144 + 9 * s) = r' := by rw [updC_n (by omega), updC_s]
    have q1 : updC (updC m (144 + 9 * s) r') (145 + 9 * s) x (145 + 9 * s) = x := updC_s
    unfold stOK vbF
    rw [q0, q1]
    rcases hr' with ⟨rfl, rfl⟩ | ⟨rfl, rfl⟩
    · exact ⟨by decide, by rw [if_neg (by decide), if_neg (by decide)]; exact v1, fun _ => ⟨v2, x1, x2⟩, fun q => absurd q (by decide), fun q => absurd q (by decide), fun q => absurd q (by decide)⟩
    · exact ⟨by decide, by rw [if_neg (by decide), if_neg (by decide)]; exact v1, fun q => absurd q (by decide), fun q => absurd q (by decide), fun q => absurd q (by decide), fun _ => ⟨v2, x1, x2⟩⟩
  have thg : ∀ (r' : Nat) (τ2 : Sto) (x : Nat), (r' = 1 ∨ r' = 2 ∨ r' = 3) → gi τ2 (a + 1) L = nI r' → gi τ2 (a + 2) L = nI x → x < c 0 → stOK (updC (updC m (144 + 9 * s) r') (145 + 9 * s) x) (gi τ2 (a + 1)) (gi τ2 (a + 2)) (gi τ2 (a + 3)) (gi τ2 (a + 4)) s L := fun r' τ2 x hr' v1 v2 x1 => by
    have q0 : updC (updC m (144 + 9 * s) r') (145 + 9 * s) x (144 + 9 * s) = r' := by rw [updC_n (by omega), updC_s]
    have q1 : updC (updC m (144 + 9 * s) r') (145 + 9 * s) x (145 + 9 * s) = x := updC_s
    have q2 : updC (updC m (144 + 9 * s) r') (145 + 9 * s) x 0 = c 0 := by rw [updC_n (by omega), updC_n (by omega)]; exact m0
    unfold stOK vbF
    rw [q0, q1, q2]
    exact ⟨by omega, by rw [if_neg (by omega), if_neg (by omega)]; exact v1, fun q => by omega, fun _ => ⟨v2, x1⟩, fun q => by omega, fun q => by omega⟩
  have bare : ∀ (r' v : Nat) (τ2 : Sto), (r' = 4 ∧ v = 4) ∨ (r' = 7 ∧ v = 5) → gi τ2 (a + 1) L = nI v → stOK (updC m (144 + 9 * s) r') (gi τ2 (a + 1)) (gi τ2 (a + 2)) (gi τ2 (a + 3)) (gi τ2 (a + 4)) s L := fun r' v τ2 hr' v1 => by
    have q0 : updC m (144 + 9 * s) r' (144 + 9 * s) = r' := updC_s
    unfold stOK vbF
    rw [q0]
    refine ⟨by omega, ?_, fun q => by omega, fun q => by omega, fun q => by omega, fun q => by omega⟩
    rw [if_neg (by omega)]
    rcases hr' with ⟨rfl, rfl⟩ | ⟨rfl, rfl⟩
    · rw [if_neg (by decide)]; exact v1
    · rw [if_pos rfl]; exact v1
  have put : ∀ (r' v : Nat), (r' = 4 ∧ v = 4) ∨ (r' = 7 ∧ v = 5) → r - 1 = r' → isStory (gr τ 42 4) ∧ vp_in (gi τ (gr τ 42 4) 7) 60 ∧ P 1 (si τ ((gr τ 42 4) + 1) (tn (gi τ (gr τ 42 4) 7)) (nI v)) := fun r' v hr' hrr => by
    rw [hrr] at k1
    rw [c1.2.2.1, c1.2.2.2.2.2.2.2, tn_nI (by omega)]
    have e3 : Eo (SLw a L) τ (si τ (a + 1) L (nI v)) := eo_lw (by decide)
    exact ⟨ha, vp_nI hL (by decide), k1.2 _ _ (reE_r (by omega)) _ (e3.mo (fun _ _ => SLwn)) (h1.lw ha e3) ht.n1 (bare r' v _ hr' gi_si_s)⟩
  rcases (show r = 1 ∨ r = 2 ∨ r = 3 ∨ r = 4 ∨ r = 5 ∨ r = 6 ∨ r = 7 ∨ r = 8 by omega) with rfl | rfl | rfl | rfl | rfl | rfl | rfl | rfl
  · rw [show skw 1 = 11 from rfl, if_pos (show nI 11 = 11 from rfl)]
    have k2 := up _ _ (fun m' τ => stOK m' (gi τ (a + 1)) (gi τ (a + 2)) (gi τ (a + 3)) (gi τ (a + 4)) s L) k1
    rw [show 1 - 1 = 0 from rfl, reE_0] at k2
    exact c_amount (v := 0) (hi := 9) h1 ht.n1 c1 hL (by decide) ⟨fun e he τ2 e2 g9 g10 => k2.ff he τ2 e2 g9 g10, fun x t1 hx τ2 e2 h2 ht2 v1 v2 x1 x2 => (k2.nx hx e2).2 _ _ rfl τ2 Eo.rf h2 ht2 (num 0 9 τ2 x (Or.inl ⟨rfl, rfl⟩) v1 v2 x1 x2)⟩
  · rw [show skw 2 = 12 from rfl, if_neg (show ¬ nI 12 = 11 by decide), if_pos (show nI 12 = 12 from rfl)]
    have k2 := up _ _ (fun m' τ => stOK m' (gi τ (a + 1)) (gi τ (a + 2)) (gi τ (a + 3)) (gi τ (a + 4)) s L) k1
    rw [show 2 - 1 = 1 from rfl, reE_t (Or.inl rfl)] at k2
    exact c_thingS (v := 1) h1 ht.n1 c1 hk hL ⟨fun e he τ2 e2 g9 g10 => k2.ff he τ2 e2 g9 g10, fun x t1 hx τ2 e2 h2 ht2 v1 v2 x1 => (k2.nx hx e2).2 _ _ rfl τ2 Eo.rf h2 ht2 (thg 1 τ2 x (Or.inl rfl) v1 v2 x1)⟩
  · rw [show skw 3 = 13 from rfl, if_neg (show ¬ nI 13 = 11 by decide), if_neg (show ¬ nI 13 = 12 by decide), if_pos (show nI 13 = 13 from rfl)]
    have k2 := up _ _ (fun m' τ => stOK m' (gi τ (a + 1)) (gi τ (a + 2)) (gi τ (a + 3)) (gi τ (a + 4)) s L) k1
    rw [show 3 - 1 = 2 from rfl, reE_t (Or.inr (Or.inl rfl))] at k2
    exact c_thingS (v := 2) h1 ht.n1 c1 hk hL ⟨fun e he τ2 e2 g9 g10 => k2.ff he τ2 e2 g9 g10, fun x t1 hx τ2 e2 h2 ht2 v1 v2 x1 => (k2.nx hx e2).2 _ _ rfl τ2 Eo.rf h2 ht2 (thg 2 τ2 x (Or.inr (Or.inl rfl)) v1 v2 x1)⟩
  · rw [show skw 4 = 14 from rfl, if_neg (show ¬ nI 14 = 11 by decide), if_neg (show ¬ nI 14 = 12 by decide), if_neg (show ¬ nI 14 = 13 by decide), if_pos (show nI 14 = 14 from rfl)]
    have k2 := up _ _ (fun m' τ => stOK m' (gi τ (a + 1)) (gi τ (a + 2)) (gi τ (a + 3)) (gi τ (a + 4)) s L) k1
    rw [show 4 - 1 = 3 from rfl, reE_t (Or.inr (Or.inr rfl))] at k2
    exact c_thingS (v := 3) h1 ht.n1 c1 hk hL ⟨fun e he τ2 e2 g9 g10 => k2.ff he τ2 e2 g9 g10, fun x t1 hx τ2 e2 h2 ht2 v1 v2 x1 => (k2.nx hx e2).2 _ _ rfl τ2 Eo.rf h2 ht2 (thg 3 τ2 x (Or.inr (Or.inr rfl)) v1 v2 x1)⟩
  · rw [show skw 5 = 15 from rfl, if_neg (show ¬ nI 15 = 11 by decide), if_neg (show ¬ nI 15 = 12 by decide), if_neg (show ¬ nI 15 = 13 by decide), if_neg (show ¬ nI 15 = 14 by decide), if_pos (show nI 15 = 15 from rfl), if_pos (show nI 15 = 15 from rfl)]
    exact put 4 4 (Or.inl ⟨rfl, rfl⟩) rfl
  · rw [show skw 6 = 16 from rfl, if_neg (show ¬ nI 16 = 11 by decide), if_neg (show ¬ nI 16 = 12 by decide), if_neg (show ¬ nI 16 = 13 by decide), if_neg (show ¬ nI 16 = 14 by decide), if_neg (show ¬ nI 16 = 15 by decide), if_pos (show nI 16 = 16 from rfl)]
    have k2 := up _ _ (fun m' τ => stOK m' (gi τ (a + 1)) (gi τ (a + 2)) (gi τ (a + 3)) (gi τ (a + 4)) s L) k1
    rw [show 6 - 1 = 5 from rfl, reE_5] at k2
    refine c_test h1 ht.n1 c1 hk hL ⟨fun e he τ2 e2 g9 g10 => k2.1 e he τ2 e2 g9 g10, fun m' t1 hx τ2 e2 h2 ht2 hw => k2.2 m' t1 hx τ2 e2 h2 ht2 ?_⟩
    obtain ⟨w1, w2, w3, w4, w5, w6⟩ := hw
    have kp := (teE_keep hx).1
    have q0 : m' (144 + 9 * s) = 5 := by rw [kp _ (by omega), updC_s]
    have q2 : m' 0 = c 0 := by rw [kp _ (by omega), updC_n (by omega)]; exact m0
    have q3 : m' 2 = c 2 := by rw [kp _ (by omega), updC_n (by omega)]; exact m2
    unfold stOK vbF
    rw [q0, q2, q3]
    exact ⟨by decide, by rw [if_pos rfl]; exact w2, fun q => absurd q (by decide), fun q => absurd q (by decide), fun _ => ⟨w1, w3, w4, w5, w6⟩, fun q => absurd q (by decide)⟩
  · rw [show skw 7 = 20 from rfl, if_neg (show ¬ nI 20 = 11 by decide), if_neg (show ¬ nI 20 = 12 by decide), if_neg (show ¬ nI 20 = 13 by decide), if_neg (show ¬ nI 20 = 14 by decide), if_neg (show ¬ nI 20 = 15 by decide), if_neg (show ¬ nI 20 = 16 by decide), if_neg (show ¬ nI 20 = 17 by decide), if_neg (show ¬ nI 20 = 18 by decide), if_neg (show ¬ nI 20 = 19 by decide), if_pos (show nI 20 = 20 from rfl)]
    have k2 := up _ _ (fun m' τ => stOK m' (gi τ (a + 1)) (gi τ (a + 2)) (gi τ (a + 3)) (gi τ (a + 4)) s L) k1
    rw [show 7 - 1 = 6 from rfl, reE_6] at k2
    exact c_amount (v := 6) (hi := 99) h1 ht.n1 c1 hL (by decide) ⟨fun e he τ2 e2 g9 g10 => k2.ff he τ2 e2 g9 g10, fun x t1 hx τ2 e2 h2 ht2 v1 v2 x1 x2 => (k2.nx hx e2).2 _ _ rfl τ2 Eo.rf h2 ht2 (num 6 99 τ2 x (Or.inr ⟨rfl, rfl⟩) v1 v2 x1 x2)⟩
  · rw [show skw 8 = 22 from rfl, if_neg (show ¬ nI 22 = 11 by decide), if_neg (show ¬ nI 22 = 12 by decide), if_neg (show ¬ nI 22 = 13 by decide), if_neg (show ¬ nI 22 = 14 by decide), if_neg (show ¬ nI 22 = 15 by decide), if_neg (show ¬ nI 22 = 16 by decide), if_neg (show ¬ nI 22 = 17 by decide), if_neg (show ¬ nI 22 = 18 by decide), if_neg (show ¬ nI 22 = 19 by decide), if_neg (show ¬ nI 22 = 20 by decide), if_neg (show ¬ nI 22 = 15 by decide)]
    exact put 7 5 (Or.inr ⟨rfl, rfl⟩) rfl
