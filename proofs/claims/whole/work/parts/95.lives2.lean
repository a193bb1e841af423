/-! ===== centuries lived: how they run in the class ===== -/
theorem Lay.le {c : Nat → Nat} {V O G U T : Nat → Int32} : ∀ n d s e L M, Lay c V O G U T n d s e L M → L ≤ M ∧ (s < e → L < M)
  | 0, _, s, e, L, M, h => by
    have h' : s = e ∧ L = M := h
    omega
  | n + 1, d, s, e, L, M, h => by
    rcases h with ⟨h1, h2⟩ | ⟨_, _, _, h⟩
    · omega
    · rcases h with ⟨_, _, h⟩ | ⟨_, _, _, d', m, _, _, h1, _, _, _, h2⟩
      · have := (Lay.le n d _ _ _ _ h).1
        omega
      · have q1 := (Lay.le n d' _ _ _ _ h1).1
        have q2 := (Lay.le n d _ _ _ _ h2).1
        omega
def SLr (A a k : Nat) : Prop := SLa A a k ∨ a = 98 ∨ a = 99
def LX (N A : Nat) (c0 : Nat → Nat) (σ0 σ : Sto) (x : LTv) : Prop := Eo (SLr A) σ0 σ ∧ LR N σ x.1 x.2.1 ∧ Sm c0 x.1 ∧ gr σ 1 11 = A ∧ gi σ 98 4 = nI x.2.2.2.2 ∧ x.2.2.1 ≤ 300
theorem LR.fr {N : Nat} {σ τ : Sto} {c : Nat → Nat} {q : LQ} (h : LR N σ c q) (e : Eo (fun a k => a = 99 ∨ (a = 98 ∧ k = 4)) σ τ) : LR N τ c q := by
  obtain ⟨hw, ok, h3, h4, h5, h6, h7, h8⟩ := h
  exact ⟨hw.ex (e.mo (fun a k z => by unfold SX; omega)), ok, by rw [e.1 97 5 (by omega)]; exact h3, h4, by rw [e.1 98 0 (by omega)]; exact h5, by rw [e.1 98 1 (by omega)]; exact h6, by rw [e.1 98 2 (by omega)]; exact h7, by rw [e.1 98 3 (by omega)]; exact h8⟩
theorem LX.ro {N A : Nat} {c0 : Nat → Nat} {σ0 σ : Sto} {x : LTv} {L : Nat} {v : Int32} (h : LX N A c0 σ0 σ x) : LX N A c0 σ0 (si σ 99 L v) x := by
  obtain ⟨h1, h2, h3, h4, h5, h6⟩ := h
  exact ⟨h1.tr (Eo.si (by unfold SLr; omega)), h2.fr (Eo.si (Or.inl rfl)), h3, by rw [gr_si]; exact h4, by rw [gi_si_a (by decide)]; exact h5, h6⟩
theorem LX.st {N A : Nat} {c0 : Nat → Nat} {σ0 σ : Sto} {x : LTv} (h : LX N A c0 σ0 σ x) {a k : Nat} (ha : (A + 8 ≤ a ∧ a ≤ A + 13)) : gi σ a k = gi σ0 a k := by
  have hA : isCity A := by rw [← h.2.2.2.1]; exact h.2.1.1.1
  have hr := hA.rg
  exact h.1.1 a k (by unfold SLr SLa; omega)
theorem c_endW {σ : Sto} {a L m v : Nat} {P : Int32 → Sto → Prop} (hs : isStory a) (hm : m < 60) (hL : L < 60) (hT : gi σ (a + 5) m = nI L) (hV : gi σ (a + 1) L = nI v) (hv : v < 30) (h6 : v ≠ 6) (k : P (nI (m + 1)) σ) : w_X3_lineBehindEnd a (nI m) σ P := by
  unfold w_X3_lineBehindEnd
  refine ⟨hs, vp_nI hm (by decide), ?_⟩
  rw [tn_nI (by omega), hT]
  rintro _ rfl
  refine ⟨vp_nI hL (by decide), ?_⟩
  rw [tn_nI (by omega), hV, show (6 : Int32) = nI 6 from rfl, if_neg (by rw [jI_eq (by omega) (by decide)]; exact h6), N1, jI_add]
  exact k
theorem c_endL {σ : Sto} {a L m w : Nat} {P : Int32 → Sto → Prop} (hs : isStory a) (hm : m < 60) (hL : L < 60) (hT : gi σ (a + 5) m = nI L) (hV : gi σ (a + 1) L = nI 6) (hw : w < 100) (hr : gi σ 99 L = nI (w + 1)) (k0 : w = 0 → P (nI (m + 1)) (si σ 99 L (nI w))) (k1 : 0 < w → P (nI (L + 1)) (si σ 99 L (nI w))) : w_X3_lineBehindEnd a (nI m) σ P := by
  unfold w_X3_lineBehindEnd
  refine ⟨hs, vp_nI hm (by decide), ?_⟩
  rw [tn_nI (by omega), hT]
  rintro _ rfl
  refine ⟨vp_nI hL (by decide), ?_⟩
  rw [tn_nI (by omega), hV, show (6 : Int32) = nI 6 from rfl, if_pos rfl, hr, N1, jI_sub (by omega)]
  rintro _ rfl
  rw [gi_si_s, N0, show w + 1 - 1 = w by omega, jI_add, jI_add]
  by_cases h0 : w = 0
  · rw [if_pos (by rw [jI_le (by omega) (by decide)]; omega)]
    exact k0 h0
  · rw [if_neg (by rw [jI_le (by omega) (by decide)]; omega)]
    exact k1 (by omega)
/-- a step that is none of when, loop, stop -/
theorem c_acts {N A : Nat} {c0 : Nat → Nat} {σ0 σ : Sto} {x : LTv} {s L : Nat} {P : Int32 → Sto → Prop} (h : LX N A c0 σ0 σ x) (hN : N ≤ 2000) (hL : L < 60) (st : stOK c0 (gi σ0 (A + 9)) (gi σ0 (A + 10)) (gi σ0 (A + 11)) (gi σ0 (A + 12)) s L) (k4 : c0 (144 + 9 * s) ≤ 4) (k : ∀ τ, LX N A c0 σ0 τ (actS s x) → (∀ i, gi τ 99 i = gi σ 99 i) → P (nI (L + 1)) τ) : w_X3_lineBehindStep (A + 8) (nI L) σ P := by
  have h0 := h
  obtain ⟨h1, h2, h3, h4, h5, h6⟩ := h
  have hA : isCity A := by rw [← h4]; exact h2.1.1
  have hr := hA.rg
  obtain ⟨s1, s2, s3, s4, s5, s6⟩ := st
  have ei : ∀ i, 8 ≤ i → x.1 i = c0 i := fun i hi => h3 i (by omega) (by omega) (by omega)
  have e0 : x.1 0 = c0 0 := h3 0 (by decide) (by decide) (by decide)
  have ok := h2.2.1
  have n0 := ok.n0
  have fin : ∀ τ, Eo (SLa (gr σ 1 11)) σ τ → LR N τ (actF s x.1 x.2.1).1 (actF s x.1 x.2.1).2 → P (nI (L + 1)) τ := fun τ e hl => by
    rw [h4] at e
    refine k τ ⟨h1.tr (e.mo (fun a k z => Or.inl z)), hl, h3.act, by rw [e.2.2 1 11]; exact h4, ?_, h6⟩ (fun i => e.1 99 i (by unfold SLa; omega))
    rw [e.1 98 4 (by unfold SLa; omega)]; exact h5
  have hb : vbF c0 s = c0 (144 + 9 * s) := by unfold vbF; rw [if_neg (by omega), if_neg (by omega)]
  rw [hb] at s2
  unfold actF at fin
  rw [ei _ (by omega), ei _ (by omega)] at fin
  unfold w_X3_lineBehindStep
  refine ⟨hA.st, vp_nI hL (by decide), ?_⟩
  rw [tn_nI (by omega), h0.st (a := A + 8 + 2) (by omega), h0.st (a := A + 8 + 1) (by omega), h0.st (a := A + 8 + 4) (by omega), s2]
  rintro _ rfl
  rintro _ rfl
  rw [N0, N1, N3, N4, show (2 : Int32) = nI 2 from rfl, jI_add]
  generalize c0 (144 + 9 * s) = kd at s3 s4 k4 fin ⊢
  by_cases q0 : kd = 0
  · rw [if_pos q0] at fin
    rw [if_pos (by rw [q0]), (s3 q0).1]
    exact c_passYears h2 hN (s3 q0).2.2 fin
  rw [if_neg q0] at fin
  rw [if_neg (by rw [jI_eq (by omega) (by decide)]; exact q0)]
  by_cases q1 : kd = 1
  · rw [if_neg (by omega), if_neg (by omega), if_pos q1] at fin
    obtain ⟨t1, t2⟩ := s4 (by omega)
    rw [if_pos (by rw [q1]), t1]
    exact c_tryUnmaking h2 (by rw [e0]; exact t2) fin
  rw [if_neg (by rw [jI_eq (by omega) (by decide)]; exact q1)]
  by_cases q2 : kd = 2
  · rw [if_neg (by omega), if_neg (by omega), if_neg q1] at fin
    obtain ⟨t1, t2⟩ := s4 (by omega)
    rw [if_pos (by rw [q2]), t1]
    exact c_tryRemaking h2 (by rw [e0]; exact t2) fin
  rw [if_neg (by rw [jI_eq (by omega) (by decide)]; exact q2)]
  by_cases q3 : kd = 3
  · rw [if_neg (by omega), if_pos q3] at fin
    obtain ⟨t1, t2⟩ := s4 (by omega)
    rw [if_pos (by rw [q3]), t1]
    exact c_spare h2 (by rw [e0]; exact t2) fin
  rw [if_neg (by rw [jI_eq (by omega) (by decide)]; exact q3)]
  have q4 : kd = 4 := by omega
  rw [if_pos q4] at fin
  rw [if_pos (by rw [q4])]
  exact c_tryJoking h2 hN fin
