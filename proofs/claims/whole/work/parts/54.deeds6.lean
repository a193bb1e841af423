/-! ===== promise 23: grudge ===== -/
theorem KW.grudge {N : Nat} {σ : Sto} {c : Nat → Nat} (h : KW N σ c) (ok : OK c) {v t m : Nat} (hv : v < c 3) (ht : t < c 0) : KW (N + 1) (si (si σ (gr σ 1 11 + 6) (12 * v + t) (nI m)) 90 4 (gi σ 90 4 + 1)) (updC c (58 + 12 * v + t) m) := by
  have := ok.n0
  have := ok.n3
  have := ok.n1
  have := ok.n2
  obtain ⟨h1, h2, h3, h4, h5, h6, ⟨hc, hr, hm, s, hs1, hsN, hst, hkn⟩, ⟨hbc, hbr⟩, b, hb1, hbN, hbt, hbk⟩ := h
  have hrg := h1.rg
  have u : ∀ i, i ≠ 58 + 12 * v + t → updC c (58 + 12 * v + t) m i = c i := fun i hi => updC_n hi
  have lS : likeS c (updC c (58 + 12 * v + t) m) := likeS_upd ok (by omega) (by omega) (by omega)
  have hcr : CR (si (si σ (gr σ 1 11 + 6) (12 * v + t) (nI m)) 90 4 (gi σ 90 4 + 1)) (gr σ 1 11) (updC c (58 + 12 * v + t) m) := by
    rw [h2] at hr
    obtain ⟨r0, r1, r2, r3, r4, r5, r6⟩ := hr
    have h9 : CR (si σ (gr σ 1 11 + 6) (12 * v + t) (nI m)) (gr σ 1 11) (updC c (58 + 12 * v + t) m) := by
      rw [CR, u 0 (by omega), u 1 (by omega), u 2 (by omega), u 3 (by omega)]
      refine ⟨fun i hi => ?_, fun i hi => ?_, fun i hi => ?_, fun i hi => ?_, fun i hi => ?_, fun w hw i hi => ?_, fun i hi => ?_⟩
      · rw [gi_si_a (by omega), u _ (by omega)]; exact r0 i hi
      · rw [gi_si_a (by omega), u _ (by omega)]; exact r1 i hi
      · rw [gi_si_a (by omega), u _ (by omega)]; exact r2 i hi
      · rw [gi_si_a (by omega), u _ (by omega)]; exact r3 i hi
      · rw [gi_si_a (by omega), u _ (by omega)]; exact r4 i hi
      · by_cases hq : 12 * w + i = 12 * v + t
        · rw [hq, gi_si_s, show 58 + 12 * w + i = 58 + 12 * v + t by omega, updC_s]
        · rw [gi_si_k hq, u _ (by omega)]; exact r5 w hw i hi
      · rw [gi_si_a (by omega), u _ (by omega)]; exact r6 i hi
    exact h9.eo (S := fun a _ => a = 90) (Eo.si rfl) (fun i k hi q => by omega)
  have h88 : ∀ j, gi (si (si σ (gr σ 1 11 + 6) (12 * v + t) (nI m)) 90 4 (gi σ 90 4 + 1)) 88 j = gi σ 88 j := fun j => by rw [gi_si_a (by omega), gi_si_a (by omega)]
  have h89 : ∀ j, gi (si (si σ (gr σ 1 11 + 6) (12 * v + t) (nI m)) 90 4 (gi σ 90 4 + 1)) 89 j = gi σ 89 j := fun j => by rw [gi_si_a (by omega), gi_si_a (by omega)]
  have h91 : ∀ j, gi (si (si σ (gr σ 1 11 + 6) (12 * v + t) (nI m)) 90 4 (gi σ 90 4 + 1)) 91 j = gi σ 91 j := fun j => by rw [gi_si_a (by omega), gi_si_a (by omega)]
  refine ⟨h1, h2, h3, h4, h5, h6, ⟨hc, by rw [gr_si, gr_si, h2]; exact hcr, by rw [h88, hm, madeF_like lS], s, hs1, by omega, by rw [h88]; exact hst, fun g hg => ?_⟩, ⟨hbc, by rw [gr_si, gr_si, h3]; exact hcr⟩, b + 1, by omega, by omega, by rw [gi_si_s, hbt, show (1 : Int32) = nI 1 from rfl]; exact jI_add, fun o ho => ?_⟩
  · rw [h89, upF_like lS]; exact hkn g hg
  · rw [h91]
    obtain ⟨v2, hv2, hvb, -⟩ := hbk o ho
    exact ⟨v2, hv2, by omega, fun q => by omega⟩
theorem OK.grudge {c : Nat → Nat} (ok : OK c) {v t m : Nat} (hv : v < c 3) (ht : t < c 0) (hm : m ≤ 9) : OK (updC c (58 + 12 * v + t) m) := by
  have := ok.n0
  have := ok.n1
  have := ok.n2
  have := ok.n3
  have u : ∀ i, i ≠ 58 + 12 * v + t → updC c (58 + 12 * v + t) m i = c i := fun i hi => updC_n hi
  rw [OK, u 0 (by omega), u 1 (by omega), u 2 (by omega), u 3 (by omega), u 4 (by omega), u 5 (by omega), u 6 (by omega), u 7 (by omega)]
  refine ⟨ok.n0, ok.n1, ok.n2, ok.n3, ok.n4, ok.n5, ok.n6, ok.n7, fun i hi => ?_, fun i hi => ?_, fun i hi => ?_, fun i hi => ?_, fun i hi => ?_, fun w hw i hi => ?_, fun i hi => ?_, fun i hi => ?_⟩
  · rw [u _ (by omega)]; exact ok.worth i hi
  · rw [u _ (by omega)]; exact ok.made i hi
  · rw [u _ (by omega)]; exact ok.parts i hi
  · rw [u _ (by omega), u _ (by omega)]; exact ok.2.2.2.2.2.2.2.2.2.2.2.1 i hi
  · rw [u _ (by omega)]; exact ok.needs i hi
  · by_cases hq : 58 + 12 * w + i = 58 + 12 * v + t
    · rw [hq, updC_s]; exact hm
    · rw [u _ hq]; exact ok.hates w hw i hi
  · rw [u _ (by omega)]; exact ok.ahead i hi
  · rw [u _ (by omega)]; exact ok.aheadn i hi
def grudgeA (c : Nat → Nat) (x y z : Int32) : Int32 × Int32 × (Nat → Nat) := if ¬ x < 0 ∧ x < nI (c 3) then (if ¬ y < 0 ∧ y < nI (c 0) then (if ¬ z < 0 ∧ z < nI 10 then (1, 0, updC c (58 + 12 * tn x + tn y) (tn z)) else (0, 5, c)) else (0, 2, c)) else (0, 2, c)
theorem c_grudge {σ : Sto} {c : Nat → Nat} {P : Int32 → Sto → Prop} {N : Nat} (h : KW N σ c) (ok : OK c) {x y z : Int32} (k : ∀ τ, Eo (SRu (gr σ 1 11)) σ τ → KW (N + 1) τ (grudgeA c x y z).2.2 → gi τ 1 15 = (grudgeA c x y z).2.1 → P (grudgeA c x y z).1 τ) : w_X11_grudge x y z σ P := by
  have := ok.n0
  have := ok.n3
  have hrg := h.1.rg
  have fin : ∀ s : Int32, grudgeA c x y z = (0, s, c) → P 0 (si σ 1 15 s) := fun s e1 => by
    rw [e1] at k
    exact k _ (stq.mo (fun _ _ => Or.inl)) (h.mono (Nat.le_succ _)).st gi_si_s
  unfold w_X11_grudge
  refine t_noVoter h ok (fun hx => ?_) (fun hx => ?_)
  · rw [if_pos rfl]
    obtain ⟨v, hv, rfl⟩ := hx
    refine t_noThing h ok (fun hy => ?_) (fun hy => ?_)
    · rw [if_pos rfl]
      obtain ⟨t, ht, rfl⟩ := hy
      have e0 : grudgeA c (nI v) (nI t) z = (if ¬ z < 0 ∧ z < nI 10 then (1, 0, updC c (58 + 12 * v + t) (tn z)) else (0, 5, c)) := by unfold grudgeA; rw [ifD_pos hv (by omega), ifD_pos ht (by omega), tn_nI (by omega), tn_nI (by omega)]
      have hd := inD_iff (x := z) (N := 10) (by decide)
      have hle9 := le_lt (x := z) (n := 9) (l := 9) (by decide) (by decide)
      have out : ¬ inD z 10 → w_X11_grudge_32 σ P := fun hz => ⟨Or.inl rfl, fin 5 (by rw [e0]; exact ifD_neg hz (by decide))⟩
      by_cases h1 : z < 0
      · rw [if_pos h1]; exact out (fun q => (hd.mp q).1 h1)
      · rw [if_neg h1]
        by_cases h2 : z ≤ 9
        · rw [if_pos h2]
          obtain ⟨n, hn, rfl⟩ := hd.mpr ⟨h1, hle9.mp h2⟩
          rw [ifD_pos hn (by decide), tn_nI (by omega)] at e0
          rw [e0] at k
          rw [show (12 : Int32) = nI 12 from rfl, jI_mul, jI_add]
          refine ⟨h.1, vp_nI (by omega) (by decide), ?_⟩
          rw [tn_nI (by omega), Nat.mul_comm]
          unfold w_X0_forget
          rw [gi_si_a (by omega)]
          have e2 : Eo (SRu (gr σ 1 11)) σ (si (si σ (gr σ 1 11 + 6) (12 * v + t) (nI n)) 90 4 (gi σ 90 4 + 1)) := (Eo.si (Or.inr (Or.inr (Or.inl rfl)))).tr (Eo.si (Or.inr (Or.inr (Or.inr ⟨rfl, rfl⟩))))
          exact ⟨Or.inr rfl, k _ (e2.tr (stq.mo (fun _ _ => Or.inl))) (h.grudge ok hv ht).st gi_si_s⟩
        · rw [if_neg h2]
          exact out (fun q => h2 (hle9.mpr (hd.mp q).2))
    · rw [if_neg (by decide)]
      exact ⟨Or.inl rfl, fin 2 (by unfold grudgeA; rw [ifD_pos hv (by omega), ifD_neg hy (by omega)])⟩
  · rw [if_neg (by decide)]
    exact ⟨Or.inl rfl, fin 2 (ifD_neg hx (by omega))⟩
theorem m_grudge {σ : Sto} {c : Nat → Nat} {P : Int32 → Sto → Prop} (h : MR σ c) (ok : OK c) {x y z : Int32} (k : ∀ τ, Eo SMRu σ τ → MR τ (grudgeA c x y z).2.2 → gi τ 101 0 = (grudgeA c x y z).2.1 → P (grudgeA c x y z).1 τ) : w_X12_grudge x y z σ P := by
  have := ok.n0
  have := ok.n3
  have hs : MR (si (si σ 101 1 0) 101 0 0) c := h.sm sm10
  have fin : ∀ s : Int32, grudgeA c x y z = (0, s, c) → P 0 (si (si (si σ 101 1 0) 101 0 0) 101 0 s) := fun s e1 => by
    rw [e1] at k
    exact k _ ((sm10.tr sm0).mo (fun _ _ => Or.inl)) (hs.sm sm0) gi_si_s
  unfold w_X12_grudge
  refine t_isVoterAt hs ok (fun hx => ?_) (fun hx => ?_)
  · rw [if_neg (by decide)]
    obtain ⟨v, hv, rfl⟩ := hx
    refine t_isThingAt hs ok (fun hy => ?_) (fun hy => ?_)
    · rw [if_neg (by decide)]
      obtain ⟨t, ht, rfl⟩ := hy
      have e0 : grudgeA c (nI v) (nI t) z = (if ¬ z < 0 ∧ z < nI 10 then (1, 0, updC c (58 + 12 * v + t) (tn z)) else (0, 5, c)) := by unfold grudgeA; rw [ifD_pos hv (by omega), ifD_pos ht (by omega), tn_nI (by omega), tn_nI (by omega)]
      refine t_isInK (N := 9) (by decide) (by decide) (fun hz => ?_) (fun hz => ?_)
      · rw [if_neg (by decide)]
        obtain ⟨n, hn, rfl⟩ := hz
        rw [ifD_pos hn (by decide), tn_nI (by omega)] at e0
        rw [e0] at k
        rw [show (12 : Int32) = nI 12 from rfl, show (58 : Int32) = nI 58 from rfl, jI_mul, jI_add, jI_add]
        refine ⟨vp_nI (by omega) (by decide), ?_⟩
        rw [tn_nI (by omega)]
        refine k _ ((sm10.mo (fun _ _ => Or.inl)).tr (Eo.si (Or.inr ⟨rfl, Or.inr ⟨by omega, by omega⟩⟩))) (hs.put _ n) ?_
        rw [gi_si_a (by decide), gi_si_s]
      · rw [if_pos rfl]
        exact ⟨Or.inl rfl, fin 5 (by rw [e0]; exact ifD_neg hz (by decide))⟩
    · rw [if_pos rfl]
      exact ⟨Or.inl rfl, fin 2 (by unfold grudgeA; rw [ifD_pos hv (by omega), ifD_neg hy (by omega)])⟩
  · rw [if_pos rfl]
    exact ⟨Or.inl rfl, fin 2 (ifD_neg hx (by omega))⟩
