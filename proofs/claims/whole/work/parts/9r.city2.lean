/-! ===== texts: a city's draft stays a city; the class reads it all ===== -/
theorem DW.thing {c : Nat → Nat} {nm : Nat → Int64} {l : Nat} {v : Int64} (h : DW c nm l) (hc : c 0 < 12) : DW (updC (updC c (8 + c 0) 1) 0 (c 0 + 1)) (nmU nm (c 0) v) l := by
  obtain ⟨ok, hk, hh, ha, h142, h143, hl⟩ := h
  have hk' := hk.add (i := 0) (k := c 0) (v := v) (Or.inl ⟨rfl, rfl, hc⟩)
  have u : ∀ i, i ≠ 0 → i ≠ 8 + c 0 → updC (updC c (8 + c 0) 1) 0 (c 0 + 1) i = c i := fun i a1 a2 => by rw [updC_n a1, updC_n a2]
  have u0 : updC (updC c (8 + c 0) 1) 0 (c 0 + 1) 0 = c 0 + 1 := updC_s
  have u8 : updC (updC c (8 + c 0) 1) 0 (c 0 + 1) (8 + c 0) = 1 := by rw [updC_n (by omega), updC_s]
  have hk2 : NmK (updC (updC c (8 + c 0) 1) 0 (c 0 + 1)) (nmU nm (c 0) v) := hk'.cg (by rw [u0, updC_s]) (by rw [u 2 (by decide) (by omega), updC_n (by decide)]) (by rw [u 3 (by decide) (by omega), updC_n (by decide)])
  generalize updC (updC c (8 + c 0) 1) 0 (c 0 + 1) = d at u u0 u8 hk2
  have p : ∀ x, x < 2 ^ c 0 → x < 2 ^ d 0 := fun x hx => by
    rw [u0]
    exact Nat.lt_of_lt_of_le hx (Nat.pow_le_pow_right (by decide) (by omega))
  have hh' : ∀ j, j < 72 → d (58 + j) ≤ 9 := fun j hj => by rw [u _ (by omega) (by omega)]; exact hh j hj
  have ha' : ∀ t, t < 12 → d (130 + t) < 2 ^ d 0 ∧ (d (130 + t)).testBit t = false := fun t ht => by
    rw [u _ (by omega) (by omega)]
    exact ⟨p _ (ha t ht).1, (ha t ht).2⟩
  have n1 := ok.n1
  have n2 := ok.n2
  have n3 := ok.n3
  have u1 := u 1 (by decide) (by omega)
  have u2 := u 2 (by decide) (by omega)
  have u3 := u 3 (by decide) (by omega)
  refine ⟨⟨by omega, by rw [u1]; exact n1, by rw [u2]; exact n2, by rw [u3]; exact n3, by rw [u 4 (by decide) (by omega)]; exact ok.n4, by rw [u 5 (by decide) (by omega)]; exact ok.n5, by rw [u 6 (by decide) (by omega)]; exact p _ ok.n6, by rw [u 7 (by decide) (by omega)]; exact p _ ok.n7, fun t ht => ?_, fun m hm => ?_, fun m hm => ?_, fun m hm => ?_, fun w hw => ?_, fun v' hv' t ht => ?_, fun t ht => (ha' t (by omega)).1, fun t ht => (ha' t (by omega)).2⟩, hk2, hh', ha', by rw [u 142 (by decide) (by omega)]; exact h142, by rw [u 143 (by decide) (by omega)]; exact h143, hl⟩
  · by_cases e : t = c 0
    · rw [e, u8]; decide
    · rw [u _ (by omega) (by omega)]; exact ok.worth t (by omega)
  · rw [u _ (by omega) (by omega)]
    have := ok.made m (by omega)
    omega
  · rw [u _ (by omega) (by omega)]; exact p _ (ok.parts m (by omega))
  · rw [u _ (by omega) (by omega), u _ (by omega) (by omega)]; exact ok.2.2.2.2.2.2.2.2.2.2.2.1 m (by omega)
  · rw [u _ (by omega) (by omega)]; exact p _ (ok.needs w (by omega))
  · have := hh' (12 * v' + t) (by omega)
    rw [show 58 + (12 * v' + t) = 58 + 12 * v' + t by omega] at this
    exact this
theorem DW.making {c : Nat → Nat} {nm : Nat → Int64} {l p s : Nat} (h : DW c nm l) (hc : c 1 < 16) (hp : p < c 0) (hs : s < 2 ^ c 0) (hb : s.testBit p = false) : DW (updC (updC (updC c (20 + c 1) p) (36 + c 1) s) 1 (c 1 + 1)) nm l := by
  obtain ⟨ok, hk, hh, ha, h142, h143, hl⟩ := h
  have u : ∀ i, i ≠ 1 → i ≠ 20 + c 1 → i ≠ 36 + c 1 → updC (updC (updC c (20 + c 1) p) (36 + c 1) s) 1 (c 1 + 1) i = c i := fun i a1 a2 a3 => by rw [updC_n a1, updC_n a3, updC_n a2]
  have u1 : updC (updC (updC c (20 + c 1) p) (36 + c 1) s) 1 (c 1 + 1) 1 = c 1 + 1 := updC_s
  have u20 : updC (updC (updC c (20 + c 1) p) (36 + c 1) s) 1 (c 1 + 1) (20 + c 1) = p := by rw [updC_n (by omega), updC_n (by omega), updC_s]
  have u36 : updC (updC (updC c (20 + c 1) p) (36 + c 1) s) 1 (c 1 + 1) (36 + c 1) = s := by rw [updC_n (by omega), updC_s]
  generalize updC (updC (updC c (20 + c 1) p) (36 + c 1) s) 1 (c 1 + 1) = d at u u1 u20 u36
  have n0 := ok.n0
  have n2 := ok.n2
  have n3 := ok.n3
  have u0 := u 0 (by decide) (by omega) (by omega)
  have u2 := u 2 (by decide) (by omega) (by omega)
  have u3 := u 3 (by decide) (by omega) (by omega)
  have hh' : ∀ j, j < 72 → d (58 + j) ≤ 9 := fun j hj => by rw [u _ (by omega) (by omega) (by omega)]; exact hh j hj
  have ha' : ∀ t, t < 12 → d (130 + t) < 2 ^ d 0 ∧ (d (130 + t)).testBit t = false := fun t ht => by
    rw [u _ (by omega) (by omega) (by omega), u0]; exact ha t ht
  refine ⟨⟨by omega, by omega, by omega, by omega, by rw [u 4 (by decide) (by omega) (by omega)]; exact ok.n4, by rw [u 5 (by decide) (by omega) (by omega)]; exact ok.n5, by rw [u 6 (by decide) (by omega) (by omega), u0]; exact ok.n6, by rw [u 7 (by decide) (by omega) (by omega), u0]; exact ok.n7, fun t ht => ?_, fun m hm => ?_, fun m hm => ?_, fun m hm => ?_, fun w hw => ?_, fun v' hv' t ht => ?_, fun t ht => (ha' t (by omega)).1, fun t ht => (ha' t (by omega)).2⟩, hk.cg u0 u2 u3, hh', ha', by rw [u 142 (by decide) (by omega) (by omega)]; exact h142, by rw [u 143 (by decide) (by omega) (by omega)]; exact h143, hl⟩
  · rw [u _ (by omega) (by omega) (by omega)]; exact ok.worth t (by omega)
  · rw [u0]
    by_cases e : m = c 1
    · rw [e, u20]; exact hp
    · rw [u _ (by omega) (by omega) (by omega)]; exact ok.made m (by omega)
  · rw [u0]
    by_cases e : m = c 1
    · rw [e, u36]; exact hs
    · rw [u _ (by omega) (by omega) (by omega)]; exact ok.parts m (by omega)
  · by_cases e : m = c 1
    · rw [e, u36, u20]; exact hb
    · rw [u _ (by omega) (by omega) (by omega), u _ (by omega) (by omega) (by omega)]; exact ok.2.2.2.2.2.2.2.2.2.2.2.1 m (by omega)
  · rw [u0, u _ (by omega) (by omega) (by omega)]; exact ok.needs w (by omega)
  · have := hh' (12 * v' + t) (by omega)
    rw [show 58 + (12 * v' + t) = 58 + 12 * v' + t by omega] at this
    exact this
theorem DW.count {c : Nat → Nat} {nm : Nat → Int64} {l k i : Nat} {v : Int64} (h : DW c nm l) (hi : (i = 2 ∧ k = 12 + c 2 ∧ c 2 < 6 ∧ c (52 + c 2) < 2 ^ c 0) ∨ (i = 3 ∧ k = 18 + c 3 ∧ c 3 < 6)) : DW (updC c i (c i + 1)) (nmU nm k v) l := by
  obtain ⟨ok, hk, hh, ha, h142, h143, hl⟩ := h
  have hk2 := hk.add (i := i) (k := k) (v := v) (by omega)
  have u : ∀ j, j ≠ i → updC c i (c i + 1) j = c j := fun j hj => updC_n hj
  have us : updC c i (c i + 1) i = c i + 1 := updC_s
  generalize updC c i (c i + 1) = d at u us hk2
  have n0 := ok.n0
  have n1 := ok.n1
  have u0 := u 0 (by omega)
  have u1 := u 1 (by omega)
  have h2 : d 2 ≤ 6 := by
    by_cases e : i = 2
    · rw [e] at us; omega
    · rw [u 2 (by omega)]; exact ok.n2
  have h3 : d 3 ≤ 6 := by
    by_cases e : i = 3
    · rw [e] at us; omega
    · rw [u 3 (by omega)]; exact ok.n3
  have hh' : ∀ j, j < 72 → d (58 + j) ≤ 9 := fun j hj => by rw [u _ (by omega)]; exact hh j hj
  have ha' : ∀ t, t < 12 → d (130 + t) < 2 ^ d 0 ∧ (d (130 + t)).testBit t = false := fun t ht => by
    rw [u _ (by omega), u0]; exact ha t ht
  refine ⟨⟨by omega, by omega, h2, h3, by rw [u 4 (by omega)]; exact ok.n4, by rw [u 5 (by omega)]; exact ok.n5, by rw [u 6 (by omega), u0]; exact ok.n6, by rw [u 7 (by omega), u0]; exact ok.n7, fun t ht => ?_, fun m hm => ?_, fun m hm => ?_, fun m hm => ?_, fun w hw => ?_, fun v' hv' t ht => ?_, fun t ht => (ha' t (by omega)).1, fun t ht => (ha' t (by omega)).2⟩, hk2, hh', ha', by rw [u 142 (by omega)]; exact h142, by rw [u 143 (by omega)]; exact h143, hl⟩
  · rw [u _ (by omega)]; exact ok.worth t (by omega)
  · rw [u _ (by omega), u0]; exact ok.made m (by omega)
  · rw [u _ (by omega), u0]; exact ok.parts m (by omega)
  · rw [u _ (by omega), u _ (by omega)]; exact ok.2.2.2.2.2.2.2.2.2.2.2.1 m (by omega)
  · rw [u _ (by omega), u0]
    by_cases e : i = 2
    · rw [e] at us
      by_cases e2 : w = c 2
      · rw [e2]; omega
      · exact ok.needs w (by omega)
    · have := u 2 (by omega)
      exact ok.needs w (by omega)
  · have := hh' (12 * v' + t) (by omega)
    rw [show 58 + (12 * v' + t) = 58 + 12 * v' + t by omega] at this
    exact this
theorem inr_i {α : Type} {a b : α} {t t' : TKn} (h : (Sum.inr (a, t) : RS α) = Sum.inr (b, t')) : a = b := congrArg Prod.fst (Sum.inr.inj h)
theorem partE_W {T : Nat → Nat} {n l : Nat} {c : Nat → Nat} {nm : Nat → Int64} {t t' : TKn} {x : DS} (hw : DW c nm l) (h : partE T n c nm l t = Sum.inr (x, t')) : DW x.1 x.2.1 x.2.2 := by
  obtain ⟨ok, hk, hh, ha, h142, h143, hl⟩ := id hw
  have n0 := ok.n0
  by_cases z0 : isKw t 0
  · rw [partE_0 z0] at h
    unfold thingE at h
    by_cases hlt : c 0 < 12
    · rw [if_pos hlt] at h
      obtain ⟨v, t1, -, h⟩ := bS_i h
      obtain ⟨c2, t2, h2, h⟩ := bS_i h
      obtain ⟨c3, t3, h3, h⟩ := bS_i h
      rw [← inr_i h]
      have w1 := hw.thing (v := v) hlt
      have w2 : DW c2 (nmU nm (c 0) v) l ∧ c 0 < c2 0 := by
        by_cases z : isKw t1 1
        · rw [woE_1 z] at h2
          obtain ⟨w, t4, h4, h2⟩ := bS_i h2
          rw [← inr_i h2]
          have := nuE_r h4
          exact ⟨w1.cell (by omega), by rw [updC_n (by omega), updC_s]; omega⟩
        · rw [woE_0 z] at h2
          rw [← inr_i h2]
          exact ⟨w1, by rw [updC_s]; omega⟩
      by_cases z : isKw t2 2
      · rw [exE_1 z] at h3
        rw [← inr_i h3]
        exact w2.1.cell (Or.inr (Or.inl ⟨rfl, orb_lt w2.1.1.n7 w2.2⟩))
      · rw [exE_0 z] at h3
        rw [← inr_i h3]
        exact w2.1
    · rw [if_neg hlt] at h; cases h
  by_cases z3 : isKw t 3
  · rw [partE_3 z3] at h
    unfold makesE at h
    by_cases hlt : c 1 < 16
    · rw [if_pos hlt] at h
      obtain ⟨p, t1, h1, h⟩ := bS_i h
      obtain ⟨_, t2, -, h⟩ := bS_i h
      obtain ⟨s, t3, h3, h⟩ := bS_i h
      rw [← inr_i h]
      obtain ⟨a1, a2⟩ := thF_r hk 900 0 t2 (Nat.two_pow_pos _) (Nat.zero_testBit p) h3
      exact hw.making hlt (toE_b hk (by decide) h1).1 a1 a2
    · rw [if_neg hlt] at h; cases h
  by_cases z5 : isKw t 5
  · rw [partE_5 z5] at h
    unfold workE at h
    by_cases hlt : c 2 < 6
    · rw [if_pos hlt] at h
      obtain ⟨v, t1, h1, h⟩ := bS_i h
      obtain ⟨_, t2, -, h⟩ := bS_i h
      obtain ⟨s, t3, h3, h⟩ := bS_i h
      rw [← inr_i h]
      obtain ⟨a1, a2⟩ := thF_r hk 900 0 t2 (Nat.two_pow_pos _) (Nat.zero_testBit 99) h3
      have w1 := hw.cell (i := 52 + c 2) (v := s) (by omega)
      have e2 : updC c (52 + c 2) s 2 = c 2 := updC_n (by omega)
      have e0 : updC c (52 + c 2) s 0 = c 0 := updC_n (by omega)
      have w2 := w1.count (i := 2) (k := 12 + c 2) (v := v) (Or.inl ⟨rfl, by rw [e2], by rw [e2]; exact hlt, by rw [e2, e0, updC_s]; exact a1⟩)
      rw [e2] at w2
      exact w2
    · rw [if_neg hlt] at h; cases h
  by_cases z7 : isKw t 7
  · rw [partE_7 z7] at h
    unfold voterE at h
    by_cases hlt : c 3 < 6
    · rw [if_pos hlt] at h
      obtain ⟨v, t1, h1, h⟩ := bS_i h
      rw [← inr_i h]
      exact hw.count (i := 3) (Or.inr ⟨rfl, rfl, hlt⟩)
    · rw [if_neg hlt] at h; cases h
  by_cases z8 : isKw t 8
  · rw [partE_8 z8] at h
    unfold hatesE at h
    obtain ⟨v, t1, h1, h⟩ := bS_i h
    obtain ⟨y, t2, h2, h⟩ := bS_i h
    obtain ⟨m, t3, h3, h⟩ := bS_i h
    rw [← inr_i h]
    have b1 := (toE_b hk (by decide) h1).1
    have b2 := (toE_b hk (by decide) h2).1
    have b3 := nuE_r h3
    have e1 : cnt c 2 = c 3 := rfl
    have e2 : cnt c 0 = c 0 := rfl
    have n3 := ok.n3
    exact hw.cell (by omega)
  by_cases z9 : isKw t 9
  · rw [partE_9 z9] at h
    unfold aheadE at h
    obtain ⟨f, t1, h1, h⟩ := bS_i h
    obtain ⟨s, t2, h2, h⟩ := bS_i h
    rw [← inr_i h]
    have b1 := (toE_b hk (by decide) h1).1
    have b2 := toE_b hk (by decide) h2
    have e2 : cnt c 0 = c 0 := rfl
    have a1 := ha s (by omega)
    refine hw.cell (Or.inr (Or.inr (Or.inr (Or.inr (Or.inr ⟨by omega, by omega, orb_lt a1.1 b1, ?_⟩)))))
    rw [show 130 + s - 130 = s by omega]
    exact orb_bit a1.2 (fun q => b2.2 q.symm)
  by_cases z10 : isKw t 10
  · rw [partE_10 z10] at h
    unfold lawE at h
    by_cases l0 : l = 0
    · rw [if_pos l0] at h
      obtain ⟨x', t1, h1, h⟩ := bS_i h
      rw [← inr_i h]
      have b := nuE_r h1
      obtain ⟨q1, q2, q3, q4, q5, q6, q7⟩ := hw.cell (i := 4) (v := x') (by omega)
      exact ⟨q1, q2, q3, q4, q5, q6, Nat.le_refl 1⟩
    · rw [if_neg l0] at h; cases h
  · rw [partE_f (fun j hj => by
      rcases hj with rfl | rfl | rfl | rfl | rfl | rfl | rfl
      · exact z0
      · exact z3
      · exact z5
      · exact z7
      · exact z8
      · exact z9
      · exact z10)] at h
    cases h
