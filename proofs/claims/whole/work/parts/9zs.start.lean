/-! ===== what holds at the law's loop for the first time ===== -/
theorem gz_sr {σ : Sto} {a k x j v : Nat} (h : gi σ a k = 0) : gi (sr σ x j v) a k = 0 := by rw [gi_sr]; exact h
theorem gz_sl {σ : Sto} {a k x j : Nat} {v : Int64} (h : gi σ a k = 0) : gi (sl σ x j v) a k = 0 := by rw [gi_sl]; exact h
theorem gz_s0 {σ : Sto} {a k x j : Nat} (h : gi σ a k = 0) : gi (si σ x j 0) a k = 0 := by
  by_cases q : a = x ∧ k = j
  · rw [q.1, q.2, gi_si_s]
  · by_cases q1 : a = x
    · rw [gi_si_k (fun z => q ⟨q1, z⟩)]; exact h
    · rw [gi_si_a q1]; exact h
theorem gz_si {σ : Sto} {a k x j : Nat} {v : Int32} (h : gi σ a k = 0) (q : a ≠ x) : gi (si σ x j v) a k = 0 := by rw [gi_si_a q]; exact h
theorem gz_kw : ∀ {f i n : Nat} {acc : Int64} {σ : Sto} {a k : Nat}, gi σ a k = 0 → gi (kwR f i n acc σ) a k = 0
  | 0, _, _, _, _, _, _, h => h
  | f + 1, i, n, acc, σ, a, k, h => by
    unfold kwR
    exact if_p2 (P := fun z => gi z a k = 0) (fun _ => h) (fun _ => if_p2 (P := fun z => gi z a k = 0) (fun _ => gz_kw (gz_sl h)) (fun _ => gz_kw h))
/-- the numbers in arrays and cities are nothing -/
theorem s0_z {a k : Nat} (h : a ≠ 1) (h9 : a ≠ 9) (h88 : a ≠ 88) (h90 : a ≠ 90) (h101 : a ≠ 101) (h103 : a ≠ 103) : gi s0L a k = 0 := by
  unfold s0L sX12 sX11 sX10 sX9 sX2 sX8 sX6 sX0 sX5 sX4 sX3 sX1 sX7 sJ7
  repeat (first | with_reducible apply gz_sr | with_reducible apply gz_sl | with_reducible apply gz_kw | with_reducible apply gz_s0 | (with_reducible refine gz_si ?_ (by assumption)))
  exact rfl
theorem s0_c : ∀ t ∈ CSTL, gr s0L t.1 t.2.1 = t.2.2 := by decide +kernel
theorem s0_kw : ∀ k, k < 23 → gl s0L 12 k = lI (kwN k) := by decide +kernel
theorem s0_r : gr s0L 1 11 = 13 ∧ gr s0L 1 12 = 27 ∧ gr s0L 88 1 = 13 ∧ gr s0L 90 3 = 13 ∧ gr s0L 93 5 = 13 ∧ gr s0L 95 3 = 13 ∧ gr s0L 97 4 = 13 := by decide +kernel
theorem s0_1 : gi s0L 1 13 = 0 ∧ gi s0L 1 14 = 0 ∧ gi s0L 1 15 = 0 ∧ gi s0L 1 18 = -1 ∧ gi s0L 1 19 = -1 ∧ gl s0L 1 16 = 0 ∧ gl s0L 1 17 = 1 := by decide +kernel
theorem s0_9 : ∀ t, t < 4 → gi s0L 9 t = -1 ∧ gi s0L 103 t = -1 := by decide +kernel
theorem s0_88 : gi s0L 88 2 = 0 ∧ gi s0L 88 3 = 1 ∧ gi s0L 90 4 = 1 := by decide +kernel
theorem s0_101 : gi s0L 101 0 = 0 ∧ gi s0L 101 8 = 0 ∧ gi s0L 101 10 = -1 ∧ gi s0L 101 11 = -1 ∧ gi s0L 101 23 = 0 ∧ gi s0L 101 31 = 0 ∧ gi s0L 101 39 = 0 ∧ gl s0L 101 2 = 0 ∧ gl s0L 101 3 = 1 := by decide +kernel
theorem s0_nm : ∀ k, k < 24 → gl s0L 14 k = 0 := by decide +kernel
def c00 : Nat → Nat := fun _ => 0
def n00 : Nat → Int64 := fun _ => 0
def w00 : Wd := ((fun _ => 0, fun _ => 0, fun _ _ => 0), (0, fun _ => 0), (0, fun _ => (c00, n00)), (0, fun _ => 0), (0, fun _ => 0), (0, 1), (-1, -1))
theorem ok00 : OK c00 := ⟨by decide, by decide, by decide, by decide, by decide, by decide, by decide, by decide, fun t h => absurd h (Nat.not_lt_zero t), fun t h => absurd h (Nat.not_lt_zero t), fun t h => absurd h (Nat.not_lt_zero t), fun t h => absurd h (Nat.not_lt_zero t), fun t h => absurd h (Nat.not_lt_zero t), fun t h => absurd h (Nat.not_lt_zero t), fun t h => absurd h (Nat.not_lt_zero t), fun t h => absurd h (Nat.not_lt_zero t)⟩
theorem cr00 : CR s0L 13 c00 := ⟨fun k hk => s0_z (by decide) (by decide) (by decide) (by decide) (by decide) (by decide), fun t h => absurd h (Nat.not_lt_zero t), fun t h => absurd h (Nat.not_lt_zero t), fun t h => absurd h (Nat.not_lt_zero t), fun t h => absurd h (Nat.not_lt_zero t), fun t h => absurd h (Nat.not_lt_zero t), fun t h => absurd h (Nat.not_lt_zero t)⟩
theorem kw00 : KW 1 s0L c00 := by
  obtain ⟨r1, r2, r3, r4, r5, r6, r7⟩ := s0_r
  obtain ⟨q1, q2, q3⟩ := s0_88
  have i13 : isCity 13 := Or.inl rfl
  refine ⟨by rw [r1]; exact i13, by rw [r3, r1], by rw [r4, r1], by rw [r5, r1], by rw [r6, r1], by rw [r7, r1], ⟨by rw [r3]; exact i13, by rw [r3]; exact cr00, q1, 1, by decide, by decide, q2, fun g hg => ⟨0, s0_z (by decide) (by decide) (by decide) (by decide) (by decide) (by decide), by decide, fun z => absurd z (by decide)⟩⟩, ⟨by rw [r4]; exact i13, by rw [r4]; exact cr00⟩, 1, by decide, by decide, q3, fun g hg => ⟨0, s0_z (by decide) (by decide) (by decide) (by decide) (by decide) (by decide), by decide, fun z => absurd z (by decide)⟩⟩
theorem z0 {a k : Nat} (h : a ≠ 1 ∧ a ≠ 9 ∧ a ≠ 88 ∧ a ≠ 90 ∧ a ≠ 101 ∧ a ≠ 103) : gi s0L a k = nI 0 := s0_z h.1 h.2.1 h.2.2.1 h.2.2.2.1 h.2.2.2.2.1 h.2.2.2.2.2
theorem inv00 : INV 1 s0L := by
  obtain ⟨r1, r2, -⟩ := s0_r
  obtain ⟨p1, p2, p3, p4, p5, p6, p7⟩ := s0_1
  obtain ⟨m1, m2, m3, m4, m5, m6, m7, m8, m9⟩ := s0_101
  have ww : WW w00 := ⟨⟨by decide, fun i h => absurd h (Nat.not_lt_zero i)⟩, by decide, by decide⟩
  refine ⟨c00, n00, w00, 0, ⟨ok00, ⟨by decide, by decide, by decide, fun _ _ _ => rfl⟩, ww, kw00, Or.inl ⟨r1, r2⟩, ?_, p3, ?_⟩, ?_, m1, ?_⟩
  · rw [r1]
    exact ⟨cr00, fun k hk => s0_nm k hk, z0 (by decide), by decide, z0 (by decide), by decide, 0, z0 (by decide), by decide, Or.inl ⟨rfl, rfl⟩⟩
  · exact ⟨fun t ht => ⟨z0 (by decide), Nat.zero_le _, (s0_9 t ht).1, Nat.zero_le _, fun k hk => absurd hk (Nat.not_lt_zero _)⟩, ⟨z0 (by decide), by decide, fun k hk => absurd hk (Nat.not_lt_zero k)⟩, ⟨p1, fun i h => absurd h (Nat.not_lt_zero i)⟩, ⟨p2, fun h => absurd rfl h⟩, ⟨z0 (by decide), fun k hk => absurd hk (Nat.not_lt_zero k)⟩, ⟨p6, p7⟩, ⟨p4, p5⟩, s0_kw⟩
  · refine ⟨fun j hj => z0 (by decide), fun k hk => ?_⟩
    rcases hk with h | ⟨h1, h2⟩ | ⟨h1, h2⟩
    · exact absurd h (Nat.not_lt_zero k)
    · exact absurd (Nat.lt_of_lt_of_le h2 (Nat.le_refl 12)) (by omega)
    · exact absurd (Nat.lt_of_lt_of_le h2 (Nat.le_refl 18)) (by omega)
  · exact ⟨fun t ht => ⟨z0 (by decide), Nat.zero_le _, (s0_9 t ht).2, Nat.zero_le _, fun k hk => absurd hk (Nat.not_lt_zero _)⟩, ⟨m2, by decide, fun k hk => absurd hk (Nat.not_lt_zero k)⟩, ⟨m5, fun i h => absurd h (Nat.not_lt_zero i)⟩, ⟨m7, fun h => absurd rfl h⟩, ⟨m6, fun k hk => absurd hk (Nat.not_lt_zero k)⟩, ⟨m8, m9⟩, ⟨m3, m4⟩, z0 (by decide)⟩
