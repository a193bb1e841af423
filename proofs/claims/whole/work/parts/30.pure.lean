/-! ===== numbers: nI n, the int of a Nat ===== -/
def bI (b : Bool) : Int32 := if b then 1 else 0
/-- a set less another -/
def sd (a b : Nat) : Nat := a ^^^ (a &&& b)
theorem jI_toBV (a : Nat) : (nI a).toBitVec = BitVec.ofNat 32 a := rfl
theorem jI_add {a b : Nat} : nI a + nI b = nI (a + b) := by
  apply Int32.toBitVec_inj.mp
  rw [Int32.toBitVec_add, jI_toBV, jI_toBV, jI_toBV, BitVec.ofNat_add]
theorem jI_mul {a b : Nat} : nI a * nI b = nI (a * b) := by
  apply Int32.toBitVec_inj.mp
  rw [Int32.toBitVec_mul, jI_toBV, jI_toBV, jI_toBV, BitVec.ofNat_mul]
theorem jI_sub {a b : Nat} (h : b ≤ a) : nI a - nI b = nI (a - b) := by
  have e : nI a = nI (a - b) + nI b := by rw [jI_add, Nat.sub_add_cancel h]
  rw [e]
  apply Int32.toBitVec_inj.mp
  rw [Int32.toBitVec_sub, Int32.toBitVec_add, BitVec.add_sub_cancel]
theorem jI_and {a b : Nat} : nI a &&& nI b = nI (a &&& b) := by
  apply Int32.toBitVec_inj.mp
  rw [Int32.toBitVec_and, jI_toBV, jI_toBV, jI_toBV]
  apply BitVec.eq_of_getLsbD_eq
  intro i hi
  simp [BitVec.getLsbD_ofNat, Nat.testBit_and, hi]
theorem jI_or {a b : Nat} : nI a ||| nI b = nI (a ||| b) := by
  apply Int32.toBitVec_inj.mp
  rw [Int32.toBitVec_or, jI_toBV, jI_toBV, jI_toBV]
  apply BitVec.eq_of_getLsbD_eq
  intro i hi
  simp [BitVec.getLsbD_ofNat, Nat.testBit_or, hi]
theorem jI_xor {a b : Nat} : nI a ^^^ nI b = nI (a ^^^ b) := by
  apply Int32.toBitVec_inj.mp
  rw [Int32.toBitVec_xor, jI_toBV, jI_toBV, jI_toBV]
  apply BitVec.eq_of_getLsbD_eq
  intro i hi
  simp [BitVec.getLsbD_ofNat, Nat.testBit_xor, hi]
theorem jI_andn {a b : Nat} : nI a &&& ~~~(nI b) = nI (sd a b) := by
  apply Int32.toBitVec_inj.mp
  rw [Int32.toBitVec_and, Int32.toBitVec_not, jI_toBV, jI_toBV, jI_toBV]
  apply BitVec.eq_of_getLsbD_eq
  intro i hi
  simp only [BitVec.getLsbD_and, BitVec.getLsbD_not, BitVec.getLsbD_ofNat, sd, Nat.testBit_xor, Nat.testBit_and, hi, decide_true, Bool.true_and]
  cases a.testBit i <;> cases b.testBit i <;> rfl
theorem sd_bit {a b k : Nat} : (sd a b).testBit k = (a.testBit k && !b.testBit k) := by
  simp only [sd, Nat.testBit_xor, Nat.testBit_and]
  cases a.testBit k <;> cases b.testBit k <;> rfl
theorem jI_toInt {a : Nat} (h : a < 2147483648) : (nI a).toInt = a := by
  show (Int32.ofNat a).toInt = a
  rw [Int32.toInt_ofNat_of_lt h]
theorem jI_le {a b : Nat} (ha : a < 2147483648) (hb : b < 2147483648) : nI a ≤ nI b ↔ a ≤ b := by
  rw [Int32.le_iff_toInt_le, jI_toInt ha, jI_toInt hb]; omega
theorem jI_lt {a b : Nat} (ha : a < 2147483648) (hb : b < 2147483648) : nI a < nI b ↔ a < b := by
  rw [Int32.lt_iff_toInt_lt, jI_toInt ha, jI_toInt hb]; omega
theorem jI_eq {a b : Nat} (ha : a < 2147483648) (hb : b < 2147483648) : nI a = nI b ↔ a = b := by
  rw [← Int32.toInt_inj, jI_toInt ha, jI_toInt hb]; omega
theorem tn_nI {a : Nat} (h : a < 2147483648) : tn (nI a) = a := by
  show (nI a).toInt.toNat = a
  rw [jI_toInt h]; rfl
theorem tc_nI {a : Nat} (h : a < 2147483648) : (nI a).toNatClampNeg = a := tn_nI h
theorem vp_nI {a n : Nat} (h : a < n) (hn : n < 2147483648) : vp_in (nI a) n := by
  intro q
  rcases q with q | q
  · rw [Int32.lt_iff_toInt_lt, jI_toInt (by omega)] at q
    have : (0 : Int32).toInt = 0 := by decide
    omega
  · rw [tc_nI (by omega)] at q
    omega
theorem jI_neg {a : Nat} (h : a < 2147483648) : ¬ nI a < 0 := by
  intro q
  rw [Int32.lt_iff_toInt_lt, jI_toInt h] at q
  have : (0 : Int32).toInt = 0 := by decide
  omega
theorem jI_none {a : Nat} (h : a < 2147483648) : ¬ nI a = -1 := by
  intro q
  have := congrArg Int32.toInt q
  rw [jI_toInt h] at this
  have : (-1 : Int32).toInt = -1 := by decide
  omega
theorem jI_31 {k : Nat} (h : k < 32) : nI k &&& 31 = nI k := by
  show nI k &&& nI 31 = nI k
  rw [jI_and]
  congr 1
  have : k &&& 31 = k % 32 := Nat.and_two_pow_sub_one_eq_mod k 5
  omega
theorem jI_shl {a k : Nat} (h : k < 32) : nI a <<< nI k = nI (a <<< k) := by
  apply Int32.toBitVec_inj.mp
  rw [Int32.toBitVec_shiftLeft, jI_toBV, jI_toBV, jI_toBV]
  have e : (BitVec.ofNat 32 k).smod 32 = BitVec.ofNat 32 k := by
    match k, h with
    | k, h => revert k; decide
  rw [e]
  apply BitVec.eq_of_getLsbD_eq
  intro i hi
  have hk : k % 4294967296 = k := by omega
  rw [BitVec.shiftLeft_eq', BitVec.getLsbD_shiftLeft, BitVec.toNat_ofNat]
  have hk2 : k % 2 ^ 32 = k := by omega
  rw [hk2, BitVec.getLsbD_ofNat, BitVec.getLsbD_ofNat, Nat.testBit_shiftLeft]
  by_cases hik : i < k
  · simp [hik]
    intro _ h9
    omega
  · have : i - k < 32 := by omega
    have h3 : k ≤ i := by omega
    simp [hik, hi, this, h3]
theorem jI_shr {a k : Nat} (ha : a < 2147483648) (h : k < 32) : nI a >>> nI k = nI (a >>> k) := by
  apply Int32.toBitVec_inj.mp
  rw [Int32.toBitVec_shiftRight, jI_toBV, jI_toBV, jI_toBV]
  have e : (BitVec.ofNat 32 k).smod 32 = BitVec.ofNat 32 k := by
    match k, h with
    | k, h => revert k; decide
  rw [e]
  apply BitVec.eq_of_getLsbD_eq
  intro i hi
  have hk : k % 4294967296 = k := by omega
  have hm : (BitVec.ofNat 32 a).msb = false := by
    rw [BitVec.msb_eq_decide]
    simp; omega
  rw [BitVec.sshiftRight_eq', BitVec.getLsbD_sshiftRight, BitVec.toNat_ofNat]
  have hk2 : k % 2 ^ 32 = k := by omega
  rw [hk2, hm, BitVec.getLsbD_ofNat, BitVec.getLsbD_ofNat, Nat.testBit_shiftRight]
  have hi2 : ¬ 32 ≤ i := by omega
  by_cases hki : k + i < 32
  · simp [hi, hi2, hki, Nat.add_comm]
  · have : a.testBit (k + i) = false := Nat.testBit_lt_two_pow (Nat.lt_of_lt_of_le ha (by
      have : 2147483648 = 2 ^ 31 := by decide
      rw [this]
      exact Nat.pow_le_pow_right (by decide) (by omega)))
    simp [hki, this, hi2]
theorem bI_0 {b : Bool} : bI b = 0 ↔ b = false := by cases b <;> decide
theorem bI_1 {b : Bool} : bI b = 1 ↔ b = true := by cases b <;> decide
theorem bI_i {b : Bool} : bI b = nI b.toNat := by cases b <;> rfl
/-! ===== literals ===== -/
theorem N0 : (0 : Int32) = nI 0 := rfl
theorem N1 : (1 : Int32) = nI 1 := rfl
theorem N2 : (2 : Int32) = nI 2 := rfl
theorem N3 : (3 : Int32) = nI 3 := rfl
theorem N4 : (4 : Int32) = nI 4 := rfl
theorem N5 : (5 : Int32) = nI 5 := rfl
theorem N6 : (6 : Int32) = nI 6 := rfl
theorem N7 : (7 : Int32) = nI 7 := rfl
theorem N8 : (8 : Int32) = nI 8 := rfl
theorem N9 : (9 : Int32) = nI 9 := rfl
theorem N10 : (10 : Int32) = nI 10 := rfl
theorem N11 : (11 : Int32) = nI 11 := rfl
theorem N12 : (12 : Int32) = nI 12 := rfl
theorem N13 : (13 : Int32) = nI 13 := rfl
theorem N14 : (14 : Int32) = nI 14 := rfl
theorem N15 : (15 : Int32) = nI 15 := rfl
theorem N16 : (16 : Int32) = nI 16 := rfl
theorem N17 : (17 : Int32) = nI 17 := rfl
theorem N18 : (18 : Int32) = nI 18 := rfl
theorem N19 : (19 : Int32) = nI 19 := rfl
theorem N20 : (20 : Int32) = nI 20 := rfl
theorem N21 : (21 : Int32) = nI 21 := rfl
theorem N22 : (22 : Int32) = nI 22 := rfl
theorem N23 : (23 : Int32) = nI 23 := rfl
theorem N24 : (24 : Int32) = nI 24 := rfl
theorem N25 : (25 : Int32) = nI 25 := rfl
theorem N26 : (26 : Int32) = nI 26 := rfl
theorem N27 : (27 : Int32) = nI 27 := rfl
theorem N28 : (28 : Int32) = nI 28 := rfl
theorem N29 : (29 : Int32) = nI 29 := rfl
theorem N30 : (30 : Int32) = nI 30 := rfl
theorem N31 : (31 : Int32) = nI 31 := rfl
theorem N32 : (32 : Int32) = nI 32 := rfl
theorem N33 : (33 : Int32) = nI 33 := rfl
theorem N34 : (34 : Int32) = nI 34 := rfl
theorem N35 : (35 : Int32) = nI 35 := rfl
theorem N36 : (36 : Int32) = nI 36 := rfl
theorem N37 : (37 : Int32) = nI 37 := rfl
theorem N38 : (38 : Int32) = nI 38 := rfl
theorem N39 : (39 : Int32) = nI 39 := rfl
theorem N40 : (40 : Int32) = nI 40 := rfl
theorem N41 : (41 : Int32) = nI 41 := rfl
theorem N42 : (42 : Int32) = nI 42 := rfl
theorem N43 : (43 : Int32) = nI 43 := rfl
theorem N44 : (44 : Int32) = nI 44 := rfl
theorem N45 : (45 : Int32) = nI 45 := rfl
theorem N46 : (46 : Int32) = nI 46 := rfl
theorem N47 : (47 : Int32) = nI 47 := rfl
theorem N48 : (48 : Int32) = nI 48 := rfl
theorem N49 : (49 : Int32) = nI 49 := rfl
theorem N50 : (50 : Int32) = nI 50 := rfl
theorem N51 : (51 : Int32) = nI 51 := rfl
theorem N52 : (52 : Int32) = nI 52 := rfl
theorem N53 : (53 : Int32) = nI 53 := rfl
theorem N54 : (54 : Int32) = nI 54 := rfl
theorem N55 : (55 : Int32) = nI 55 := rfl
theorem N56 : (56 : Int32) = nI 56 := rfl
theorem N57 : (57 : Int32) = nI 57 := rfl
theorem N58 : (58 : Int32) = nI 58 := rfl
theorem N59 : (59 : Int32) = nI 59 := rfl
theorem N60 : (60 : Int32) = nI 60 := rfl
theorem N61 : (61 : Int32) = nI 61 := rfl
theorem N62 : (62 : Int32) = nI 62 := rfl
theorem N63 : (63 : Int32) = nI 63 := rfl
theorem N64 : (64 : Int32) = nI 64 := rfl
theorem N90 : (90 : Int32) = nI 90 := rfl
theorem N96 : (96 : Int32) = nI 96 := rfl
theorem N97 : (97 : Int32) = nI 97 := rfl
theorem N98 : (98 : Int32) = nI 98 := rfl
theorem N99 : (99 : Int32) = nI 99 := rfl
theorem N100 : (100 : Int32) = nI 100 := rfl
theorem N102 : (102 : Int32) = nI 102 := rfl
theorem N103 : (103 : Int32) = nI 103 := rfl
theorem N104 : (104 : Int32) = nI 104 := rfl
theorem N107 : (107 : Int32) = nI 107 := rfl
theorem N108 : (108 : Int32) = nI 108 := rfl
theorem N109 : (109 : Int32) = nI 109 := rfl
theorem N110 : (110 : Int32) = nI 110 := rfl
theorem N111 : (111 : Int32) = nI 111 := rfl
theorem N112 : (112 : Int32) = nI 112 := rfl
theorem N114 : (114 : Int32) = nI 114 := rfl
theorem N115 : (115 : Int32) = nI 115 := rfl
theorem N116 : (116 : Int32) = nI 116 := rfl
theorem N117 : (117 : Int32) = nI 117 := rfl
theorem N118 : (118 : Int32) = nI 118 := rfl
theorem N119 : (119 : Int32) = nI 119 := rfl
theorem N120 : (120 : Int32) = nI 120 := rfl
theorem N121 : (121 : Int32) = nI 121 := rfl
theorem N122 : (122 : Int32) = nI 122 := rfl
theorem N130 : (130 : Int32) = nI 130 := rfl
theorem N138 : (138 : Int32) = nI 138 := rfl
theorem N141 : (141 : Int32) = nI 141 := rfl
theorem N142 : (142 : Int32) = nI 142 := rfl
theorem N143 : (143 : Int32) = nI 143 := rfl
theorem N144 : (144 : Int32) = nI 144 := rfl
theorem N156 : (156 : Int32) = nI 156 := rfl
theorem N240 : (240 : Int32) = nI 240 := rfl
theorem N255 : (255 : Int32) = nI 255 := rfl
theorem N256 : (256 : Int32) = nI 256 := rfl
theorem N300 : (300 : Int32) = nI 300 := rfl
theorem N400 : (400 : Int32) = nI 400 := rfl
theorem N420 : (420 : Int32) = nI 420 := rfl
theorem N421 : (421 : Int32) = nI 421 := rfl
theorem N600 : (600 : Int32) = nI 600 := rfl
theorem N900 : (900 : Int32) = nI 900 := rfl
theorem N999 : (999 : Int32) = nI 999 := rfl
theorem N1000 : (1000 : Int32) = nI 1000 := rfl
theorem N1684 : (1684 : Int32) = nI 1684 := rfl
theorem N2104 : (2104 : Int32) = nI 2104 := rfl
theorem N2105 : (2105 : Int32) = nI 2105 := rfl
theorem N2971 : (2971 : Int32) = nI 2971 := rfl
theorem N4095 : (4095 : Int32) = nI 4095 := rfl
theorem N4096 : (4096 : Int32) = nI 4096 := rfl
theorem N9999 : (9999 : Int32) = nI 9999 := rfl
theorem N10000 : (10000 : Int32) = nI 10000 := rfl
theorem N10663 : (10663 : Int32) = nI 10663 := rfl
theorem N65536 : (65536 : Int32) = nI 65536 := rfl
theorem bI_N0 {b : Bool} : bI b = nI 0 ↔ b = false := bI_0
theorem bI_N1 {b : Bool} : bI b = nI 1 ↔ b = true := bI_1
/-! ===== the store ===== -/
theorem gi_si {σ : Sto} {a k b j : Nat} {v : Int32} : gi (si σ a k v) b j = if b = a ∧ j = k then v else gi σ b j := rfl
theorem gi_si_s {σ : Sto} {a k : Nat} {v : Int32} : gi (si σ a k v) a k = v := by simp [gi_si]
theorem gi_si_a {σ : Sto} {a k b j : Nat} {v : Int32} (h : b ≠ a) : gi (si σ a k v) b j = gi σ b j := by simp [gi_si, h]
theorem gi_si_k {σ : Sto} {a k b j : Nat} {v : Int32} (h : j ≠ k) : gi (si σ a k v) b j = gi σ b j := by simp [gi_si, h]
theorem gl_si {σ : Sto} {a k b j : Nat} {v : Int32} : gl (si σ a k v) b j = gl σ b j := rfl
theorem gr_si {σ : Sto} {a k b j : Nat} {v : Int32} : gr (si σ a k v) b j = gr σ b j := rfl
theorem gl_sl {σ : Sto} {a k b j : Nat} {v : Int64} : gl (sl σ a k v) b j = if b = a ∧ j = k then v else gl σ b j := rfl
theorem gi_sl {σ : Sto} {a k b j : Nat} {v : Int64} : gi (sl σ a k v) b j = gi σ b j := rfl
theorem gr_sl {σ : Sto} {a k b j : Nat} {v : Int64} : gr (sl σ a k v) b j = gr σ b j := rfl
theorem gr_sr {σ : Sto} {a k b j v : Nat} : gr (sr σ a k v) b j = if b = a ∧ j = k then v else gr σ b j := rfl
theorem gi_sr {σ : Sto} {a k b j v : Nat} : gi (sr σ a k v) b j = gi σ b j := rfl
theorem gl_sr {σ : Sto} {a k b j v : Nat} : gl (sr σ a k v) b j = gl σ b j := rfl
theorem gl_sl_s {σ : Sto} {a k : Nat} {v : Int64} : gl (sl σ a k v) a k = v := by simp [gl_sl]
theorem gl_sl_a {σ : Sto} {a k b j : Nat} {v : Int64} (h : b ≠ a) : gl (sl σ a k v) b j = gl σ b j := by simp [gl_sl, h]
theorem gl_sl_k {σ : Sto} {a k b j : Nat} {v : Int64} (h : j ≠ k) : gl (sl σ a k v) b j = gl σ b j := by simp [gl_sl, h]
/-- alike but at the places S, and of the same references -/
def Eo (S : Nat → Nat → Prop) (σ τ : Sto) : Prop := (∀ a k, ¬ S a k → gi τ a k = gi σ a k) ∧ (∀ a k, ¬ S a k → gl τ a k = gl σ a k) ∧ ∀ a k, gr τ a k = gr σ a k
theorem Eo.rf {S : Nat → Nat → Prop} {σ : Sto} : Eo S σ σ := ⟨fun _ _ _ => rfl, fun _ _ _ => rfl, fun _ _ => rfl⟩
theorem Eo.tr {S : Nat → Nat → Prop} {σ τ υ : Sto} (h : Eo S σ τ) (g : Eo S τ υ) : Eo S σ υ := ⟨fun a k ha => (g.1 a k ha).trans (h.1 a k ha), fun a k ha => (g.2.1 a k ha).trans (h.2.1 a k ha), fun a k => (g.2.2 a k).trans (h.2.2 a k)⟩
theorem Eo.mo {S T : Nat → Nat → Prop} {σ τ : Sto} (h : Eo S σ τ) (hs : ∀ a k, S a k → T a k) : Eo T σ τ := ⟨fun a k ha => h.1 a k (fun q => ha (hs a k q)), fun a k ha => h.2.1 a k (fun q => ha (hs a k q)), h.2.2⟩
theorem Eo.si {S : Nat → Nat → Prop} {σ : Sto} {a k : Nat} {v : Int32} (h : S a k) : Eo S σ (si σ a k v) := ⟨fun b j hb => by
  rw [gi_si]
  by_cases hc : b = a ∧ j = k
  · obtain ⟨rfl, rfl⟩ := hc; exact absurd h hb
  · rw [if_neg hc], fun _ _ _ => rfl, fun _ _ => rfl⟩
theorem Eo.sl {S : Nat → Nat → Prop} {σ : Sto} {a k : Nat} {v : Int64} (h : S a k) : Eo S σ (sl σ a k v) := ⟨fun _ _ _ => rfl, fun b j hb => by
  rw [gl_sl]
  by_cases hc : b = a ∧ j = k
  · obtain ⟨rfl, rfl⟩ := hc; exact absurd h hb
  · rw [if_neg hc], fun _ _ => rfl⟩
/-! ===== loops ===== -/
theorem Lp_for {S : Type} {body : (S → Prop) → S → Prop} {s : S} (n : Nat) (I : Nat → S → Prop) (h0 : I 0 s) (step : ∀ j, j < n → ∀ (K : S → Prop) s, I j s → (∀ s', I (j + 1) s' → K s') → body K s) (exit : ∀ (K : S → Prop) s, I n s → body K s) : Lp body s := by
  have key : ∀ d j s, j + d = n → I j s → Lpn body (d + 1) s := by
    intro d
    induction d with
    | zero => intro j s hj hI; exact exit _ s ((show j = n by omega) ▸ hI)
    | succ d ih => intro j s hj hI; exact step j (by omega) _ s hI (fun s' h' => ih (j + 1) s' (by omega) h')
  exact ⟨n + 1, key n 0 s (by omega) h0⟩
/-- the state at each round told -/
theorem Lp_det {S : Type} {body : (S → Prop) → S → Prop} {s : S} (n : Nat) (f : Nat → S) (h0 : s = f 0) (step : ∀ j, j < n → ∀ (K : S → Prop), K (f (j + 1)) → body K (f j)) (exit : ∀ (K : S → Prop), body K (f n)) : Lp body s :=
  Lp_for n (fun j s => s = f j) h0 (fun j hj K s hs h => by subst hs; exact step j hj K (h _ rfl)) (fun K s hs => by subst hs; exact exit K)
def foldN {α : Type} (f : α → Nat → α) (a : α) : Nat → α
  | 0 => a
  | n + 1 => f (foldN f a n) n
theorem foldN_congr {α : Type} {f g : α → Nat → α} {a : α} : ∀ n, (∀ k, k < n → ∀ x, f x k = g x k) → foldN f a n = foldN g a n
  | 0, _ => rfl
  | n + 1, h => by
    show f (foldN f a n) n = g (foldN g a n) n
    rw [foldN_congr n (fun k hk => h k (by omega)), h n (by omega)]
theorem foldN_inv {α : Type} {f : α → Nat → α} {a : α} (I : Nat → α → Prop) (h0 : I 0 a) (hs : ∀ k x, I k x → I (k + 1) (f x k)) : ∀ n, I n (foldN f a n)
  | 0 => h0
  | n + 1 => hs n _ (foldN_inv I h0 hs n)
/-! ===== bits asked of ints ===== -/
theorem jI_bitx {a k : Nat} (h : k < 32) : (nI a >>> nI k) &&& nI 1 = bI (a.testBit k) := by
  apply Int32.toBitVec_inj.mp
  rw [Int32.toBitVec_and, Int32.toBitVec_shiftRight, jI_toBV, jI_toBV, jI_toBV]
  have e : (BitVec.ofNat 32 k).smod 32 = BitVec.ofNat 32 k := by
    match k, h with
    | k, h => revert k; decide
  rw [e]
  have hk2 : k % 2 ^ 32 = k := by omega
  apply BitVec.eq_of_getLsbD_eq
  intro i hi
  rw [BitVec.getLsbD_and, BitVec.sshiftRight_eq', BitVec.getLsbD_sshiftRight, BitVec.toNat_ofNat, hk2, BitVec.getLsbD_ofNat, BitVec.getLsbD_ofNat]
  by_cases hi0 : i = 0
  · subst hi0
    have h9 : (bI (a.testBit k)).toBitVec.getLsbD 0 = a.testBit k := by cases a.testBit k <;> decide
    rw [h9]
    simp [h]
  · have h8 : (1 : Nat).testBit i = false := by
      cases i with
      | zero => exact absurd rfl hi0
      | succ i => simp [Nat.testBit_succ]
    have h9 : ∀ b : Bool, (bI b).toBitVec.getLsbD i = false := by
      intro b
      cases b
      · show (0#32).getLsbD i = false
        simp
      · show (1#32).getLsbD i = false
        rw [show (1#32) = BitVec.ofNat 32 1 from rfl, BitVec.getLsbD_ofNat, h8]
        simp
    rw [h8, h9]
    simp
theorem jI_bit {a k : Nat} (h : k < 32) : ((nI a >>> nI k) &&& nI 1 = nI 1) ↔ a.testBit k = true := by
  rw [jI_bitx h]; exact bI_1
theorem jI_bit0 {a k : Nat} (h : k < 32) : ((nI a >>> nI k) &&& nI 1 = nI 0) ↔ a.testBit k = false := by
  rw [jI_bitx h]; exact bI_0
theorem jI_allF {n : Nat} : nI (2 ^ n) - nI 1 = nI (2 ^ n - 1) := jI_sub (Nat.two_pow_pos n)
theorem jI_ushr {v k : Nat} (hv : v < 2147483648) (hk : k < 32) : ((nI v).toUInt32 >>> ((nI k).toUInt32 &&& Int32.toUInt32 31)).toInt32 = nI (v / 2 ^ k) := by
  apply Int32.toBitVec_inj.mp
  show ((nI v).toUInt32 >>> ((nI k).toUInt32 &&& Int32.toUInt32 31)).toBitVec = _
  rw [UInt32.toBitVec_shiftRight, UInt32.toBitVec_and]
  show (BitVec.ofNat 32 v) >>> ((BitVec.ofNat 32 k &&& BitVec.ofNat 32 31) % 32) = BitVec.ofNat 32 (v / 2 ^ k)
  have e : (BitVec.ofNat 32 k &&& BitVec.ofNat 32 31) % 32 = BitVec.ofNat 32 k := by
    match k, hk with
    | k, hk => revert k; decide
  rw [e]
  apply BitVec.eq_of_toNat_eq
  show (BitVec.ofNat 32 v >>> (BitVec.ofNat 32 k).toNat).toNat = _
  rw [BitVec.toNat_ushiftRight, BitVec.toNat_ofNat, BitVec.toNat_ofNat, BitVec.toNat_ofNat, Nat.shiftRight_eq_div_pow]
  have h1 : v % 2 ^ 32 = v := by omega
  have h2 : k % 2 ^ 32 = k := by omega
  have h3 : v / 2 ^ k < 2 ^ 32 := Nat.lt_of_le_of_lt (Nat.div_le_self _ _) (by omega)
  rw [h1, h2, Nat.mod_eq_of_lt h3]
theorem two_and {p x : Nat} : 2 ^ p &&& x = 0 ↔ x.testBit p = false := by
  constructor
  · intro h
    have h1 : (2 ^ p &&& x).testBit p = false := by rw [h]; simp
    rw [Nat.testBit_and, Nat.testBit_two_pow] at h1
    simpa using h1
  · intro h
    apply Nat.eq_of_testBit_eq
    intro k
    rw [Nat.testBit_and, Nat.testBit_two_pow, Nat.zero_testBit]
    by_cases hk : p = k
    · subst hk; simp [h]
    · simp [hk]
theorem jI_noneN {a : Nat} (h : a < 2147483648) : (nI a = -nI 1) ↔ False := iff_false_intro (jI_none h)
