/-! ===== texts: the class's next token ===== -/
theorem lI_pack {a b : Nat} (h : b < 32) : (lI a <<< ((5 : Int32).toInt64 &&& 63)) ||| lI b = lI (a * 32 + b) := by
  rw [show ((5 : Int32).toInt64 &&& 63) = (5 : Int64) by decide]
  apply Int64.toBitVec_inj.mp
  rw [Int64.toBitVec_or, Int64.toBitVec_shiftLeft, lI_toBV, lI_toBV, lI_toBV]
  apply BitVec.eq_of_toNat_eq
  rw [show ((5 : Int64).toBitVec.smod 64) = 5#64 by decide]
  rw [BitVec.toNat_or, BitVec.shiftLeft_eq', BitVec.toNat_shiftLeft, BitVec.toNat_ofNat, BitVec.toNat_ofNat, BitVec.toNat_ofNat, BitVec.toNat_ofNat, show 5 % 2 ^ 64 = 5 by decide, Nat.shiftLeft_eq]
  have h1 : a % 2 ^ 64 * 2 ^ 5 % 2 ^ 64 = 2 ^ 5 * (a % 2 ^ 59) := by omega
  rw [h1, show b % 2 ^ 64 = b by omega, ← Nat.two_pow_add_eq_or_of_lt (show b < 2 ^ 5 by omega)]
  omega
def KWl : List Nat := [21243335, 24627848, 193115668, 13675699, 215533, 769611, 14849171, 23580850, 8442035, 1315876, 12343, 824370, 719750501, 609650021, 20448837, 343397, 762030, 658552979, 146885, 23580851, 409072, 5572, 643568]
def kwN (k : Nat) : Nat := KWl.getD k 0
def kwS (v : Nat) (j : Nat) : Nat := foldN (fun r k => if r = 0 ∧ kwN k = v then k + 1 else r) 0 j
/-- which keyword, from 1; 0: none -/
def kwF (v : Nat) : Nat := kwS v 23
def KC (σ : Sto) : Prop := ∀ k, k < 23 → gl σ 12 k = lI (kwN k)
theorem kw_lt : ∀ k, k < 23 → kwN k < 2 ^ 40 := by decide
theorem kwS_s {v j : Nat} : kwS v (j + 1) = if kwS v j = 0 ∧ kwN j = v then j + 1 else kwS v j := rfl
theorem kwS_le {v : Nat} : ∀ j, kwS v j ≤ j
  | 0 => Nat.le_refl _
  | j + 1 => by
    have h := kwS_le (v := v) j
    rw [kwS_s]
    split <;> omega
theorem kwS_up {v j : Nat} (h : kwS v j ≠ 0) : ∀ i, kwS v (j + i) = kwS v j
  | 0 => rfl
  | i + 1 => by
    have e := kwS_up h i
    rw [← Nat.add_assoc, kwS_s, if_neg (fun q => h (by rw [← e]; exact q.1)), e]
theorem pkF_lt {T : Nat → Nat} {a : Nat} : ∀ k, (∀ i, i < k → 97 ≤ T (a + i) ∧ T (a + i) ≤ 122) → pkF T a k < 32 ^ k
  | 0, _ => Nat.zero_lt_one
  | k + 1, h => by
    have h1 := pkF_lt k (fun i hi => h i (by omega))
    have h2 := h k (by omega)
    unfold pkF
    rw [Nat.pow_succ]
    omega
/-- kind (0 end, 1 word, 2 number, 3 sign, 4 broken), place, what is behind, value, letters -/
abbrev TKn : Type := Nat × Nat × Nat × Nat × Nat
def tokA (T : Nat → Nat) (n a : Nat) : TKn := if n ≤ a then (0, a, a, 0, 0) else if 97 ≤ T a ∧ T a ≤ 122 then (1, a, leF T (n - a) a, pkF T a (leF T (n - a) a - a), leF T (n - a) a - a) else if 48 ≤ T a ∧ T a ≤ 57 then (if diF T (n - a) a - a ≤ 4 then (2, a, diF T (n - a) a, dgF T a (diF T (n - a) a - a), 0) else (4, a, diF T (n - a) a, 0, 0)) else if T a = 59 ∨ T a = 60 ∨ T a = 62 ∨ T a = 61 then (3, a, a + 1, T a, 0) else (4, a, a + 1, 0, 0)
def tokF (T : Nat → Nat) (n p : Nat) : TKn := tokA T n (skF T (n - p) p)
/-- the class holds the token -/
def TKC (σ : Sto) (t : TKn) : Prop := gi σ 10 6 = nI t.2.1 ∧ gi σ 10 4 = nI t.2.2.1 ∧ (t.1 = 0 → gi σ 10 5 = 0) ∧ (t.1 = 1 → (t.2.2.2.2 ≤ 8 → gl σ 10 8 = lI t.2.2.2.1 ∧ (kwF t.2.2.2.1 = 0 → gi σ 10 5 = 2) ∧ (kwF t.2.2.2.1 ≠ 0 → gi σ 10 5 = 3 ∧ gi σ 10 7 = nI (kwF t.2.2.2.1 - 1))) ∧ (8 < t.2.2.2.2 → gi σ 10 5 = 4)) ∧ (t.1 = 2 → gi σ 10 5 = 5 ∧ gi σ 10 7 = nI t.2.2.2.1) ∧ (t.1 = 3 → gi σ 10 5 = 6 ∧ gi σ 10 7 = nI t.2.2.2.1) ∧ (t.1 = 4 → gi σ 10 5 = 1)
theorem KC.tk {σ τ : Sto} (h : KC σ) (e : Eo STk σ τ) : KC τ := fun k hk => by rw [e.2.1 12 k (by unfold STk; omega)]; exact h k hk
theorem c_keys {v : Nat} {P : Sto → Prop} (hv : v < 2 ^ 40) : ∀ d j σ, j + d = 23 → KC σ → gl σ 10 8 = lI v → kwS v j = 0 → gi σ 10 5 = 2 → (∀ τ, Eo STk σ τ → gl τ 10 8 = lI v → gi τ 10 4 = gi σ 10 4 → gi τ 10 6 = gi σ 10 6 → (kwF v = 0 → gi τ 10 5 = 2) → (kwF v ≠ 0 → gi τ 10 5 = 3 ∧ gi τ 10 7 = nI (kwF v - 1)) → P τ) → LpB (fun (K : Int32 × Sto → Prop) s => w_X9_readWord_110 K s.1 s.2 P) (d + 2) (nI j, σ)
  | 0, j, σ, hd, hk, hg, h0, h5, k => by
    refine LpB.go (fun K hK => ?_)
    dsimp only
    unfold w_X9_readWord_110
    rw [show (23 : Int32) = nI 23 from rfl, if_pos (by rw [jI_le (by decide) (by omega)]; omega)]
    have e23 : kwF v = 0 := by unfold kwF; rw [← hd]; exact h0
    exact k σ Eo.rf hg rfl rfl (fun _ => h5) (fun q => absurd e23 q)
  | d + 1, j, σ, hd, hk, hg, h0, h5, k => by
    refine LpB.go (fun K hK => ?_)
    dsimp only
    unfold w_X9_readWord_110
    rw [show (23 : Int32) = nI 23 from rfl, if_neg (by rw [jI_le (by decide) (by omega)]; omega), h5, if_pos rfl, tn_nI (by omega), hk j (by omega), hg]
    refine ⟨vp_nI (by omega) (by decide), ?_⟩
    have hj := kw_lt j (by omega)
    by_cases he : kwN j = v
    · rw [if_pos (by rw [lg_eq, he]), N1, jI_add]
      rintro _ rfl
      have hs : kwS v (j + 1) = j + 1 := by rw [kwS_s, if_pos ⟨h0, he⟩]
      have hF : kwF v = j + 1 := by
        unfold kwF
        rw [show (23 : Nat) = (j + 1) + d by omega, kwS_up (by rw [hs]; omega), hs]
      have e1 : Eo STk σ (si (si σ 10 5 3) 10 7 (nI j)) := (Eo.si (by unfold STk; omega)).tr (Eo.si (by unfold STk; omega))
      refine hK _ (LpB.go (B := d + 1) (fun K2 hK2 => ?_))
      dsimp only
      unfold w_X9_readWord_110
      have fin : P (si (si σ 10 5 3) 10 7 (nI j)) := by
        refine k _ e1 ?_ ?_ ?_ (fun q => absurd q (by omega)) (fun _ => ⟨?_, ?_⟩)
        · rw [gl_si, gl_si]; exact hg
        · rw [gi_si_k (by decide), gi_si_k (by decide)]
        · rw [gi_si_k (by decide), gi_si_k (by decide)]
        · rw [gi_si_k (by decide), gi_si_s]
        · rw [gi_si_s, hF]; rfl
      by_cases hz : (23 : Int32) ≤ nI (j + 1)
      · rw [if_pos hz]; exact fin
      · rw [if_neg hz, gi_si_k (by decide), gi_si_s, if_neg (by decide)]
        exact fin
    · rw [if_neg (by rw [lg_eq, lI_eq (by omega) (by omega)]; exact he), N1, jI_add]
      rintro _ rfl
      exact hK _ (c_keys hv d (j + 1) σ (by omega) hk hg (by rw [kwS_s, if_neg (fun q => he q.2)]; exact h0) h5 k)
theorem c_letters {T : Nat → Nat} {n a : Nat} {P : Sto → Prop} : ∀ d p σ, p + d = n → a ≤ p → TB σ T n → gi σ 10 4 = nI p → gl σ 10 8 = lI (pkF T a (p - a)) → (∀ τ, Eo STk σ τ → gi τ 10 4 = nI (leF T d p) → gi τ 10 6 = gi σ 10 6 → gl τ 10 8 = lI (pkF T a (leF T d p - a)) → w_X9_readWord_83 τ P) → LpB (fun (K : Sto → Prop) s => w_X9_readWord_5 K s P) (d + 1) σ
  | 0, p, σ, hd, ha, hb, hp, hg, k => by
    have h9 := hb.2.1
    refine LpB.go (fun K hK => ?_)
    unfold w_X9_readWord_5
    rw [hb.1, hp, if_pos (by rw [jI_le (by omega) (by omega)]; omega)]
    exact k σ Eo.rf hp rfl hg
  | d + 1, p, σ, hd, ha, hb, hp, hg, k => by
    have h9 := hb.2.1
    obtain ⟨b1, b2⟩ := hb.2.2 p (by omega)
    have kk := k σ Eo.rf
    unfold leF at k kk
    refine LpB.go (fun K hK => ?_)
    unfold w_X9_readWord_5
    rw [hb.1, hp, if_neg (by rw [jI_le (by omega) (by omega)]; omega), tn_nI (by omega), b1]
    refine ⟨vp_nI (by omega) (by decide), ?_⟩
    refine cRg (lo := 97) (hi := 122) b2 (by decide) (by decide) (fun hl => ?_) (fun hl => ?_)
    · rw [if_pos hl] at k
      rintro _ rfl
      have e5 : (s8 (T p) - 97 + 1).toInt64 = lI (T p - 96) := by
        rw [s8_pos (by omega), show (97 : Int32) = nI 97 from rfl, N1, jI_sub (by omega), jI_add, lI_nI (by omega)]
        congr 1; omega
      rw [e5, hg, lI_pack (by omega), gi_sl, hp, N1, jI_add]
      have e : Eo STk σ (si (sl σ 10 8 (lI (pkF T a (p - a) * 32 + (T p - 96)))) 10 4 (nI (p + 1))) := Eo.tr (S := STk) (Eo.sl (by unfold STk; omega)) (Eo.si (by unfold STk; omega))
      refine hK _ (c_letters (a := a) d (p + 1) _ (by omega) (by omega) (hb.tk e) gi_si_s ?_ (fun τ e2 h2 h3 h4 => k τ (e.tr e2) h2 (by rw [h3, gi_si_k (by decide), gi_sl]) h4))
      rw [gl_si, gl_sl_s, show p + 1 - a = (p - a) + 1 by omega]
      show _ = lI (pkF T a (p - a) * 32 + (T (a + (p - a)) - 96))
      rw [show a + (p - a) = p by omega]
    · rw [if_neg hl] at kk
      exact kk hp rfl hg
theorem leF_all {T : Nat → Nat} : ∀ d p i, p ≤ i → i < leF T d p → 97 ≤ T i ∧ T i ≤ 122
  | 0, p, i, h1, h2 => by
    unfold leF at h2; omega
  | d + 1, p, i, h1, h2 => by
    unfold leF at h2
    by_cases h : 97 ≤ T p ∧ T p ≤ 122
    · rw [if_pos h] at h2
      by_cases hi : i = p
      · rw [hi]; exact h
      · exact leF_all d (p + 1) i (by omega) h2
    · rw [if_neg h] at h2; omega
