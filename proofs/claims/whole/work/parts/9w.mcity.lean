/-! ===== texts: a city read by the model ===== -/
theorem m_c54 {σ : Sto} {T : Nat → Nat} {n q l : Nat} {c : Nat → Nat} {nm : Nat → Int64} {t : TKn} {K : Sto → Prop} {P : Int32 → Sto → Prop} (h : RdM σ T n t) (ht : isTk T n q t) (h0 : t.1 ≠ 0) (hb : gi σ 101 12 = nI 0) (hd : DrM σ c nm l) (hw : DW c nm l) (k : OM 12 SDm σ T n q (partE T n c nm l t) (fun x τ => DrM τ x.1 x.2.1 x.2.2 → w_X12_city_170 K τ P) (fun _ τ => w_X12_city_170 K τ P)) (kh : OH SDm σ T n q (partE T n c nm l t) (fun _ τ => w_X12_city_170 K τ P)) : w_X12_city_54 K σ P := by
  have hk := hw.2.1
  have h14 := h.2.2.1.1
  unfold w_X12_city_54
  rw [hb, if_pos (show nI 0 = 0 from rfl), h.2.1.2.2.1, if_neg (by rw [N0, jI_eq (by omega) (by decide)]; exact h0)]
  refine t_isThing h.2.1 h.2.2.1 (fun z => ?_) (fun z0 => ?_)
  · rw [partE_0 z] at k
    rw [if_neg one0]
    exact m_rdThing h ht hb hd hk k
  rw [if_pos rfl]
  refine t_isMakes h.2.1 h.2.2.1 (fun z => ?_) (fun z3 => ?_)
  · rw [partE_3 z] at k kh
    rw [if_neg one0]
    exact m_rdMakes h ht hb hd hk hw.1.n1 k kh
  rw [if_pos rfl]
  refine t_isWork h.2.1 h.2.2.1 (fun z => ?_) (fun z5 => ?_)
  · rw [partE_5 z] at k kh
    rw [if_neg one0]
    exact m_rdWork h ht hb hd hk k kh
  rw [if_pos rfl]
  refine t_isVoter h.2.1 h.2.2.1 (fun z => ?_) (fun z7 => ?_)
  · rw [partE_7 z] at k
    rw [if_neg one0]
    exact m_rdVoter h ht hb hd hk k
  rw [if_pos rfl]
  refine t_isHates h.2.1 h.2.2.1 (fun z => ?_) (fun z8 => ?_)
  · rw [partE_8 z] at k
    rw [if_neg one0]
    exact m_rdHates h ht hb hd hk k
  rw [if_pos rfl]
  refine t_isAhead h.2.1 h.2.2.1 (fun z => ?_) (fun z9 => ?_)
  · rw [partE_9 z] at k
    rw [if_neg one0]
    exact m_rdAhead h ht hb hd hk k
  rw [if_pos rfl]
  refine t_isLaw h.2.1 h.2.2.1 (fun z => ?_) (fun z10 => ?_)
  · rw [partE_10 z] at k
    rw [if_neg one0]
    exact m_rdLaw h ht hb hd hw.2.2.2.2.2.2 k
  rw [if_pos rfl]
  refine m_amiss h.2.1 h.2.2.1 hb (by decide) (fun _ τ e g12 g13 => ?_) (fun y => absurd rfl y)
  refine k.1 _ (partE_f (fun j hj => ?_)) fk2.1 fk2.2 0 τ (by decide) (e.mo (fun _ _ q => SDm0 (SMf0 q))) g12 g13
  rcases hj with rfl | rfl | rfl | rfl | rfl | rfl | rfl
  · exact z0
  · exact z3
  · exact z5
  · exact z7
  · exact z8
  · exact z9
  · exact z10
theorem m_cx {τ : Sto} {P : Int32 → Sto → Prop} {e d : Nat} (g : gi τ 101 12 = nI e) (e0 : e ≠ 0) (e7 : e ≤ 7) (k : w_X12_city_183 τ P) : LpB (fun (K : Sto → Prop) s => w_X12_city_54 K s P) (d + 1) τ := by
  refine LpB.go (fun K hK => ?_)
  unfold w_X12_city_54
  rw [g, if_neg (nb0 e0 e7)]
  exact k
theorem m_ct {T : Nat → Nat} {n : Nat} {P : Int32 → Sto → Prop} : ∀ d x t σ, d ≤ 902 → RdM σ T n t → isTk T n (902 - d) t → gi σ 101 12 = nI 0 → DrM σ x.1 x.2.1 x.2.2 → DW x.1 x.2.1 x.2.2 → OM 12 SDm σ T n 0 (ctE T n d x t) (fun y τ => DrM τ y.1 y.2.1 y.2.2 → DW y.1 y.2.1 y.2.2 → w_X12_city_183 τ P) (fun _ τ => w_X12_city_183 τ P) → LpB (fun (K : Sto → Prop) s => w_X12_city_54 K s P) (d + 2) σ
  | 0, x, t, σ, hd9, h, ht, hb, hd, hw, k => absurd ht.f (fun q => by omega)
  | d + 1, x, t, σ, hd9, h, ht, hb, hd, hw, k => by
    have hf := ht.f
    refine LpB.go (B := d + 2) (fun K hK => ?_)
    by_cases z : t.1 = 0
    · unfold w_X12_city_54
      rw [hb, if_pos (show nI 0 = 0 from rfl), h.2.1.2.2.1, if_pos (by rw [z]; rfl)]
      exact k.2 x t (if_pos z) σ Eo.rf hb h (ht.mo (Nat.zero_le _)) hd hw
    · have k1 : OM 12 SDm σ T n 0 (bS (partE T n x.1 x.2.1 x.2.2 t) (fun y t1 => bS (sgE T n 59 t1) (fun _ t2 => ctE T n d y t2))) (fun y τ => DrM τ y.1 y.2.1 y.2.2 → DW y.1 y.2.1 y.2.2 → w_X12_city_183 τ P) (fun _ τ => w_X12_city_183 τ P) := by
        have e : ctE T n (d + 1) x t = bS (partE T n x.1 x.2.1 x.2.2 t) (fun y t1 => bS (sgE T n 59 t1) (fun _ t2 => ctE T n d y t2)) := if_neg z
        rw [← e]; exact k
      refine m_c54 h ht z hb hd hw ⟨fun e he e0 e7 v τ hv e1 g12 g13 => ?_, fun y t1 hy τ e1 hb1 h1 ht1 hd1 => ?_⟩ (fun t1 he hg _ τ _ e1 hb1 h1 ht1 => ?_)
      · have out : K τ := hK τ (m_cx g12 e0 e7 (k1.ff he e0 e7 0 τ (by decide) e1 g12 g13))
        unfold w_X12_city_170
        exact t_signAny (m_must_bad g12 e7 e0 out) (m_must_bad g12 e7 e0 out)
      · have k2 := k1.nx hy e1
        have hw1 := partE_W hw hy
        have hf1 := ht1.f
        unfold w_X12_city_170
        refine m_mustsg (x := 59) h1 ht1 (by decide) hb1 ⟨fun e he e0 e7 v τ2 hv e2 g12 g13 => ?_, fun _ t2 hz τ2 e2 hb2 h2 ht2 => ?_⟩
        · exact hK τ2 (m_cx g12 e0 e7 (k2.ff he e0 e7 0 τ2 (by decide) (e2.mo (fun _ _ => SDm0)) g12 g13))
        · have k3 := k2.nx hz (e2.mo (fun _ _ => SDm0))
          exact hK τ2 (m_ct d y t2 τ2 (by omega) h2 (ht2.mo (by omega)) hb2 (hd1.eo e2) hw1 k3)
      · unfold w_X12_city_170
        refine m_isSign (x := 59) h1.2.1 h1.2.2.1 (by decide) (fun y => absurd y hg) (fun _ => ?_)
        refine m_must_0 h1 hb1 (fun τ2 e2 g12 g13 => ?_)
        exact hK τ2 (m_cx g12 fk2.1 fk2.2 (k1.ff he fk2.1 fk2.2 0 τ2 (by decide) (e1.tr (e2.mo (fun _ _ q => SDm0 (SMf0 q)))) g12 g13))
def SMs (a k : Nat) : Prop := a = 101 ∧ ((8 ≤ k ∧ k ≤ 19) ∨ k = 0)
theorem m_starts {σ : Sto} {T : Nat → Nat} {f mo : Nat} {x : Int32} {P : Int32 → Sto → Prop} (hp : PM σ f T) (hm : mo ≤ 900)
    (k1 : ¬ x < 0 → ¬ nI f < x → ¬ nI mo < x → ∀ n, x = nI n → n ≤ f → n ≤ mo → ∀ τ, Eo SMs σ τ → gi τ 101 0 = gi σ 101 0 → gi τ 101 8 = 0 → gi τ 101 12 = nI 0 → RdM τ T n (tokF T n 0) → isTk T n 0 (tokF T n 0) → P 1 τ)
    (k0 : ¬ (¬ x < 0 ∧ ¬ nI f < x ∧ ¬ nI mo < x) → P 0 (si σ 101 0 5)) : w_X12_starts x (nI mo) σ P := by
  have hf := hp.2.1
  have out : ¬ (¬ x < 0 ∧ ¬ nI f < x ∧ ¬ nI mo < x) → w_X12_starts_17 σ P := fun hx => by
    unfold w_X12_starts_17 w_X12_no
    exact ⟨Or.inl rfl, k0 hx⟩
  unfold w_X12_starts
  by_cases h1 : x < 0
  · rw [if_pos h1]; exact out (fun q => q.1 h1)
  rw [if_neg h1, hp.1]
  by_cases h2 : nI f < x
  · rw [if_pos h2]; exact out (fun q => q.2.1 h2)
  rw [if_neg h2]
  by_cases h3 : nI mo < x
  · rw [if_neg (fun q => i_le.mp q h3)]; exact out (fun q => q.2.2 h3)
  rw [if_pos (i_le.mpr h3)]
  obtain ⟨n, hn, rfl⟩ := nI_upto (by omega) h1 h2
  have hn2 : n ≤ mo := by
    rw [jI_lt (by omega) (by omega)] at h3
    omega
  generalize hs : si (si (si (si σ 101 9 (nI n)) 101 8 0) 101 16 0) 101 12 0 = σ1
  have s1 : ∀ {y : Sto} {k : Nat} {v : Int32}, (8 ≤ k ∧ k ≤ 19) → Eo SMs y (si y 101 k v) := fun hb => Eo.si ⟨rfl, Or.inl hb⟩
  have e1 : Eo SMs σ σ1 := by
    rw [← hs]
    exact (((s1 (by decide)).tr (s1 (by decide))).tr (s1 (by decide))).tr (s1 (by decide))
  have q9 : gi σ1 101 9 = nI n := by rw [← hs, gi_si_k (by decide), gi_si_k (by decide), gi_si_k (by decide), gi_si_s]
  have q8 : gi σ1 101 8 = 0 := by rw [← hs, gi_si_k (by decide), gi_si_k (by decide), gi_si_s]
  have q16 : gi σ1 101 16 = nI 0 := by rw [← hs, gi_si_k (by decide), gi_si_s]; rfl
  have q12 : gi σ1 101 12 = nI 0 := by rw [← hs, gi_si_s]; rfl
  have q0 : gi σ1 101 0 = gi σ 101 0 := by rw [← hs, gi_si_k (by decide), gi_si_k (by decide), gi_si_k (by decide), gi_si_k (by decide)]
  have hT : TBm σ1 T n := ⟨q9, by omega, fun k hk => ⟨by rw [e1.1 _ _ (by unfold SMs; omega)]; exact (hp.2.2 k (by omega)).1, (hp.2.2 k (by omega)).2⟩⟩
  refine m_advance hT (Nat.zero_le n) q16 (fun τ e ht => ?_)
  refine k1 h1 h2 h3 n rfl hn hn2 τ (e1.tr (e.mo (fun a k q => by unfold STm at q; unfold SMs; omega))) (by rw [e.1 _ _ (by unfold STm; omega)]; exact q0) (by rw [e.1 _ _ (by unfold STm; omega)]; exact q8) (by rw [e.1 _ _ (by unfold STm; omega)]; exact q12) ?_ ⟨0, Nat.le_refl 0, Nat.zero_le n, by omega, rfl⟩
  exact ⟨hT.tk e, ht, tokF_V (fun k hk => (hT.2.2 k hk).2) (Nat.zero_le n)⟩
/-- the frame of a text read by the model -/
def SMc (a k : Nat) : Prop := (a = 101 ∧ ((8 ≤ k ∧ k ≤ 19) ∨ k = 0 ∨ k = 1 ∨ k = 24)) ∨ (a = 106 ∧ (k < 421 ∨ (1684 ≤ k ∧ k < 2105))) ∨ (a = 108 ∧ (k < 24 ∨ (96 ≤ k ∧ k < 120)))
theorem SDmc {a k : Nat} (h : SDm a k) : SMc a k := by unfold SDm SM0 at h; unfold SMc; omega
theorem m_wells {σ : Sto} {b : Nat} {P : Int32 → Sto → Prop} (hb : gi σ 101 12 = nI b) (hb7 : b ≤ 7) (k1 : b = 0 → ∀ τ, Eo (fun a k => a = 101 ∧ (k = 10 ∨ k = 11)) σ τ → gi τ 101 10 = 0 → gi τ 101 11 = -1 → P 1 τ)
    (k0 : b ≠ 0 → ∀ τ, Eo (fun a k => a = 101 ∧ (k = 0 ∨ k = 10 ∨ k = 11)) σ τ → gi τ 101 10 = nI b → gi τ 101 11 = gi σ 101 13 → gi τ 101 0 = 10 → P 0 τ) : w_X12_isWell σ P := by
  unfold w_X12_isWell
  rintro _ rfl
  rw [gi_si_k (by decide), hb]
  by_cases z : b = 0
  · rw [if_pos (by rw [z]; rfl)]
    unfold w_X12_isWell_24
    rintro _ rfl
    rw [gi_si_k (by decide), gi_si_k (by decide), hb, if_pos (by rw [z]; rfl)]
    exact k1 z _ ((Eo.si ⟨rfl, Or.inl rfl⟩).tr (Eo.si ⟨rfl, Or.inr rfl⟩)) (by rw [gi_si_k (by decide), gi_si_s, z]; rfl) gi_si_s
  · rw [if_neg (nb0 z hb7)]
    unfold w_X12_isWell_24
    rintro _ rfl
    rw [gi_si_k (by decide), gi_si_k (by decide), hb, if_neg (nb0 z hb7)]
    unfold w_X12_no
    try dsimp only
    rw [if_pos rfl]
    exact k0 z _ (((Eo.si ⟨rfl, Or.inr (Or.inl rfl)⟩).tr (Eo.si ⟨rfl, Or.inr (Or.inr rfl)⟩)).tr (Eo.si ⟨rfl, Or.inl rfl⟩)) (by rw [gi_si_k (by decide), gi_si_k (by decide), gi_si_s]) (by rw [gi_si_k (by decide), gi_si_s, gi_si_k (by decide)]) gi_si_s
/-- what a text of a city says, of n bytes -/
def ctA (T : Nat → Nat) (n : Nat) : RS DS := ctE T n 902 ((fun _ => 0), (fun _ => 0), 0) (tokF T n 0)
theorem DW0 : DW (fun _ => 0) (fun _ => 0) 0 := by
  refine ⟨⟨by decide, by decide, by decide, by decide, by decide, by decide, by decide, by decide, fun t ht => absurd (show t < 0 from ht) (Nat.not_lt_zero t), fun t ht => absurd (show t < 0 from ht) (Nat.not_lt_zero t), fun t ht => absurd (show t < 0 from ht) (Nat.not_lt_zero t), fun t ht => absurd (show t < 0 from ht) (Nat.not_lt_zero t), fun t ht => absurd (show t < 0 from ht) (Nat.not_lt_zero t), fun t ht => absurd (show t < 0 from ht) (Nat.not_lt_zero t), fun t ht => absurd (show t < 0 from ht) (Nat.not_lt_zero t), fun t ht => absurd (show t < 0 from ht) (Nat.not_lt_zero t)⟩, ⟨by decide, by decide, by decide, fun _ _ _ => rfl⟩, fun _ _ => Nat.zero_le 9, fun t _ => ⟨Nat.two_pow_pos _, Nat.zero_testBit t⟩, rfl, rfl, by decide⟩
theorem m_city {σ : Sto} {T : Nat → Nat} {f : Nat} {x : Int32} {P : Int32 → Sto → Prop} (hp : PM σ f T)
    (k5 : ¬ (¬ x < 0 ∧ ¬ nI f < x) → ∀ τ, Eo SM σ τ → gi τ 101 0 = 5 → P (-1) τ)
    (k1 : ∀ n, x = nI n → n ≤ f → ∀ y t', ctA T n = Sum.inr (y, t') → ∀ τ, Eo SMc σ τ → DW y.1 y.2.1 y.2.2 → MB τ 0 y.1 y.2.1 → gi τ 101 0 = 0 → gi τ 101 8 = 0 → gi τ 101 10 = 0 → gi τ 101 11 = -1 → P (nI (y.1 0)) τ)
    (k0 : ∀ n, x = nI n → n ≤ f → ∀ e, ctA T n = Sum.inl e → ∀ τ, Eo SMc σ τ → (∀ j, j < 421 → gi τ 106 j = gi σ 106 j) → (∀ j, j < 24 → gl τ 108 j = gl σ 108 j) → gi τ 101 0 = 10 → gi τ 101 8 = 0 → gi τ 101 10 = nI e.1 → gi τ 101 11 = nI e.2 → P (-1) τ) : w_X12_city x σ P := by
  have hf := hp.2.1
  unfold w_X12_city
  have e0 : Eo SM σ (si (si σ 101 1 0) 101 0 0) := sm10
  have hp0 : PM (si (si σ 101 1 0) 101 0 0) f T := ⟨by rw [gi_si_k (by decide), gi_si_k (by decide)]; exact hp.1, hp.2.1, fun k hk => by rw [gi_si_a (by decide), gi_si_a (by decide)]; exact hp.2.2 k hk⟩
  have s0 : gi (si (si σ 101 1 0) 101 0 0) 101 0 = 0 := gi_si_s
  have e0c : Eo SMc σ (si (si σ 101 1 0) 101 0 0) := (Eo.si (Or.inl ⟨rfl, Or.inr (Or.inr (Or.inl rfl))⟩)).tr (Eo.si (Or.inl ⟨rfl, Or.inr (Or.inl rfl)⟩))
  have n421 : ∀ j, ¬ (fun a k => a = 101 ∧ (k = 0 ∨ k = 1)) 106 j := fun j q => by omega
  have same0 : ∀ j, gi (si (si σ 101 1 0) 101 0 0) 106 j = gi σ 106 j := fun j => by rw [gi_si_a (by decide), gi_si_a (by decide)]
  have samel : ∀ j, gl (si (si σ 101 1 0) 101 0 0) 108 j = gl σ 108 j := fun j => rfl
  generalize si (si σ 101 1 0) 101 0 0 = σ0 at e0 hp0 s0 e0c same0 samel ⊢
  refine m_starts (mo := 900) hp0 (by decide) (fun h1 h2 h3 n hx hn hn9 τ e s1 t8 b1 hR hI => ?_) (fun hx => ?_)
  · rw [if_neg one0]
    refine Lp_for 421 (fun j q => q.1 = nI j ∧ Eo (fun a k => a = 106 ∧ 1684 ≤ k ∧ k < 2105) τ q.2 ∧ ∀ i, i < j → gi q.2 106 (1684 + i) = 0) ⟨rfl, Eo.rf, fun i hi => absurd hi (Nat.not_lt_zero i)⟩ ?_ ?_
    · rintro j hj K ⟨x3, τ2⟩ ⟨r3, e2, hg⟩ hK
      dsimp only at r3 e2 hg hK ⊢
      subst r3
      unfold w_X12_city_25
      rw [N421, if_neg (by rw [jI_le (by omega) (by omega)]; omega), show (1684 : Int32) = nI 1684 from rfl, jI_add, tn_nI (by omega), jI_inc]
      refine ⟨vp_nI (by omega) (by decide), ?_⟩
      rintro _ rfl
      refine hK _ ⟨rfl, e2.tr (Eo.si ⟨rfl, by omega, by omega⟩), fun i hi => ?_⟩
      by_cases ei : i = j
      · rw [ei, gi_si_s]
      · rw [gi_si_k (by omega)]; exact hg i (by omega)
    · rintro K ⟨x3, τ2⟩ ⟨r3, e2, hg⟩
      dsimp only at r3 e2 hg ⊢
      subst r3
      unfold w_X12_city_25
      rw [N421, if_pos (by rw [jI_le (by omega) (by omega)]; omega)]
      have e3 : Eo (fun x k => (x = 101 ∧ k = 24) ∨ (x = 106 ∧ 1684 ≤ k ∧ k < 2105) ∨ (x = 108 ∧ 96 ≤ k ∧ k < 120)) τ (si τ2 101 24 0) := (e2.mo (fun a k q => Or.inr (Or.inl q))).tr (Eo.si (Or.inl ⟨rfl, rfl⟩))
      have hd3 : DrM (si τ2 101 24 0) (fun _ => 0) (fun _ => 0) 0 := ⟨fun j hj => by rw [gi_si_a (by decide)]; exact hg j hj, fun k hk => by
        have hk' : k < 0 ∨ (12 ≤ k ∧ k < 12 + 0) ∨ (18 ≤ k ∧ k < 18 + 0) := hk
        omega, by rw [gi_si_s]; rfl⟩
      have h3 := hR.city e3
      have g8 : gi (si τ2 101 24 0) 101 8 = 0 := by rw [e3.1 _ _ (by omega)]; exact t8
      have g0 : gi (si τ2 101 24 0) 101 0 = 0 := by rw [e3.1 _ _ (by omega), s1]; exact s0
      have g12 : gi (si τ2 101 24 0) 101 12 = nI 0 := by rw [e3.1 _ _ (by omega)]; exact b1
      have ec : Eo SMc σ (si τ2 101 24 0) := (e0c.tr (e.mo (fun a k q => by unfold SMs at q; unfold SMc; omega))).tr (e3.mo (fun a k q => by unfold SMc; omega))
      have sm : ∀ j, j < 421 → gi (si τ2 101 24 0) 106 j = gi σ 106 j := fun j hj => by rw [e3.1 _ _ (by omega), e.1 _ _ (by unfold SMs; omega)]; exact same0 j
      have sl' : ∀ j, j < 24 → gl (si τ2 101 24 0) 108 j = gl σ 108 j := fun j hj => by rw [e3.2.1 _ _ (by omega), e.2.1 _ _ (by unfold SMs; omega)]; exact samel j
      generalize si τ2 101 24 0 = σ3 at hd3 h3 g8 g0 g12 ec sm sl' ⊢
      refine (m_ct 902 ((fun _ => 0), (fun _ => 0), 0) (tokF T n 0) σ3 (Nat.le_refl _) h3 hI g12 hd3 DW0 ⟨fun er he r0 r7 v τ4 hv e4 q12 q13 => ?_, fun y t' hy τ4 e4 q12 h4 ht4 hd4 hw4 => ?_⟩).lp
      · unfold w_X12_city_183
        refine m_wells q12 r7 (fun q => absurd q r0) (fun _ τ5 e5 q10 q11 q0 => ?_)
        rw [if_pos rfl]
        refine k0 n hx hn er he τ5 ((ec.tr (e4.mo (fun _ _ => SDmc))).tr (e5.mo (fun a k q => by unfold SMc; omega))) (fun j hj => ?_) (fun j hj => ?_) q0 ?_ q10 (by rw [q11, q13])
        · rw [e5.1 _ _ (by omega), e4.1 _ _ (by unfold SDm SM0; omega)]; exact sm j hj
        · rw [e5.2.1 _ _ (by omega), e4.2.1 _ _ (by unfold SDm SM0; omega)]; exact sl' j hj
        · rw [e5.1 _ _ (by omega), e4.1 _ _ (by unfold SDm SM0; omega)]; exact g8
      · unfold w_X12_city_183
        refine m_wells q12 (by decide) (fun _ τ5 e5 q10 q11 => ?_) (fun q => absurd rfl q)
        rw [if_neg one0]
        refine m_copy (f := 4) (t := 0) (by decide) (by decide) (by decide) (fun τ6 e6 c6 l6 => ?_)
        have ok := hw4.1
        have mb : MB τ6 0 y.1 y.2.1 := by
          refine ⟨fun j hj => ?_, fun k hk => ?_⟩
          · have := c6 j hj
            rw [this, e5.1 _ _ (by omega)]
            exact hd4.1 j hj
          · have hk24 := vN.lt ok hk
            rw [l6 k hk24, e5.2.1 _ _ (by omega)]
            exact hd4.2.1 k hk
        have m0 : gi τ6 106 0 = nI (y.1 0) := mb.1 0 (by decide)
        rw [m0]
        have c : ∀ k, k < 24 → k ≠ 10 → k ≠ 11 → ¬ (12 ≤ k ∧ k ≤ 19) → gi τ6 101 k = gi σ3 101 k := fun k _ _ _ _ => by
          rw [e6.1 _ _ (by unfold SBl; omega), e5.1 _ _ (by omega), e4.1 _ _ (by unfold SDm SM0; omega)]
        refine k1 n hx hn y t' hy τ6 (((ec.tr (e4.mo (fun _ _ => SDmc))).tr (e5.mo (fun a k q => by unfold SMc; omega))).tr (e6.mo (fun a k q => by unfold SBl at q; unfold SMc; omega))) hw4 mb ?_ ?_ ?_ ?_
        · rw [c 0 (by decide) (by decide) (by decide) (by decide)]; exact g0
        · rw [c 8 (by decide) (by decide) (by decide) (by decide)]; exact g8
        · rw [e6.1 _ _ (by unfold SBl; omega)]; exact q10
        · rw [e6.1 _ _ (by unfold SBl; omega)]; exact q11
  · rw [if_pos rfl]
    refine k5 (fun q => hx ⟨q.1, q.2, fun y => q.2 ?_⟩) _ (e0.tr sm0) gi_si_s
    rw [Int32.lt_iff_toInt_lt, jI_toInt (by decide)] at y
    rw [Int32.lt_iff_toInt_lt, jI_toInt (by omega)]
    omega
