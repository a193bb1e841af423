/-! ===== texts: parts of a city, read by the model ===== -/
/-- the model's draft, with what names are there -/
def DM (σ : Sto) (m : Nat → Nat) (nm : Nat → Int64) (N : Nat → Prop) (l : Nat) : Prop := (∀ j, j < 421 → gi σ 106 (1684 + j) = nI (m j)) ∧ (∀ k, N k → gl σ 108 (96 + k) = nm k) ∧ gi σ 101 24 = nI l
theorem DM.eo {σ τ : Sto} {l : Nat} {m : Nat → Nat} {nm : Nat → Int64} {N : Nat → Prop} (h : DM σ m nm N l) (e : Eo SM0 σ τ) : DM τ m nm N l :=
  ⟨fun j hj => by rw [e.1 _ _ (by unfold SM0; omega)]; exact h.1 j hj, fun k hk => by rw [e.2.1 _ _ (by unfold SM0; omega)]; exact h.2.1 k hk, by rw [e.1 _ _ (by unfold SM0; omega)]; exact h.2.2⟩
theorem DM.put {σ : Sto} {l i v : Nat} {m : Nat → Nat} {nm : Nat → Int64} {N : Nat → Prop} (h : DM σ m nm N l) : DM (si σ 106 (1684 + i) (nI v)) (updC m i v) nm N l :=
  ⟨fun j hj => by
    by_cases e : j = i
    · rw [e, gi_si_s, updC_s]
    · rw [gi_si_k (by omega), updC_n e]; exact h.1 j hj, h.2.1, by rw [gi_si_a (by decide)]; exact h.2.2⟩
theorem DM.name {σ : Sto} {l k : Nat} {v : Int64} {m : Nat → Nat} {nm : Nat → Int64} {N : Nat → Prop} (h : DM σ m nm N l) : DM (sl σ 108 (96 + k) v) m (nmU nm k v) (fun j => N j ∨ j = k) l :=
  ⟨h.1, fun j hj => by
    by_cases e : j = k
    · rw [e, gl_sl_s, nmU_s]
    · rw [gl_sl_k (by omega), nmU_n e]; exact h.2.1 j (by rcases hj with q | q; exact q; exact absurd q e), h.2.2⟩
theorem DM.mo {σ : Sto} {l : Nat} {m : Nat → Nat} {nm : Nat → Int64} {N N' : Nat → Prop} (h : DM σ m nm N l) (hN : ∀ k, N' k → N k) : DM σ m nm N' l := ⟨h.1, fun k hk => h.2.1 k (hN k hk), h.2.2⟩
theorem SDm0 {x k : Nat} (h : SM0 x k) : SDm x k := Or.inl h
theorem SDmC {i : Nat} (h : i < 421) : SDm 106 (1684 + i) := Or.inr (Or.inr (Or.inl ⟨rfl, by omega, by omega⟩))
theorem nb0 {e : Nat} (h : e ≠ 0) (h7 : e ≤ 7) : ¬ nI e = 0 := by rw [N0, jI_eq (by omega) (by decide)]; exact h
theorem nble {e : Nat} (h : e ≠ 0) (h7 : e ≤ 7) : ¬ nI e ≤ 0 := by rw [N0, jI_le (by omega) (by decide)]; omega
theorem t_wany {σ : Sto} {p q r s t u : Nat} {P : Int32 → Sto → Prop} (hp : 97 ≤ p ∧ p ≤ 122) (hq : 97 ≤ q ∧ q ≤ 122) (hr : okL r) (hs : okL s) (ht : okL t) (hu : okL u) (k1 : P 1 σ) (k0 : P 0 σ) : w_X12_spelled (nI p) (nI q) (nI r) (nI s) (nI t) (nI u) σ (fun r σ1 => w_X12_isWord r σ1 P) := by
  refine t_spelled hp hq hr hs ht hu ?_
  unfold w_X12_isWord
  split
  · split
    · exact k1
    · exact k0
  · exact k0
theorem t_fromAny {σ : Sto} {P : Int32 → Sto → Prop} (k1 : P 1 σ) (k0 : P 0 σ) : w_X12_isFrom σ P := by
  unfold w_X12_isFrom
  exact t_wany (p := 102) (q := 114) (r := 111) (s := 109) (t := 0) (u := 0) (by decide) (by decide) (by unfold okL; omega) (by unfold okL; omega) (by unfold okL; omega) (by unfold okL; omega) ⟨Or.inr rfl, k1⟩ ⟨Or.inl rfl, k0⟩
theorem t_needsAny {σ : Sto} {P : Int32 → Sto → Prop} (k1 : P 1 σ) (k0 : P 0 σ) : w_X12_isNeeds σ P := by
  unfold w_X12_isNeeds
  exact t_wany (p := 110) (q := 101) (r := 101) (s := 100) (t := 115) (u := 0) (by decide) (by decide) (by unfold okL; omega) (by unfold okL; omega) (by unfold okL; omega) (by unfold okL; omega) ⟨Or.inr rfl, k1⟩ ⟨Or.inl rfl, k0⟩
theorem t_endAny {σ : Sto} {P : Int32 → Sto → Prop} (k1 : P 1 σ) (k0 : P 0 σ) : w_X12_isEnd σ P := by
  unfold w_X12_isEnd
  exact t_wany (p := 101) (q := 110) (r := 100) (s := 0) (t := 0) (u := 0) (by decide) (by decide) (by unfold okL; omega) (by unfold okL; omega) (by unfold okL; omega) (by unfold okL; omega) ⟨Or.inr rfl, k1⟩ ⟨Or.inl rfl, k0⟩
theorem t_signAny {σ : Sto} {x : Int32} {P : Int32 → Sto → Prop} (k1 : P 1 σ) (k0 : P 0 σ) : w_X12_isSign x σ P := by
  unfold w_X12_isSign
  split
  · split
    · exact k1
    · exact k0
  · exact k0
theorem tk_id {c : Nat → Nat} {nm : Nat → Int64} {t : TKn} (hk : NmK c nm) (hv : lI t.2.2.2.1 ≠ 0) : tkF nm t = 0 ↔ idF c nm 0 t = 0 ∧ idF c nm 1 t = 0 ∧ idF c nm 2 t = 0 := by
  have e : ∀ s, s ≤ 2 → (idF c nm s t = 0 ↔ ∀ k, k < grl s → nm (grp s + k) ≠ lI t.2.2.2.1) := fun s hs => by
    unfold idF
    rw [← fd_cnt hk hs hv]
    exact fdF_zero _
  have g0 : grl 0 = 12 := rfl
  have g1 : grl 1 = 6 := rfl
  have g2 : grl 2 = 6 := rfl
  have p0 : grp 0 = 0 := rfl
  have p1 : grp 1 = 12 := rfl
  have p2 : grp 2 = 18 := rfl
  rw [e 0 (by decide), e 1 (by decide), e 2 (by decide), g0, g1, g2, p0, p1, p2]
  unfold tkF
  rw [fdF_zero]
  constructor
  · intro h
    refine ⟨fun k hk => h k (by omega), fun k hk => ?_, fun k hk => ?_⟩
    · have := h (12 + k) (by omega)
      rw [Nat.zero_add] at this; exact this
    · have := h (18 + k) (by omega)
      rw [Nat.zero_add] at this; exact this
  · rintro ⟨h0, h1, h2⟩ k hk
    rcases (show k < 12 ∨ (12 ≤ k ∧ k < 18) ∨ 18 ≤ k by omega) with q | q | q
    · exact h0 k q
    · have := h1 (k - 12) (by omega)
      rw [show 12 + (k - 12) = 0 + k by omega] at this; exact this
    · have := h2 (k - 18) (by omega)
      rw [show 18 + (k - 18) = 0 + k by omega] at this; exact this
theorem m_new {σ : Sto} {T : Nat → Nat} {n q l s mo : Nat} {c : Nat → Nat} {nm : Nat → Int64} {t : TKn} {P : Int32 → Sto → Prop} (h : RdM σ T n t) (ht : isTk T n q t) (hb : gi σ 101 12 = nI 0) (hd : DM σ c nm (vN c) l) (hk : NmK c nm) (hs : s ≤ 2) (hm : mo = grl s)
    (kk : OM 12 SDm σ T n q (if cnt c s < mo then newE T n nm (nxF T n t) else Sum.inl (6, t.2.1)) (fun v τ => DM τ c (nmU nm (grp s + cnt c s) v) (fun j => vN c j ∨ j = grp s + cnt c s) l → P (nI (cnt c s)) τ) (fun v τ => P (nI v) τ)) : w_X12_readNew (nI s) (nI mo) σ P := by
  have hl := cntK hk hs
  have hg := grl12 (s := s)
  have hp := grp18 (s := s)
  have h3 := mnyF3 (s := s)
  have hbd : ∀ e : Nat × Nat, (if cnt c s < mo then newE T n nm (nxF T n t) else Sum.inl (6, t.2.1)) = Sum.inl e → e.1 ≠ 0 → e.1 ≤ 7 → ∀ τ, Eo SM0 σ τ → gi τ 101 12 = nI e.1 → gi τ 101 13 = nI e.2 → P 0 τ := fun e he e0 e7 τ e1 g12 g13 => kk.1 e he e0 e7 0 τ (by decide) (e1.mo (fun _ _ => SDm0)) g12 g13
  unfold w_X12_readNew
  refine t_manyOf hs ?_
  rw [show (1684 : Int32) = nI 1684 from rfl, jI_add, tn_nI (by omega)]
  refine ⟨vp_nI (by omega) (by decide), ?_⟩
  rintro _ rfl
  have hcell : gi σ 106 (1684 + mnyF s) = nI (cnt c s) := (show NB σ 4 c nm from DrM.nb (l := l) hd).cell hs
  rw [hcell]
  by_cases hlt : cnt c s < mo
  · rw [if_pos hlt] at kk hbd
    have hlt24 : grp s + cnt c s < 24 := by
      rcases (show s = 0 ∨ s = 1 ∨ s = 2 by omega) with rfl | rfl | rfl
      · have e1 : grl 0 = 12 := rfl
        have e2 : grp 0 = 0 := rfl
        omega
      · have e1 : grl 1 = 6 := rfl
        have e2 : grp 1 = 12 := rfl
        omega
      · have e1 : grl 2 = 6 := rfl
        have e2 : grp 2 = 18 := rfl
        omega
    rw [if_neg (by rw [jI_eq (by omega) (by omega)]; omega)]
    unfold w_X12_readNew_29
    rw [hb, if_pos (by decide)]
    refine m_adv h (fun τ e h1 => ?_)
    have e1 : Eo SM0 σ τ := e.mo (fun _ _ => STm0)
    have ht1 := ht.n1
    have hb1 : gi τ 101 12 = nI 0 := by rw [e.1 _ _ (by unfold STm; omega)]; exact hb
    have hd1 := hd.eo e1
    refine t_isName h1.2.1 h1.2.2.1 ht1.l (fun z => ?_) (fun z => ?_)
    · rw [if_neg one0]
      have hv : lI (nxF T n t).2.2.2.1 ≠ 0 := lI_n0 (ht1.f.2.2.2.2.2 z.1).2.2 (h1.2.2.1.2.1 z.2.1 z.1)
      have hg : gl τ 101 19 = lI (nxF T n t).2.2.2.1 := by rw [(h1.2.1.2.2.2.1 z.1).2, if_pos z.2.1]
      have hid := tk_id (t := nxF T n t) hk hv
      have hnb : NB τ 4 c nm := DrM.nb (l := l) hd1
      have tk : tkF nm (nxF T n t) ≠ 0 → w_X12_readNew_87 (nI s) (nI (cnt c s)) τ P := fun hne => by
        unfold w_X12_readNew_87
        rw [h1.2.1.1]
        refine m_fail hb1 (by decide) (fun _ τ2 e2 g12 g13 => ?_) (fun y => absurd rfl y)
        unfold w_X12_readNew_96
        rw [show (3 : Int32) = nI 3 from rfl] at g12
        rw [g12, if_neg (by decide)]
        exact hbd _ (newE_3 z hne) (show (3 : Nat) ≠ 0 by decide) (show (3 : Nat) ≤ 7 by decide) τ2 (e1.tr (e2.mo (fun _ _ => SMf0))) g12 g13
      have pos : ∀ m : Nat, m < 100 → (0 : Int32) ≤ nI m := fun m hm => by rw [N0]; exact (jI_le (by decide) (by omega)).mpr (Nat.zero_le _)
      have i0 := (idF_le (t := nxF T n t) (s := 0) hk (by decide))
      have i1 := (idF_le (t := nxF T n t) (s := 1) hk (by decide))
      have i2 := (idF_le (t := nxF T n t) (s := 2) hk (by decide))
      unfold w_X12_readNew_53
      rw [hb1, if_pos (show nI 0 = 0 from rfl)]
      refine m_named (s := 0) (b := 4) (by decide) (by decide) hnb hk hg (fun m hm => ?_) (fun hm0 => ?_)
      · have hm' : idF c nm 0 (nxF T n t) = m + 1 := hm
        rw [if_pos (pos m (by omega))]
        exact tk (fun y => by have := (hid.mp y).1; omega)
      rw [if_neg (show ¬ (0 : Int32) ≤ -1 by decide)]
      refine m_named (s := 1) (b := 4) (by decide) (by decide) hnb hk hg (fun m hm => ?_) (fun hm1 => ?_)
      · have hm' : idF c nm 1 (nxF T n t) = m + 1 := hm
        rw [if_pos (pos m (by omega))]
        exact tk (fun y => by have := (hid.mp y).2.1; omega)
      rw [if_neg (show ¬ (0 : Int32) ≤ -1 by decide)]
      refine m_named (s := 2) (b := 4) (by decide) (by decide) hnb hk hg (fun m hm => ?_) (fun hm2 => ?_)
      · have hm' : idF c nm 2 (nxF T n t) = m + 1 := hm
        rw [if_neg (by rw [N0, jI_lt (by omega) (by decide)]; omega)]
        exact tk (fun y => by have := (hid.mp y).2.2; omega)
      rw [if_pos (show (-1 : Int32) < 0 by decide)]
      unfold w_X12_readNew_96
      rw [hb1, if_pos (by decide)]
      refine t_fromOf hs ?_
      rw [N96, jI_add, jI_add, tn_nI (by omega), hg, Nat.add_assoc]
      refine ⟨vp_nI (by omega) (by decide), ?_⟩
      have e2 : Eo (fun x k => (x = 101 ∧ k = 24) ∨ (x = 106 ∧ 1684 ≤ k ∧ k < 2105) ∨ (x = 108 ∧ 96 ≤ k ∧ k < 120)) τ (sl τ 108 (96 + (grp s + cnt c s)) (lI (nxF T n t).2.2.2.1)) := Eo.sl (Or.inr (Or.inr ⟨rfl, by omega, by omega⟩))
      refine m_adv (h1.city e2) (fun τ3 e3 h3 => ?_)
      have e3' : Eo SM0 _ τ3 := e3.mo (fun _ _ => STm0)
      refine kk.2 _ _ (newE_k z (hid.mpr ⟨hm0, hm1, hm2⟩)) τ3 (((e1.mo (fun _ _ => SDm0)).tr (e2.mo (fun _ _ q => Or.inr q))).tr (e3'.mo (fun _ _ => SDm0))) ?_ h3 ht1.n1 (hd1.name.eo e3')
      rw [e3.1 _ _ (by unfold STm; omega)]
      exact hb1
    · rw [if_pos rfl]
      refine m_amiss h1.2.1 h1.2.2.1 hb1 (by decide) (fun _ τ2 e2 g12 g13 => ?_) (fun y => absurd rfl y)
      unfold w_X12_readNew_53 w_X12_readNew_96
      have f2 := fk2 (t := nxF T n t)
      rw [g12, if_neg (nb0 f2.1 f2.2), if_neg (nble f2.1 f2.2)]
      exact hbd _ (newE_n z) f2.1 f2.2 τ2 (e1.tr (e2.mo (fun _ _ => SMf0))) g12 g13
  · rw [if_neg hlt] at kk hbd
    rw [if_pos (by rw [show cnt c s = mo by omega]), h.2.1.1]
    refine m_fail hb (by decide) (fun _ τ2 e2 g12 g13 => ?_) (fun y => absurd rfl y)
    unfold w_X12_readNew_29
    rw [show (6 : Int32) = nI 6 from rfl] at g12
    rw [g12, if_neg (by decide)]
    exact hbd _ rfl (show (6 : Nat) ≠ 0 by decide) (show (6 : Nat) ≤ 7 by decide) τ2 (e2.mo (fun _ _ => SMf0)) g12 g13
theorem m_ex {σ : Sto} {T : Nat → Nat} {n q l b : Nat} {m : Nat → Nat} {nm : Nat → Int64} {N : Nat → Prop} {t : TKn} {P : Sto → Prop} {Q : Nat → Sto → Prop} (h : RdM σ T n t) (ht : isTk T n q t) (hb : gi σ 101 12 = nI 0) (hd : DM σ m nm N l) (hm : m 0 = b) (hb12 : b < 12) (kk : OM 12 SDm σ T n q (exE T n b (updC m 0 (b + 1)) t) (fun c' τ => DM τ c' nm N l → P τ) Q) : w_X12_readThing_54 (nI b) σ P := by
  unfold w_X12_readThing_54
  rw [hb, if_pos (show nI 0 = 0 from rfl)]
  have fin : ∀ τ, gi τ 101 12 = nI 0 → gi τ 106 1684 = nI b → P (si τ 106 1684 (nI (b + 1))) → w_X12_readThing_86 τ P := fun τ g12 g0 hp => by
    unfold w_X12_readThing_86
    rw [g12, if_pos (show nI 0 = 0 from rfl), g0, jI_inc]
    exact hp
  refine t_isExemptWord h.2.1 h.2.2.1 (fun z => ?_) (fun z => ?_)
  · rw [if_neg one0]
    refine m_adv h (fun τ e h' => ?_)
    have e1 : Eo SM0 σ τ := e.mo (fun _ _ => STm0)
    have hd1 := hd.eo e1
    have g7 : gi τ 106 1691 = nI (m 7) := hd1.1 7 (by decide)
    rw [g7, sh1 (by omega), jI_or]
    have hd2 : DM (si τ 106 1691 (nI (m 7 ||| 2 ^ b))) (updC m 7 (m 7 ||| 2 ^ b)) nm N l := hd1.put (i := 7)
    have e2 : Eo (fun x k => (x = 101 ∧ k = 24) ∨ (x = 106 ∧ 1684 ≤ k ∧ k < 2105) ∨ (x = 108 ∧ 96 ≤ k ∧ k < 120)) τ (si τ 106 1691 (nI (m 7 ||| 2 ^ b))) := Eo.si (Or.inr (Or.inl ⟨rfl, by omega, by omega⟩))
    have h2 := h'.city e2
    have g12 : gi (si τ 106 1691 (nI (m 7 ||| 2 ^ b))) 101 12 = nI 0 := by
      rw [gi_si_a (by decide), e.1 _ _ (by unfold STm; omega)]; exact hb
    generalize si τ 106 1691 (nI (m 7 ||| 2 ^ b)) = σ2 at hd2 e2 h2 g12 ⊢
    have g0 : gi σ2 106 1684 = nI b := by
      have := hd2.1 0 (by decide)
      rw [updC_n (by decide), hm] at this
      exact this
    refine fin σ2 g12 g0 ?_
    have hd3 : DM (si σ2 106 1684 (nI (b + 1))) (updC (updC m 7 (m 7 ||| 2 ^ b)) 0 (b + 1)) nm N l := hd2.put (i := 0)
    have e3 : Eo (fun x k => (x = 101 ∧ k = 24) ∨ (x = 106 ∧ 1684 ≤ k ∧ k < 2105) ∨ (x = 108 ∧ 96 ≤ k ∧ k < 120)) σ2 (si σ2 106 1684 (nI (b + 1))) := Eo.si (Or.inr (Or.inl ⟨rfl, by omega, by omega⟩))
    refine kk.2 _ _ (exE_1 z) _ ((e1.mo (fun _ _ => SDm0)).tr ((e2.mo (fun _ _ q => Or.inr q)).tr (e3.mo (fun _ _ q => Or.inr q)))) ?_ (h2.city e3) ht.n1 ?_
    · rw [gi_si_a (by decide)]; exact g12
    · rw [updC_n (show (7 : Nat) ≠ 0 by decide), updC_comm (show (0 : Nat) ≠ 7 by decide)]
      exact hd3
  · rw [if_pos rfl]
    refine fin σ hb (by rw [← hm]; exact hd.1 0 (by decide)) ?_
    have e3 : Eo (fun x k => (x = 101 ∧ k = 24) ∨ (x = 106 ∧ 1684 ≤ k ∧ k < 2105) ∨ (x = 108 ∧ 96 ≤ k ∧ k < 120)) σ (si σ 106 1684 (nI (b + 1))) := Eo.si (Or.inr (Or.inl ⟨rfl, by omega, by omega⟩))
    exact kk.2 _ _ (exE_0 z) _ (e3.mo (fun _ _ q => Or.inr q)) (by rw [gi_si_a (by decide)]; exact hb) (h.city e3) ht (hd.put (i := 0))
