/-! ===== texts: readers ===== -/
abbrev RS (α : Type) : Type := Sum (Nat × Nat) (α × TKn)
def bS {α β : Type} (r : RS α) (g : α → TKn → RS β) : RS β := Sum.elim (fun e => Sum.inl e) (fun x => g x.1 x.2) r
/-- a token of the text, from q on -/
def isTk (T : Nat → Nat) (n q : Nat) (t : TKn) : Prop := ∃ p, q ≤ p ∧ p ≤ n ∧ n ≤ 900 ∧ t = tokF T n p
theorem leF_end {T : Nat → Nat} : ∀ d p, leF T d p < p + d → ¬ (97 ≤ T (leF T d p) ∧ T (leF T d p) ≤ 122)
  | 0, p, h => by unfold leF at h; omega
  | d + 1, p, h => by
    unfold leF at h ⊢
    by_cases q : 97 ≤ T p ∧ T p ≤ 122
    · rw [if_pos q] at h ⊢
      exact leF_end d (p + 1) (by omega)
    · rw [if_neg q] at h ⊢
      exact q
theorem pkF_pos {T : Nat → Nat} {a : Nat} : ∀ k, 1 ≤ k → (∀ i, i < k → 97 ≤ T (a + i)) → 0 < pkF T a k
  | 0, h, _ => absurd h (by decide)
  | k + 1, _, h => by
    have := h k (by omega)
    unfold pkF
    omega
theorem tokA_f {T : Nat → Nat} {n a : Nat} (ha : a ≤ n) : (tokA T n a).2.1 = a ∧ a ≤ (tokA T n a).2.2.1 ∧ (tokA T n a).2.2.1 ≤ n ∧ ((tokA T n a).1 = 3 → (tokA T n a).2.2.1 = a + 1) ∧
    ((tokA T n a).1 = 1 → 97 ≤ T a ∧ T a ≤ 122 ∧ a < (tokA T n a).2.2.1 ∧ (tokA T n a).2.2.2.2 ≤ n ∧ 0 < (tokA T n a).2.2.2.1 ∧ ¬ ((tokA T n a).2.2.1 < n ∧ 97 ≤ T (tokA T n a).2.2.1 ∧ T (tokA T n a).2.2.1 ≤ 122)) := by
  have hl := leF_le (T := T) (n - a) a
  have hd := diF_le (T := T) (n - a) a
  have hn := leF_end (T := T) (n - a) a
  have hall := leF_all (T := T) (n - a) a
  have n1 : ∀ {x : Nat}, x ≠ 1 → ∀ {Q : Prop}, x = 1 → Q := fun h _ q => absurd q h
  have n3 : ∀ {x : Nat}, x ≠ 3 → ∀ {Q : Prop}, x = 3 → Q := fun h _ q => absurd q h
  unfold tokA
  split
  · exact ⟨rfl, Nat.le_refl _, ha, n3 (show (0:Nat) ≠ 3 by decide), n1 (show (0:Nat) ≠ 1 by decide)⟩
  · rename_i h0
    split
    · rename_i h1
      have h2 : a < leF T (n - a) a := by
        obtain ⟨d, hd'⟩ : ∃ d, n - a = d + 1 := ⟨n - a - 1, by omega⟩
        rw [hd']
        unfold leF
        rw [if_pos h1]
        have := (leF_le (T := T) d (a + 1)).1
        omega
      refine ⟨rfl, hl.1, by dsimp only; omega, n3 (show (1:Nat) ≠ 3 by decide), fun _ => ⟨h1.1, h1.2, h2, by dsimp only; omega, ?_, fun q => ?_⟩⟩
      · exact pkF_pos _ (by omega) (fun i hi => (hall (a + i) (by omega) (by omega)).1)
      · dsimp only at q
        exact hn (by omega) q.2
    · split
      · split
        · exact ⟨rfl, hd.1, by dsimp only; omega, n3 (show (2:Nat) ≠ 3 by decide), n1 (show (2:Nat) ≠ 1 by decide)⟩
        · exact ⟨rfl, hd.1, by dsimp only; omega, n3 (show (4:Nat) ≠ 3 by decide), n1 (show (4:Nat) ≠ 1 by decide)⟩
      · split
        · exact ⟨rfl, Nat.le_succ a, by dsimp only; omega, fun _ => rfl, n1 (show (3:Nat) ≠ 1 by decide)⟩
        · exact ⟨rfl, Nat.le_succ a, by dsimp only; omega, n3 (show (4:Nat) ≠ 3 by decide), n1 (show (4:Nat) ≠ 1 by decide)⟩
theorem tokF_f {T : Nat → Nat} {n p : Nat} (hp : p ≤ n) : p ≤ (tokF T n p).2.1 ∧ (tokF T n p).2.1 ≤ (tokF T n p).2.2.1 ∧ (tokF T n p).2.2.1 ≤ n ∧ ((tokF T n p).1 = 3 → (tokF T n p).2.2.1 = (tokF T n p).2.1 + 1) ∧
    ((tokF T n p).1 = 1 → 97 ≤ T (tokF T n p).2.1 ∧ T (tokF T n p).2.1 ≤ 122 ∧ (tokF T n p).2.1 < (tokF T n p).2.2.1 ∧ (tokF T n p).2.2.2.2 ≤ n ∧ 0 < (tokF T n p).2.2.2.1 ∧ ¬ ((tokF T n p).2.2.1 < n ∧ 97 ≤ T (tokF T n p).2.2.1 ∧ T (tokF T n p).2.2.1 ≤ 122)) := by
  have hs := skF_le (T := T) (n - p) p
  unfold tokF
  generalize skF T (n - p) p = a at hs
  obtain ⟨h1, h2, h3, h4, h5⟩ := tokA_f (T := T) (n := n) (a := a) (by omega)
  rw [h1]
  exact ⟨hs.1, h2, h3, h4, h5⟩
theorem tokA_l {T : Nat → Nat} {n a : Nat} : (tokA T n a).2.2.2.2 ≤ n := by
  have hl := leF_le (T := T) (n - a) a
  unfold tokA
  split
  · exact Nat.zero_le n
  · split
    · dsimp only; omega
    · split
      · split <;> exact Nat.zero_le n
      · split <;> exact Nat.zero_le n
theorem isTk.l {T : Nat → Nat} {n q : Nat} {t : TKn} (h : isTk T n q t) : t.2.2.2.2 ≤ 900 := by
  obtain ⟨p, h1, h2, h3, rfl⟩ := h
  have := tokA_l (T := T) (n := n) (a := skF T (n - p) p)
  unfold tokF
  omega
theorem isTk.f {T : Nat → Nat} {n q : Nat} {t : TKn} (h : isTk T n q t) : q ≤ t.2.1 ∧ t.2.1 ≤ t.2.2.1 ∧ t.2.2.1 ≤ n ∧ n ≤ 900 ∧ (t.1 = 3 → t.2.2.1 = t.2.1 + 1) ∧ (t.1 = 1 → t.2.1 < t.2.2.1 ∧ t.2.2.2.2 ≤ 900 ∧ 0 < t.2.2.2.1) := by
  obtain ⟨p, h1, h2, h3, rfl⟩ := h
  obtain ⟨a1, a2, a3, a4, a5⟩ := tokF_f (T := T) h2
  exact ⟨by omega, a2, a3, h3, a4, fun z => ⟨(a5 z).2.2.1, by have := (a5 z).2.2.2.1; omega, (a5 z).2.2.2.2.1⟩⟩
theorem isTk.nx {T : Nat → Nat} {n q q' : Nat} {t : TKn} (h : isTk T n q t) (hq : q' ≤ t.2.2.1) : isTk T n q' (nxF T n t) := by
  have := h.f
  exact ⟨t.2.2.1, hq, by omega, by omega, rfl⟩
theorem isTk.n1 {T : Nat → Nat} {n q : Nat} {t : TKn} (h : isTk T n q t) : isTk T n q (nxF T n t) := h.nx (by have := h.f; omega)
theorem isTk.mo {T : Nat → Nat} {n q q' : Nat} {t : TKn} (h : isTk T n q t) (hq : q' ≤ q) : isTk T n q' t := by
  obtain ⟨p, h1, h2, h3, h4⟩ := h
  exact ⟨p, by omega, h2, h3, h4⟩
/-! == what a reader comes to, in the class and in the model == -/
def ST0 (a k : Nat) : Prop := a = 10 ∧ 4 ≤ k ∧ k ≤ 10
def SM0 (a k : Nat) : Prop := a = 101 ∧ 12 ≤ k ∧ k ≤ 19
theorem STk0 {a k : Nat} (h : STk a k) : ST0 a k := by unfold STk at h; unfold ST0; omega
theorem STf0 {a k : Nat} (h : STf a k) : ST0 a k := by unfold STf at h; unfold ST0; omega
theorem STm0 {a k : Nat} (h : STm a k) : SM0 a k := by unfold STm at h; unfold SM0; omega
theorem SMf0 {a k : Nat} (h : SMf a k) : SM0 a k := by unfold SMf at h; unfold SM0; omega
def OC {α : Type} (S : Nat → Nat → Prop) (σ : Sto) (T : Nat → Nat) (n q : Nat) (r : RS α) (Pk : α → Sto → Prop) (Pf : Sto → Prop) : Prop :=
  (∀ e, r = Sum.inl e → ∀ τ, Eo S σ τ → gi τ 10 9 = nI e.1 → gi τ 10 10 = nI e.2 → Pf τ) ∧ ∀ x t', r = Sum.inr (x, t') → ∀ τ, Eo S σ τ → RdC τ T n t' → isTk T n q t' → Pk x τ
def OM {α : Type} (B : Nat) (S : Nat → Nat → Prop) (σ : Sto) (T : Nat → Nat) (n q : Nat) (r : RS α) (Pk : α → Sto → Prop) (Pf : Nat → Sto → Prop) : Prop :=
  (∀ e, r = Sum.inl e → e.1 ≠ 0 → e.1 ≤ 7 → ∀ v τ, v < B → Eo S σ τ → gi τ 101 12 = nI e.1 → gi τ 101 13 = nI e.2 → Pf v τ) ∧ ∀ x t', r = Sum.inr (x, t') → ∀ τ, Eo S σ τ → gi τ 101 12 = nI 0 → RdM τ T n t' → isTk T n q t' → Pk x τ
theorem bS_l {α β : Type} {r : RS α} {g : α → TKn → RS β} {e : Nat × Nat} (h : r = Sum.inl e) : bS r g = Sum.inl e := by rw [h]; rfl
theorem bS_r {α β : Type} {r : RS α} {g : α → TKn → RS β} {x : α} {t : TKn} (h : r = Sum.inr (x, t)) : bS r g = g x t := by rw [h]; rfl
theorem OC.nx {α β : Type} {S : Nat → Nat → Prop} {σ τ : Sto} {T : Nat → Nat} {n q : Nat} {r : RS α} {g : α → TKn → RS β} {Pk : β → Sto → Prop} {Pf : Sto → Prop} {x : α} {t : TKn} (k : OC S σ T n q (bS r g) Pk Pf) (h : r = Sum.inr (x, t)) (e : Eo S σ τ) : OC S τ T n q (g x t) Pk Pf :=
  ⟨fun e' he τ' e1 => k.1 e' (by rw [bS_r h]; exact he) τ' (e.tr e1), fun x' t' hx τ' e1 => k.2 x' t' (by rw [bS_r h]; exact hx) τ' (e.tr e1)⟩
theorem OC.ff {α β : Type} {S : Nat → Nat → Prop} {σ : Sto} {T : Nat → Nat} {n q : Nat} {r : RS α} {g : α → TKn → RS β} {Pk : β → Sto → Prop} {Pf : Sto → Prop} {e : Nat × Nat} (k : OC S σ T n q (bS r g) Pk Pf) (h : r = Sum.inl e) : ∀ τ, Eo S σ τ → gi τ 10 9 = nI e.1 → gi τ 10 10 = nI e.2 → Pf τ := k.1 e (bS_l h)
theorem OM.nx {α β : Type} {B : Nat} {S : Nat → Nat → Prop} {σ τ : Sto} {T : Nat → Nat} {n q : Nat} {r : RS α} {g : α → TKn → RS β} {Pk : β → Sto → Prop} {Pf : Nat → Sto → Prop} {x : α} {t : TKn} (k : OM B S σ T n q (bS r g) Pk Pf) (h : r = Sum.inr (x, t)) (e : Eo S σ τ) : OM B S τ T n q (g x t) Pk Pf :=
  ⟨fun e' he h0 h7 v τ' hv e1 => k.1 e' (by rw [bS_r h]; exact he) h0 h7 v τ' hv (e.tr e1), fun x' t' hx τ' e1 => k.2 x' t' (by rw [bS_r h]; exact hx) τ' (e.tr e1)⟩
theorem OM.ff {α β : Type} {B : Nat} {S : Nat → Nat → Prop} {σ : Sto} {T : Nat → Nat} {n q : Nat} {r : RS α} {g : α → TKn → RS β} {Pk : β → Sto → Prop} {Pf : Nat → Sto → Prop} {e : Nat × Nat} (k : OM B S σ T n q (bS r g) Pk Pf) (h : r = Sum.inl e) : e.1 ≠ 0 → e.1 ≤ 7 → ∀ v τ, v < B → Eo S σ τ → gi τ 101 12 = nI e.1 → gi τ 101 13 = nI e.2 → Pf v τ := k.1 e (bS_l h)
/-! == single tokens == -/
def kwE (T : Nat → Nat) (n i : Nat) (t : TKn) : RS Unit := if t.1 = 1 ∧ t.2.2.2.2 ≤ 8 ∧ kwF t.2.2.2.1 = i + 1 then Sum.inr ((), nxF T n t) else Sum.inl (fkF t 2, t.2.1)
def sgE (T : Nat → Nat) (n x : Nat) (t : TKn) : RS Unit := if t.1 = 3 ∧ t.2.2.2.1 = x then Sum.inr ((), nxF T n t) else Sum.inl (fkF t 2, t.2.1)
def nuE (T : Nat → Nat) (n lo hi : Nat) (t : TKn) : RS Nat := if nmF lo hi t = 0 then Sum.inr (t.2.2.2.1, nxF T n t) else Sum.inl (nmF lo hi t, t.2.1)
theorem fk2 {t : TKn} : fkF t 2 ≠ 0 ∧ fkF t 2 ≤ 7 := by unfold fkF; split <;> decide
theorem nm7 {lo hi : Nat} {t : TKn} : nmF lo hi t ≤ 7 := by
  unfold nmF
  split
  · split <;> decide
  · exact fk2.2
theorem c_kw {σ : Sto} {T : Nat → Nat} {n q i : Nat} {t : TKn} {P : Int32 → Sto → Prop} (h : RdC σ T n t) (ht : isTk T n q t) (hi : i < 23) (k : OC ST0 σ T n q (kwE T n i t) (fun _ τ => P 1 τ) (fun τ => P 0 τ)) : w_X9_passKeyword (nI i) σ P :=
  c_passKeyword h hi (fun z τ e h' => k.2 () (nxF T n t) (if_pos z) τ (e.mo (fun _ _ => STk0)) h' ht.n1) (fun z τ e g9 g10 => k.1 _ (if_neg z) τ (e.mo (fun _ _ => STf0)) g9 g10)
theorem c_sg {σ : Sto} {T : Nat → Nat} {n q x : Nat} {t : TKn} {P : Int32 → Sto → Prop} (h : RdC σ T n t) (ht : isTk T n q t) (hx : x < 256) (k : OC ST0 σ T n (t.2.1 + 1) (sgE T n x t) (fun _ τ => P 1 τ) (fun τ => P 0 τ)) : w_X9_passSign (nI x) σ P :=
  c_passSign h hx (fun z τ e h' => k.2 () (nxF T n t) (if_pos z) τ (e.mo (fun _ _ => STk0)) h' (ht.nx (by have := ht.f.2.2.2.2.1 z.1; omega))) (fun z τ e g9 g10 => k.1 _ (if_neg z) τ (e.mo (fun _ _ => STf0)) g9 g10)
theorem c_nu {σ : Sto} {T : Nat → Nat} {n q lo hi : Nat} {t : TKn} {P : Int32 → Sto → Prop} (h : RdC σ T n t) (ht : isTk T n q t) (hlo : lo < 10000) (hhi : hi < 10000) (k : OC ST0 σ T n q (nuE T n lo hi t) (fun x τ => lo ≤ x → x ≤ hi → P (nI x) τ) (fun τ => P (-1) τ)) : w_X9_passNumber (nI lo) (nI hi) σ P :=
  c_passNumber h hlo hhi (fun z _ z1 z2 τ e h' => k.2 _ (nxF T n t) (if_pos z) τ (e.mo (fun _ _ => STk0)) h' ht.n1 z1 z2) (fun z τ e g9 g10 => k.1 _ (if_neg z) τ (e.mo (fun _ _ => STf0)) g9 g10)
theorem m_nu {σ : Sto} {T : Nat → Nat} {n q lo hi : Nat} {t : TKn} {P : Int32 → Sto → Prop} (h : RdM σ T n t) (ht : isTk T n q t) (hb : gi σ 101 12 = nI 0) (hlo : lo < 10000) (hhi : hi < 10000) (k : OM 12 SM0 σ T n q (nuE T n lo hi t) (fun x τ => lo ≤ x → x ≤ hi → P (nI x) τ) (fun v τ => P (nI v) τ)) : w_X12_count (nI lo) (nI hi) σ P :=
  m_count h hb hlo hhi (fun z _ z1 z2 τ e h' => k.2 _ (nxF T n t) (if_pos z) τ (e.mo (fun _ _ => STm0)) (by rw [e.1 _ _ (by unfold STm; omega)]; exact hb) h' ht.n1 z1 z2) (fun z τ e g9 g10 => k.1 _ (if_neg z) z nm7 0 τ (by decide) (e.mo (fun _ _ => SMf0)) g9 g10)
/-- the model's must, with what a word asks -/
theorem m_mustk {σ : Sto} {T : Nat → Nat} {n q i : Nat} {t : TKn} {P : Sto → Prop} {w : (Int32 → Sto → Prop) → Prop} (hw : ∀ Q, (isKw t i → Q 1 σ) → (¬ isKw t i → Q 0 σ) → w Q) (h : RdM σ T n t) (ht : isTk T n q t) (hb : gi σ 101 12 = nI 0) (k : OM 12 SM0 σ T n q (kwE T n i t) (fun _ τ => P τ) (fun _ τ => P τ)) : w (fun r σ' => w_X12_must r σ' P) :=
  hw _ (fun z => m_must_1 h hb (fun τ e h' => k.2 () (nxF T n t) (if_pos z) τ (e.mo (fun _ _ => STm0)) (by rw [e.1 _ _ (by unfold STm; omega)]; exact hb) h' ht.n1)) (fun z => m_must_0 h hb (fun τ e g9 g10 => k.1 _ (if_neg z) fk2.1 fk2.2 0 τ (by decide) (e.mo (fun _ _ => SMf0)) g9 g10))
theorem m_mustsg {σ : Sto} {T : Nat → Nat} {n q x : Nat} {t : TKn} {P : Sto → Prop} (h : RdM σ T n t) (ht : isTk T n q t) (hx : x < 256) (hb : gi σ 101 12 = nI 0) (k : OM 12 SM0 σ T n (t.2.1 + 1) (sgE T n x t) (fun _ τ => P τ) (fun _ τ => P τ)) : w_X12_isSign (nI x) σ (fun r σ' => w_X12_must r σ' P) :=
  m_isSign h.2.1 h.2.2.1 hx (fun z => m_must_1 h hb (fun τ e h' => k.2 () (nxF T n t) (if_pos z) τ (e.mo (fun _ _ => STm0)) (by rw [e.1 _ _ (by unfold STm; omega)]; exact hb) h' (ht.nx (by have := ht.f.2.2.2.2.1 z.1; omega)))) (fun z => m_must_0 h hb (fun τ e g9 g10 => k.1 _ (if_neg z) fk2.1 fk2.2 0 τ (by decide) (e.mo (fun _ _ => SMf0)) g9 g10))
