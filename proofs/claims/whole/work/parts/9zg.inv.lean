/-! ===== what holds between calls ===== -/
abbrev MKt : Type := Nat × (Nat → (Nat → Nat) × (Nat → Int64))
abbrev NFt : Type := Nat × (Nat → Nat)
abbrev Wd : Type := TD × NFt × MKt × NFt × NFt × (Int64 × Int64) × (Int32 × Int32)
def MKC (σ : Sto) (ms : MKt) : Prop := gi σ 1 13 = nI ms.1 ∧ ∀ i, i < ms.1 → CF σ (45 + 14 * i) (ms.2 i).1 (ms.2 i).2
def MKM (σ : Sto) (ms : MKt) : Prop := gi σ 101 23 = nI ms.1 ∧ ∀ i, i < ms.1 → MB σ (i + 1) (ms.2 i).1 (ms.2 i).2
def MKW (ms : MKt) : Prop := ms.1 ≤ 3 ∧ ∀ i, i < ms.1 → OK (ms.2 i).1 ∧ NmK (ms.2 i).1 (ms.2 i).2
def TLC (σ : Sto) (tl : NFt) : Prop := gi σ 1 14 = nI tl.1 ∧ (tl.1 ≠ 0 → ∀ i, i < 5 → gi σ 100 i = nI (tl.2 i))
def TLM (σ : Sto) (tl : NFt) : Prop := gi σ 101 39 = nI tl.1 ∧ (tl.1 ≠ 0 → ∀ i, i < 5 → gi σ 118 i = nI (tl.2 i))
def AGC (σ : Sto) (ag : NFt) : Prop := gi σ 93 4 = nI ag.1 ∧ ∀ k, k < ag.1 → gi σ 94 k = nI (ag.2 k)
def AGM (σ : Sto) (ag : NFt) : Prop := gi σ 101 31 = nI ag.1 ∧ ∀ k, k < ag.1 → gi σ 113 k = nI (ag.2 k)
def CO (σ : Sto) (w : Wd) : Prop := TC σ w.1 ∧ PC σ w.2.1.1 w.2.1.2 ∧ MKC σ w.2.2.1 ∧ TLC σ w.2.2.2.1 ∧ AGC σ w.2.2.2.2.1 ∧ (gl σ 1 16 = w.2.2.2.2.2.1.1 ∧ gl σ 1 17 = w.2.2.2.2.2.1.2) ∧ (gi σ 1 18 = w.2.2.2.2.2.2.1 ∧ gi σ 1 19 = w.2.2.2.2.2.2.2) ∧ KC σ
def MO (σ : Sto) (w : Wd) : Prop := TM σ w.1 ∧ PM σ w.2.1.1 w.2.1.2 ∧ MKM σ w.2.2.1 ∧ TLM σ w.2.2.2.1 ∧ AGM σ w.2.2.2.2.1 ∧ (gl σ 101 2 = w.2.2.2.2.2.1.1 ∧ gl σ 101 3 = w.2.2.2.2.2.1.2) ∧ (gi σ 101 10 = w.2.2.2.2.2.2.1 ∧ gi σ 101 11 = w.2.2.2.2.2.2.2) ∧ gi σ 117 0 = 0
def WW (w : Wd) : Prop := MKW w.2.2.1 ∧ w.2.2.2.1.1 ≤ 1 ∧ w.2.2.2.2.1.1 ≤ 6
def NWD (σ : Sto) : Prop := (gr σ 1 11 = 13 ∧ gr σ 1 12 = 27) ∨ (gr σ 1 11 = 27 ∧ gr σ 1 12 = 13)
def IC (N : Nat) (σ : Sto) (c : Nat → Nat) (nm : Nat → Int64) (w : Wd) (s : Int32) : Prop := OK c ∧ NmK c nm ∧ WW w ∧ KW N σ c ∧ NWD σ ∧ CF σ (gr σ 1 11) c nm ∧ gi σ 1 15 = s ∧ CO σ w
def IM (σ : Sto) (c : Nat → Nat) (nm : Nat → Int64) (w : Wd) (s : Int32) : Prop := MB σ 0 c nm ∧ gi σ 101 0 = s ∧ MO σ w
def INV (N : Nat) (σ : Sto) : Prop := ∃ c nm w s, IC N σ c nm w s ∧ IM σ c nm w s
/-! == what frames leave == -/
def Sme (σ τ : Sto) (a k : Nat) : Prop := gi τ a k = gi σ a k ∧ gl τ a k = gl σ a k
theorem TC.sm {σ τ : Sto} {D : TD} (h : TC σ D) (e : ∀ a k, 4 ≤ a → a ≤ 9 → Sme σ τ a k) : TC τ D := fun t ht => by
  obtain ⟨h1, h2, h3, h4, h5⟩ := h t ht
  exact ⟨by rw [(e 8 t (by decide) (by decide)).1]; exact h1, h2, by rw [(e 9 t (by decide) (by decide)).1]; exact h3, h4, fun k hk => by rw [(e (4 + t) k (by omega) (by omega)).2]; exact h5 k hk⟩
theorem PC.sm {σ τ : Sto} {n : Nat} {b : Nat → Nat} (h : PC σ n b) (e2 : Sme σ τ 10 2) (e : ∀ k, Sme σ τ 11 k) : PC τ n b := ⟨by rw [e2.1]; exact h.1, h.2.1, fun k hk => ⟨by rw [(e k).1]; exact (h.2.2 k hk).1, (h.2.2 k hk).2⟩⟩
theorem CF.sm {σ τ : Sto} {a : Nat} {c : Nat → Nat} {nm : Nat → Int64} (h : CF σ a c nm) (e : ∀ i k, i ≤ 13 → Sme σ τ (a + i) k) : CF τ a c nm := by
  have g : ∀ i k, i ≤ 13 → gi τ (a + i) k = gi σ (a + i) k := fun i k hi => (e i k hi).1
  obtain ⟨w0, w1, w2, w3, w4, w5, w6⟩ := h.1
  refine ⟨⟨fun k hk => ?_, fun k hk => by rw [g _ _ (by decide)]; exact w1 k hk, fun k hk => by rw [g _ _ (by decide)]; exact w2 k hk, fun k hk => by rw [g _ _ (by decide)]; exact w3 k hk, fun k hk => by rw [g _ _ (by decide)]; exact w4 k hk, fun v hv k hk => by rw [g _ _ (by decide)]; exact w5 v hv k hk, fun k hk => by rw [g _ _ (by decide)]; exact w6 k hk⟩, fun k hk => by rw [(e 1 k (by decide)).2]; exact h.2.1 k hk, h.2.2.cp (g 8 _ (by decide)) (g 8 _ (by decide)) (g 8 _ (by decide)) (fun k hk => ⟨g 9 _ (by decide), g 10 _ (by decide), g 11 _ (by decide), g 12 _ (by decide), g 13 _ (by decide)⟩)⟩
  have := g 0 (8 + k) (by decide)
  rw [Nat.add_zero a] at this
  rw [this]; exact w0 k hk
theorem MKC.sm {σ τ : Sto} {ms : MKt} (h : MKC σ ms) (h3 : ms.1 ≤ 3) (e1 : Sme σ τ 1 13) (e : ∀ a k, 45 ≤ a → a ≤ 86 → Sme σ τ a k) : MKC τ ms := ⟨by rw [e1.1]; exact h.1, fun i hi => (h.2 i hi).sm (fun j k hj => e _ _ (by omega) (by omega))⟩
theorem TLC.sm {σ τ : Sto} {tl : NFt} (h : TLC σ tl) (e1 : Sme σ τ 1 14) (e : ∀ k, Sme σ τ 100 k) : TLC τ tl := ⟨by rw [e1.1]; exact h.1, fun h0 i hi => by rw [(e i).1]; exact h.2 h0 i hi⟩
theorem AGC.sm {σ τ : Sto} {ag : NFt} (h : AGC σ ag) (e1 : Sme σ τ 93 4) (e : ∀ k, Sme σ τ 94 k) : AGC τ ag := ⟨by rw [e1.1]; exact h.1, fun k hk => by rw [(e k).1]; exact h.2 k hk⟩
theorem KC.sm {σ τ : Sto} (h : KC σ) (e : ∀ k, Sme σ τ 12 k) : KC τ := fun k hk => by rw [(e k).2]; exact h k hk
/-- the places of all but the city and the status -/
def PCO (a k : Nat) : Prop := (4 ≤ a ∧ a ≤ 9) ∨ (a = 10 ∧ k = 2) ∨ a = 11 ∨ a = 12 ∨ (a = 1 ∧ (k = 13 ∨ k = 14 ∨ k = 16 ∨ k = 17 ∨ k = 18 ∨ k = 19)) ∨ (45 ≤ a ∧ a ≤ 86) ∨ a = 100 ∨ (a = 93 ∧ k = 4) ∨ a = 94
theorem CO.sm {σ τ : Sto} {w : Wd} (h : CO σ w) (hw : WW w) (e : ∀ a k, PCO a k → Sme σ τ a k) : CO τ w := by
  obtain ⟨h1, h2, h3, h4, h5, ⟨h6, h7⟩, ⟨h8, h9⟩, h10⟩ := h
  have p : ∀ a k, PCO a k → Sme σ τ a k := e
  refine ⟨h1.sm (fun a k q1 q2 => e a k (by unfold PCO; omega)), h2.sm (e 10 2 (by unfold PCO; omega)) (fun k => e 11 k (by unfold PCO; omega)), h3.sm hw.1.1 (e 1 13 (by unfold PCO; omega)) (fun a k q1 q2 => e a k (by unfold PCO; omega)), h4.sm (e 1 14 (by unfold PCO; omega)) (fun k => e 100 k (by unfold PCO; omega)), h5.sm (e 93 4 (by unfold PCO; omega)) (fun k => e 94 k (by unfold PCO; omega)), ⟨?_, ?_⟩, ⟨?_, ?_⟩, h10.sm (fun k => e 12 k (by unfold PCO; omega))⟩
  · rw [(e 1 16 (by unfold PCO; omega)).2]; exact h6
  · rw [(e 1 17 (by unfold PCO; omega)).2]; exact h7
  · rw [(e 1 18 (by unfold PCO; omega)).1]; exact h8
  · rw [(e 1 19 (by unfold PCO; omega)).1]; exact h9
theorem MB.sm {σ τ : Sto} {b : Nat} {c : Nat → Nat} {nm : Nat → Int64} (ok : OK c) (h : MB σ b c nm) (e1 : ∀ k, 421 * b ≤ k → k < 421 * b + 421 → Sme σ τ 106 k) (e2 : ∀ k, 24 * b ≤ k → k < 24 * b + 24 → Sme σ τ 108 k) : MB τ b c nm :=
  ⟨fun j hj => by rw [(e1 _ (by omega) (by omega)).1]; exact h.1 j hj, fun k hk => by rw [(e2 _ (by omega) (by have := vN.lt ok hk; omega)).2]; exact h.2 k hk⟩
theorem TM.sm {σ τ : Sto} {D : TD} (h : TM σ D) (e : ∀ a k, 102 ≤ a → a ≤ 104 → Sme σ τ a k) : TM τ D := fun t ht => by
  obtain ⟨h1, h2, h3, h4, h5⟩ := h t ht
  exact ⟨by rw [(e 102 t (by decide) (by decide)).1]; exact h1, h2, by rw [(e 103 t (by decide) (by decide)).1]; exact h3, h4, fun k hk => by rw [(e 104 _ (by omega) (by omega)).2]; exact h5 k hk⟩
theorem PM.sm {σ τ : Sto} {n : Nat} {b : Nat → Nat} (h : PM σ n b) (e2 : Sme σ τ 101 8) (e : ∀ k, Sme σ τ 105 k) : PM τ n b := ⟨by rw [e2.1]; exact h.1, h.2.1, fun k hk => ⟨by rw [(e k).1]; exact (h.2.2 k hk).1, (h.2.2 k hk).2⟩⟩
theorem MKM.sm {σ τ : Sto} {ms : MKt} (h : MKM σ ms) (hw : MKW ms) (e1 : Sme σ τ 101 23) (e : ∀ k, 421 ≤ k → k < 1684 → Sme σ τ 106 k) (e' : ∀ k, 24 ≤ k → k < 96 → Sme σ τ 108 k) : MKM τ ms := ⟨by rw [e1.1]; exact h.1, fun i hi => (h.2 i hi).sm (hw.2 i hi).1 (fun k q1 q2 => e k (by omega) (by have := hw.1; omega)) (fun k q1 q2 => e' k (by omega) (by have := hw.1; omega))⟩
theorem TLM.sm {σ τ : Sto} {tl : NFt} (h : TLM σ tl) (e1 : Sme σ τ 101 39) (e : ∀ k, Sme σ τ 118 k) : TLM τ tl := ⟨by rw [e1.1]; exact h.1, fun h0 i hi => by rw [(e i).1]; exact h.2 h0 i hi⟩
theorem AGM.sm {σ τ : Sto} {ag : NFt} (h : AGM σ ag) (e1 : Sme σ τ 101 31) (e : ∀ k, Sme σ τ 113 k) : AGM τ ag := ⟨by rw [e1.1]; exact h.1, fun k hk => by rw [(e k).1]; exact h.2 k hk⟩
def PMO (a k : Nat) : Prop := (102 ≤ a ∧ a ≤ 105) ∨ (a = 101 ∧ (k = 2 ∨ k = 3 ∨ k = 8 ∨ k = 10 ∨ k = 11 ∨ k = 23 ∨ k = 31 ∨ k = 39)) ∨ (a = 106 ∧ 421 ≤ k ∧ k < 1684) ∨ (a = 108 ∧ 24 ≤ k ∧ k < 96) ∨ a = 118 ∨ a = 113 ∨ (a = 117 ∧ k = 0)
theorem MO.sm {σ τ : Sto} {w : Wd} (h : MO σ w) (hw : WW w) (e : ∀ a k, PMO a k → Sme σ τ a k) : MO τ w := by
  obtain ⟨h1, h2, h3, h4, h5, ⟨h6, h7⟩, ⟨h8, h9⟩, h10⟩ := h
  refine ⟨h1.sm (fun a k q1 q2 => e a k (by unfold PMO; omega)), h2.sm (e 101 8 (by unfold PMO; omega)) (fun k => e 105 k (by unfold PMO; omega)), h3.sm hw.1 (e 101 23 (by unfold PMO; omega)) (fun k q1 q2 => e 106 k (by unfold PMO; omega)) (fun k q1 q2 => e 108 k (by unfold PMO; omega)), h4.sm (e 101 39 (by unfold PMO; omega)) (fun k => e 118 k (by unfold PMO; omega)), h5.sm (e 101 31 (by unfold PMO; omega)) (fun k => e 113 k (by unfold PMO; omega)), ⟨?_, ?_⟩, ⟨?_, ?_⟩, ?_⟩
  · rw [(e 101 2 (by unfold PMO; omega)).2]; exact h6
  · rw [(e 101 3 (by unfold PMO; omega)).2]; exact h7
  · rw [(e 101 10 (by unfold PMO; omega)).1]; exact h8
  · rw [(e 101 11 (by unfold PMO; omega)).1]; exact h9
  · rw [(e 117 0 (by unfold PMO; omega)).1]; exact h10
/-- the model leaves the class -/
theorem IC.hi {N : Nat} {σ τ : Sto} {c : Nat → Nat} {nm : Nat → Int64} {w : Wd} {s : Int32} (h : IC N σ c nm w s) (e : Eo (fun a _ => 101 ≤ a) σ τ) : IC N τ c nm w s := by
  obtain ⟨h1, h2, h3, h4, h5, h6, h7, h8⟩ := h
  have g : ∀ a k, a < 101 → Sme σ τ a k := fun a k ha => ⟨e.1 a k (by omega), e.2.1 a k (by omega)⟩
  have hr := h4.1.rg
  refine ⟨h1, h2, h3, h4.er (R := fun _ _ => False) e.er (fun a k q => by omega) (fun i k hi => by omega) (fun q => q) (fun a k _ q => q), ?_, ?_, by rw [(g 1 15 (by decide)).1]; exact h7, h8.sm h3 (fun a k q => g a k (by unfold PCO at q; omega))⟩
  · unfold NWD
    rw [e.2.2, e.2.2]
    exact h5
  · rw [e.2.2]
    exact h6.sm (fun i k hi => g _ _ (by omega))
/-- the class leaves the model -/
theorem IM.lo {σ τ : Sto} {c : Nat → Nat} {nm : Nat → Int64} {w : Wd} {s : Int32} (h : IM σ c nm w s) (ok : OK c) (hw : WW w) (g : ∀ a k, 101 ≤ a → Sme σ τ a k) : IM τ c nm w s :=
  ⟨h.1.sm ok (fun k _ _ => g _ _ (by decide)) (fun k _ _ => g _ _ (by decide)), by rw [(g 101 0 (by decide)).1]; exact h.2.1, h.2.2.sm hw (fun a k q => g a k (by unfold PMO at q; omega))⟩
theorem IM.mr {σ : Sto} {c : Nat → Nat} {nm : Nat → Int64} {w : Wd} {s : Int32} (h : IM σ c nm w s) : MR σ c := fun k hk => by
  have := h.1.1 k hk
  rw [Nat.mul_zero, Nat.zero_add] at this
  exact this
theorem MB.mr {σ : Sto} {c : Nat → Nat} {nm : Nat → Int64} (h : MR σ c) (hn : ∀ k, vN c k → gl σ 108 k = nm k) : MB σ 0 c nm := ⟨fun j hj => by rw [Nat.mul_zero, Nat.zero_add]; exact h j hj, fun k hk => by rw [Nat.mul_zero, Nat.zero_add]; exact hn k hk⟩
theorem IC.ask {N : Nat} {σ τ : Sto} {c : Nat → Nat} {nm : Nat → Int64} {w : Wd} {s s' : Int32} (h : IC N σ c nm w s) (e : Eo SQ σ τ) (hk : KW N τ c) (hs : gi τ 1 15 = s') : IC N τ c nm w s' := by
  obtain ⟨h1, h2, h3, h4, h5, h6, h7, h8⟩ := h
  have g : ∀ a k, ¬ SQ a k → Sme σ τ a k := fun a k ha => ⟨e.1 a k ha, e.2.1 a k ha⟩
  have hr := h4.1.rg
  refine ⟨h1, h2, h3, hk, ?_, ?_, hs, h8.sm h3 (fun a k q => g a k (by unfold PCO at q; unfold SQ; omega))⟩
  · unfold NWD
    rw [e.2.2, e.2.2]
    exact h5
  · rw [e.2.2]
    exact h6.sm (fun i k hi => g _ _ (by unfold NWD at h5; unfold SQ; omega))
theorem SQlo {σ τ : Sto} (e : Eo SQ σ τ) : ∀ a k, 101 ≤ a → Sme σ τ a k := fun a k ha => ⟨e.1 a k (by unfold SQ; omega), e.2.1 a k (by unfold SQ; omega)⟩
theorem IM.ask {σ τ : Sto} {c : Nat → Nat} {nm : Nat → Int64} {w : Wd} {s s' : Int32} (h : IM σ c nm w s) (ok : OK c) (hw : WW w) (e : Eo SM σ τ) (hs : gi τ 101 0 = s') : IM τ c nm w s' := by
  have g : ∀ a k, ¬ SM a k → Sme σ τ a k := fun a k ha => ⟨e.1 a k ha, e.2.1 a k ha⟩
  exact ⟨h.1.sm ok (fun k _ _ => g _ _ (by unfold SM; omega)) (fun k _ _ => g _ _ (by unfold SM; omega)), hs, h.2.2.sm hw (fun a k q => g a k (by unfold PMO at q; unfold SM; omega))⟩
theorem SMhi {σ τ : Sto} (e : Eo SM σ τ) : Eo (fun a _ => 101 ≤ a) σ τ := e.mo (fun a k q => by unfold SM at q; omega)
theorem inv_ask {N : Nat} {X Y : (Int32 → Sto → Prop) → Sto → Prop} (A : (Nat → Nat) → Int32 × Int32)
    (hX : ∀ c σ P, KW N σ c → OK c → (∀ τ, Eo SQ σ τ → KW N τ c → gi τ 1 15 = (A c).2 → P (A c).1 τ) → X P σ)
    (hY : ∀ c σ P, MR σ c → OK c → gi σ 117 0 = 0 → (∀ τ, Eo SM σ τ → gi τ 101 0 = (A c).2 → P (A c).1 τ) → Y P σ)
    {σ : Sto} (h : INV N σ) {Q : Sto → Prop} (k : ∀ υ, INV N υ → Q υ) : X (fun r σ1 => Y (fun r2 σ2 => if r = r2 then Q σ2 else False) σ1) σ := by
  obtain ⟨c, nm, w, s, hc, hm⟩ := h
  refine hX c σ _ hc.2.2.2.1 hc.1 (fun τ e hk hs => ?_)
  have hc1 := hc.ask e hk hs
  have hm1 := hm.lo hc.1 hc.2.2.1 (SQlo e)
  refine hY c τ _ hm1.mr hc.1 hm1.2.2.2.2.2.2.2.2.2 (fun υ e2 hs2 => ?_)
  rw [if_pos rfl]
  exact k υ ⟨c, nm, w, _, hc1.hi (SMhi e2), hm1.ask hc.1 hc.2.2.1 e2 hs2⟩
theorem inv_askL {N : Nat} {X Y : (Int64 → Sto → Prop) → Sto → Prop} (A : (Nat → Nat) → Int64 × Int32)
    (hX : ∀ c σ P, KW N σ c → OK c → (∀ τ, Eo SQ σ τ → KW N τ c → gi τ 1 15 = (A c).2 → P (A c).1 τ) → X P σ)
    (hY : ∀ c σ P, MR σ c → OK c → (∀ τ, Eo SM σ τ → gi τ 101 0 = (A c).2 → P (A c).1 τ) → Y P σ)
    {σ : Sto} (h : INV N σ) {Q : Sto → Prop} (k : ∀ υ, INV N υ → Q υ) : X (fun r σ1 => Y (fun r2 σ2 => if lg_cmp r r2 = 0 then Q σ2 else False) σ1) σ := by
  obtain ⟨c, nm, w, s, hc, hm⟩ := h
  refine hX c σ _ hc.2.2.2.1 hc.1 (fun τ e hk hs => ?_)
  have hc1 := hc.ask e hk hs
  have hm1 := hm.lo hc.1 hc.2.2.1 (SQlo e)
  refine hY c τ _ hm1.mr hc.1 (fun υ e2 hs2 => ?_)
  rw [if_pos (lg_eq.mpr rfl)]
  exact k υ ⟨c, nm, w, _, hc1.hi (SMhi e2), hm1.ask hc.1 hc.2.2.1 e2 hs2⟩
