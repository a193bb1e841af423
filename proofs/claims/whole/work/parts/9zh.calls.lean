/-! ===== calls keep what holds ===== -/
theorem CO.reT {σ τ : Sto} {w : Wd} {zT : TD} (h : CO σ w) (hw : WW w) (e : ∀ a k, PCO a k → ¬ ((4 ≤ a ∧ a ≤ 9)) → Sme σ τ a k) (nT : TC τ zT) : CO τ (zT, w.2.1, w.2.2.1, w.2.2.2.1, w.2.2.2.2.1, w.2.2.2.2.2.1, w.2.2.2.2.2.2) := by
  obtain ⟨h1, h2, h3, h4, h5, ⟨h6, h7⟩, ⟨h8, h9⟩, h10⟩ := h
  exact ⟨nT, h2.sm (e 10 2 (by unfold PCO; omega) (by omega)) (fun k => e 11 k (by unfold PCO; omega) (by omega)), h3.sm hw.1.1 (e 1 13 (by unfold PCO; omega) (by omega)) (fun a k q1 q2 => e a k (by unfold PCO; omega) (by omega)), h4.sm (e 1 14 (by unfold PCO; omega) (by omega)) (fun k => e 100 k (by unfold PCO; omega) (by omega)), h5.sm (e 93 4 (by unfold PCO; omega) (by omega)) (fun k => e 94 k (by unfold PCO; omega) (by omega)), ⟨((e 1 16 (by unfold PCO; omega) (by omega)).2).trans h6, ((e 1 17 (by unfold PCO; omega) (by omega)).2).trans h7⟩, ⟨((e 1 18 (by unfold PCO; omega) (by omega)).1).trans h8, ((e 1 19 (by unfold PCO; omega) (by omega)).1).trans h9⟩, h10.sm (fun k => e 12 k (by unfold PCO; omega) (by omega))⟩
theorem MO.reT {σ τ : Sto} {w : Wd} {zT : TD} (h : MO σ w) (hw : WW w) (e : ∀ a k, PMO a k → ¬ ((102 ≤ a ∧ a ≤ 104)) → Sme σ τ a k) (nT : TM τ zT) : MO τ (zT, w.2.1, w.2.2.1, w.2.2.2.1, w.2.2.2.2.1, w.2.2.2.2.2.1, w.2.2.2.2.2.2) := by
  obtain ⟨h1, h2, h3, h4, h5, ⟨h6, h7⟩, ⟨h8, h9⟩, h10⟩ := h
  exact ⟨nT, h2.sm (e 101 8 (by unfold PMO; omega) (by omega)) (fun k => e 105 k (by unfold PMO; omega) (by omega)), h3.sm hw.1 (e 101 23 (by unfold PMO; omega) (by omega)) (fun k q1 q2 => e 106 k (by unfold PMO; omega) (by omega)) (fun k q1 q2 => e 108 k (by unfold PMO; omega) (by omega)), h4.sm (e 101 39 (by unfold PMO; omega) (by omega)) (fun k => e 118 k (by unfold PMO; omega) (by omega)), h5.sm (e 101 31 (by unfold PMO; omega) (by omega)) (fun k => e 113 k (by unfold PMO; omega) (by omega)), ⟨((e 101 2 (by unfold PMO; omega) (by omega)).2).trans h6, ((e 101 3 (by unfold PMO; omega) (by omega)).2).trans h7⟩, ⟨((e 101 10 (by unfold PMO; omega) (by omega)).1).trans h8, ((e 101 11 (by unfold PMO; omega) (by omega)).1).trans h9⟩, ((e 117 0 (by unfold PMO; omega) (by omega)).1).trans h10⟩
theorem CO.reP {σ τ : Sto} {w : Wd} {zP : NFt} (h : CO σ w) (hw : WW w) (e : ∀ a k, PCO a k → ¬ ((a = 11 ∨ (a = 10 ∧ k = 2))) → Sme σ τ a k) (nP : PC τ zP.1 zP.2) : CO τ (w.1, zP, w.2.2.1, w.2.2.2.1, w.2.2.2.2.1, w.2.2.2.2.2.1, w.2.2.2.2.2.2) := by
  obtain ⟨h1, h2, h3, h4, h5, ⟨h6, h7⟩, ⟨h8, h9⟩, h10⟩ := h
  exact ⟨h1.sm (fun a k q1 q2 => e a k (by unfold PCO; omega) (by omega)), nP, h3.sm hw.1.1 (e 1 13 (by unfold PCO; omega) (by omega)) (fun a k q1 q2 => e a k (by unfold PCO; omega) (by omega)), h4.sm (e 1 14 (by unfold PCO; omega) (by omega)) (fun k => e 100 k (by unfold PCO; omega) (by omega)), h5.sm (e 93 4 (by unfold PCO; omega) (by omega)) (fun k => e 94 k (by unfold PCO; omega) (by omega)), ⟨((e 1 16 (by unfold PCO; omega) (by omega)).2).trans h6, ((e 1 17 (by unfold PCO; omega) (by omega)).2).trans h7⟩, ⟨((e 1 18 (by unfold PCO; omega) (by omega)).1).trans h8, ((e 1 19 (by unfold PCO; omega) (by omega)).1).trans h9⟩, h10.sm (fun k => e 12 k (by unfold PCO; omega) (by omega))⟩
theorem MO.reP {σ τ : Sto} {w : Wd} {zP : NFt} (h : MO σ w) (hw : WW w) (e : ∀ a k, PMO a k → ¬ ((a = 105 ∨ (a = 101 ∧ k = 8))) → Sme σ τ a k) (nP : PM τ zP.1 zP.2) : MO τ (w.1, zP, w.2.2.1, w.2.2.2.1, w.2.2.2.2.1, w.2.2.2.2.2.1, w.2.2.2.2.2.2) := by
  obtain ⟨h1, h2, h3, h4, h5, ⟨h6, h7⟩, ⟨h8, h9⟩, h10⟩ := h
  exact ⟨h1.sm (fun a k q1 q2 => e a k (by unfold PMO; omega) (by omega)), nP, h3.sm hw.1 (e 101 23 (by unfold PMO; omega) (by omega)) (fun k q1 q2 => e 106 k (by unfold PMO; omega) (by omega)) (fun k q1 q2 => e 108 k (by unfold PMO; omega) (by omega)), h4.sm (e 101 39 (by unfold PMO; omega) (by omega)) (fun k => e 118 k (by unfold PMO; omega) (by omega)), h5.sm (e 101 31 (by unfold PMO; omega) (by omega)) (fun k => e 113 k (by unfold PMO; omega) (by omega)), ⟨((e 101 2 (by unfold PMO; omega) (by omega)).2).trans h6, ((e 101 3 (by unfold PMO; omega) (by omega)).2).trans h7⟩, ⟨((e 101 10 (by unfold PMO; omega) (by omega)).1).trans h8, ((e 101 11 (by unfold PMO; omega) (by omega)).1).trans h9⟩, ((e 117 0 (by unfold PMO; omega) (by omega)).1).trans h10⟩
theorem CO.reK {σ τ : Sto} {w : Wd} {zK : MKt} (h : CO σ w) (hw : WW w) (e : ∀ a k, PCO a k → ¬ (((a = 1 ∧ k = 13) ∨ (45 ≤ a ∧ a ≤ 86))) → Sme σ τ a k) (nK : MKC τ zK) : CO τ (w.1, w.2.1, zK, w.2.2.2.1, w.2.2.2.2.1, w.2.2.2.2.2.1, w.2.2.2.2.2.2) := by
  obtain ⟨h1, h2, h3, h4, h5, ⟨h6, h7⟩, ⟨h8, h9⟩, h10⟩ := h
  exact ⟨h1.sm (fun a k q1 q2 => e a k (by unfold PCO; omega) (by omega)), h2.sm (e 10 2 (by unfold PCO; omega) (by omega)) (fun k => e 11 k (by unfold PCO; omega) (by omega)), nK, h4.sm (e 1 14 (by unfold PCO; omega) (by omega)) (fun k => e 100 k (by unfold PCO; omega) (by omega)), h5.sm (e 93 4 (by unfold PCO; omega) (by omega)) (fun k => e 94 k (by unfold PCO; omega) (by omega)), ⟨((e 1 16 (by unfold PCO; omega) (by omega)).2).trans h6, ((e 1 17 (by unfold PCO; omega) (by omega)).2).trans h7⟩, ⟨((e 1 18 (by unfold PCO; omega) (by omega)).1).trans h8, ((e 1 19 (by unfold PCO; omega) (by omega)).1).trans h9⟩, h10.sm (fun k => e 12 k (by unfold PCO; omega) (by omega))⟩
theorem MO.reK {σ τ : Sto} {w : Wd} {zK : MKt} (h : MO σ w) (hw : WW w) (e : ∀ a k, PMO a k → ¬ (((a = 101 ∧ k = 23) ∨ (a = 106 ∧ 421 ≤ k ∧ k < 1684) ∨ (a = 108 ∧ 24 ≤ k ∧ k < 96))) → Sme σ τ a k) (nK : MKM τ zK) : MO τ (w.1, w.2.1, zK, w.2.2.2.1, w.2.2.2.2.1, w.2.2.2.2.2.1, w.2.2.2.2.2.2) := by
  obtain ⟨h1, h2, h3, h4, h5, ⟨h6, h7⟩, ⟨h8, h9⟩, h10⟩ := h
  exact ⟨h1.sm (fun a k q1 q2 => e a k (by unfold PMO; omega) (by omega)), h2.sm (e 101 8 (by unfold PMO; omega) (by omega)) (fun k => e 105 k (by unfold PMO; omega) (by omega)), nK, h4.sm (e 101 39 (by unfold PMO; omega) (by omega)) (fun k => e 118 k (by unfold PMO; omega) (by omega)), h5.sm (e 101 31 (by unfold PMO; omega) (by omega)) (fun k => e 113 k (by unfold PMO; omega) (by omega)), ⟨((e 101 2 (by unfold PMO; omega) (by omega)).2).trans h6, ((e 101 3 (by unfold PMO; omega) (by omega)).2).trans h7⟩, ⟨((e 101 10 (by unfold PMO; omega) (by omega)).1).trans h8, ((e 101 11 (by unfold PMO; omega) (by omega)).1).trans h9⟩, ((e 117 0 (by unfold PMO; omega) (by omega)).1).trans h10⟩
theorem CO.reL {σ τ : Sto} {w : Wd} {zL : NFt} (h : CO σ w) (hw : WW w) (e : ∀ a k, PCO a k → ¬ (((a = 1 ∧ k = 14) ∨ a = 100)) → Sme σ τ a k) (nL : TLC τ zL) : CO τ (w.1, w.2.1, w.2.2.1, zL, w.2.2.2.2.1, w.2.2.2.2.2.1, w.2.2.2.2.2.2) := by
  obtain ⟨h1, h2, h3, h4, h5, ⟨h6, h7⟩, ⟨h8, h9⟩, h10⟩ := h
  exact ⟨h1.sm (fun a k q1 q2 => e a k (by unfold PCO; omega) (by omega)), h2.sm (e 10 2 (by unfold PCO; omega) (by omega)) (fun k => e 11 k (by unfold PCO; omega) (by omega)), h3.sm hw.1.1 (e 1 13 (by unfold PCO; omega) (by omega)) (fun a k q1 q2 => e a k (by unfold PCO; omega) (by omega)), nL, h5.sm (e 93 4 (by unfold PCO; omega) (by omega)) (fun k => e 94 k (by unfold PCO; omega) (by omega)), ⟨((e 1 16 (by unfold PCO; omega) (by omega)).2).trans h6, ((e 1 17 (by unfold PCO; omega) (by omega)).2).trans h7⟩, ⟨((e 1 18 (by unfold PCO; omega) (by omega)).1).trans h8, ((e 1 19 (by unfold PCO; omega) (by omega)).1).trans h9⟩, h10.sm (fun k => e 12 k (by unfold PCO; omega) (by omega))⟩
theorem MO.reL {σ τ : Sto} {w : Wd} {zL : NFt} (h : MO σ w) (hw : WW w) (e : ∀ a k, PMO a k → ¬ (((a = 101 ∧ k = 39) ∨ a = 118)) → Sme σ τ a k) (nL : TLM τ zL) : MO τ (w.1, w.2.1, w.2.2.1, zL, w.2.2.2.2.1, w.2.2.2.2.2.1, w.2.2.2.2.2.2) := by
  obtain ⟨h1, h2, h3, h4, h5, ⟨h6, h7⟩, ⟨h8, h9⟩, h10⟩ := h
  exact ⟨h1.sm (fun a k q1 q2 => e a k (by unfold PMO; omega) (by omega)), h2.sm (e 101 8 (by unfold PMO; omega) (by omega)) (fun k => e 105 k (by unfold PMO; omega) (by omega)), h3.sm hw.1 (e 101 23 (by unfold PMO; omega) (by omega)) (fun k q1 q2 => e 106 k (by unfold PMO; omega) (by omega)) (fun k q1 q2 => e 108 k (by unfold PMO; omega) (by omega)), nL, h5.sm (e 101 31 (by unfold PMO; omega) (by omega)) (fun k => e 113 k (by unfold PMO; omega) (by omega)), ⟨((e 101 2 (by unfold PMO; omega) (by omega)).2).trans h6, ((e 101 3 (by unfold PMO; omega) (by omega)).2).trans h7⟩, ⟨((e 101 10 (by unfold PMO; omega) (by omega)).1).trans h8, ((e 101 11 (by unfold PMO; omega) (by omega)).1).trans h9⟩, ((e 117 0 (by unfold PMO; omega) (by omega)).1).trans h10⟩
theorem CO.reA {σ τ : Sto} {w : Wd} {zA : NFt} (h : CO σ w) (hw : WW w) (e : ∀ a k, PCO a k → ¬ (((a = 93 ∧ k = 4) ∨ a = 94)) → Sme σ τ a k) (nA : AGC τ zA) : CO τ (w.1, w.2.1, w.2.2.1, w.2.2.2.1, zA, w.2.2.2.2.2.1, w.2.2.2.2.2.2) := by
  obtain ⟨h1, h2, h3, h4, h5, ⟨h6, h7⟩, ⟨h8, h9⟩, h10⟩ := h
  exact ⟨h1.sm (fun a k q1 q2 => e a k (by unfold PCO; omega) (by omega)), h2.sm (e 10 2 (by unfold PCO; omega) (by omega)) (fun k => e 11 k (by unfold PCO; omega) (by omega)), h3.sm hw.1.1 (e 1 13 (by unfold PCO; omega) (by omega)) (fun a k q1 q2 => e a k (by unfold PCO; omega) (by omega)), h4.sm (e 1 14 (by unfold PCO; omega) (by omega)) (fun k => e 100 k (by unfold PCO; omega) (by omega)), nA, ⟨((e 1 16 (by unfold PCO; omega) (by omega)).2).trans h6, ((e 1 17 (by unfold PCO; omega) (by omega)).2).trans h7⟩, ⟨((e 1 18 (by unfold PCO; omega) (by omega)).1).trans h8, ((e 1 19 (by unfold PCO; omega) (by omega)).1).trans h9⟩, h10.sm (fun k => e 12 k (by unfold PCO; omega) (by omega))⟩
theorem MO.reA {σ τ : Sto} {w : Wd} {zA : NFt} (h : MO σ w) (hw : WW w) (e : ∀ a k, PMO a k → ¬ (((a = 101 ∧ k = 31) ∨ a = 113)) → Sme σ τ a k) (nA : AGM τ zA) : MO τ (w.1, w.2.1, w.2.2.1, w.2.2.2.1, zA, w.2.2.2.2.2.1, w.2.2.2.2.2.2) := by
  obtain ⟨h1, h2, h3, h4, h5, ⟨h6, h7⟩, ⟨h8, h9⟩, h10⟩ := h
  exact ⟨h1.sm (fun a k q1 q2 => e a k (by unfold PMO; omega) (by omega)), h2.sm (e 101 8 (by unfold PMO; omega) (by omega)) (fun k => e 105 k (by unfold PMO; omega) (by omega)), h3.sm hw.1 (e 101 23 (by unfold PMO; omega) (by omega)) (fun k q1 q2 => e 106 k (by unfold PMO; omega) (by omega)) (fun k q1 q2 => e 108 k (by unfold PMO; omega) (by omega)), h4.sm (e 101 39 (by unfold PMO; omega) (by omega)) (fun k => e 118 k (by unfold PMO; omega) (by omega)), nA, ⟨((e 101 2 (by unfold PMO; omega) (by omega)).2).trans h6, ((e 101 3 (by unfold PMO; omega) (by omega)).2).trans h7⟩, ⟨((e 101 10 (by unfold PMO; omega) (by omega)).1).trans h8, ((e 101 11 (by unfold PMO; omega) (by omega)).1).trans h9⟩, ((e 117 0 (by unfold PMO; omega) (by omega)).1).trans h10⟩
theorem CO.reF {σ τ : Sto} {w : Wd} {zF : Int64 × Int64} (h : CO σ w) (hw : WW w) (e : ∀ a k, PCO a k → ¬ ((a = 1 ∧ (k = 16 ∨ k = 17))) → Sme σ τ a k) (nF : gl τ 1 16 = zF.1 ∧ gl τ 1 17 = zF.2) : CO τ (w.1, w.2.1, w.2.2.1, w.2.2.2.1, w.2.2.2.2.1, zF, w.2.2.2.2.2.2) := by
  obtain ⟨h1, h2, h3, h4, h5, ⟨h6, h7⟩, ⟨h8, h9⟩, h10⟩ := h
  exact ⟨h1.sm (fun a k q1 q2 => e a k (by unfold PCO; omega) (by omega)), h2.sm (e 10 2 (by unfold PCO; omega) (by omega)) (fun k => e 11 k (by unfold PCO; omega) (by omega)), h3.sm hw.1.1 (e 1 13 (by unfold PCO; omega) (by omega)) (fun a k q1 q2 => e a k (by unfold PCO; omega) (by omega)), h4.sm (e 1 14 (by unfold PCO; omega) (by omega)) (fun k => e 100 k (by unfold PCO; omega) (by omega)), h5.sm (e 93 4 (by unfold PCO; omega) (by omega)) (fun k => e 94 k (by unfold PCO; omega) (by omega)), nF, ⟨((e 1 18 (by unfold PCO; omega) (by omega)).1).trans h8, ((e 1 19 (by unfold PCO; omega) (by omega)).1).trans h9⟩, h10.sm (fun k => e 12 k (by unfold PCO; omega) (by omega))⟩
theorem MO.reF {σ τ : Sto} {w : Wd} {zF : Int64 × Int64} (h : MO σ w) (hw : WW w) (e : ∀ a k, PMO a k → ¬ ((a = 101 ∧ (k = 2 ∨ k = 3))) → Sme σ τ a k) (nF : gl τ 101 2 = zF.1 ∧ gl τ 101 3 = zF.2) : MO τ (w.1, w.2.1, w.2.2.1, w.2.2.2.1, w.2.2.2.2.1, zF, w.2.2.2.2.2.2) := by
  obtain ⟨h1, h2, h3, h4, h5, ⟨h6, h7⟩, ⟨h8, h9⟩, h10⟩ := h
  exact ⟨h1.sm (fun a k q1 q2 => e a k (by unfold PMO; omega) (by omega)), h2.sm (e 101 8 (by unfold PMO; omega) (by omega)) (fun k => e 105 k (by unfold PMO; omega) (by omega)), h3.sm hw.1 (e 101 23 (by unfold PMO; omega) (by omega)) (fun k q1 q2 => e 106 k (by unfold PMO; omega) (by omega)) (fun k q1 q2 => e 108 k (by unfold PMO; omega) (by omega)), h4.sm (e 101 39 (by unfold PMO; omega) (by omega)) (fun k => e 118 k (by unfold PMO; omega) (by omega)), h5.sm (e 101 31 (by unfold PMO; omega) (by omega)) (fun k => e 113 k (by unfold PMO; omega) (by omega)), nF, ⟨((e 101 10 (by unfold PMO; omega) (by omega)).1).trans h8, ((e 101 11 (by unfold PMO; omega) (by omega)).1).trans h9⟩, ((e 117 0 (by unfold PMO; omega) (by omega)).1).trans h10⟩
theorem CO.rePX {σ τ : Sto} {w : Wd} {zP : NFt} {zX : Int32 × Int32} (h : CO σ w) (hw : WW w) (e : ∀ a k, PCO a k → ¬ ((a = 11 ∨ (a = 10 ∧ k = 2)) ∨ (a = 1 ∧ (k = 18 ∨ k = 19))) → Sme σ τ a k) (nP : PC τ zP.1 zP.2) (nX : gi τ 1 18 = zX.1 ∧ gi τ 1 19 = zX.2) : CO τ (w.1, zP, w.2.2.1, w.2.2.2.1, w.2.2.2.2.1, w.2.2.2.2.2.1, zX) := by
  obtain ⟨h1, h2, h3, h4, h5, ⟨h6, h7⟩, ⟨h8, h9⟩, h10⟩ := h
  exact ⟨h1.sm (fun a k q1 q2 => e a k (by unfold PCO; omega) (by omega)), nP, h3.sm hw.1.1 (e 1 13 (by unfold PCO; omega) (by omega)) (fun a k q1 q2 => e a k (by unfold PCO; omega) (by omega)), h4.sm (e 1 14 (by unfold PCO; omega) (by omega)) (fun k => e 100 k (by unfold PCO; omega) (by omega)), h5.sm (e 93 4 (by unfold PCO; omega) (by omega)) (fun k => e 94 k (by unfold PCO; omega) (by omega)), ⟨((e 1 16 (by unfold PCO; omega) (by omega)).2).trans h6, ((e 1 17 (by unfold PCO; omega) (by omega)).2).trans h7⟩, nX, h10.sm (fun k => e 12 k (by unfold PCO; omega) (by omega))⟩
theorem MO.rePX {σ τ : Sto} {w : Wd} {zP : NFt} {zX : Int32 × Int32} (h : MO σ w) (hw : WW w) (e : ∀ a k, PMO a k → ¬ ((a = 105 ∨ (a = 101 ∧ k = 8)) ∨ (a = 101 ∧ (k = 10 ∨ k = 11))) → Sme σ τ a k) (nP : PM τ zP.1 zP.2) (nX : gi τ 101 10 = zX.1 ∧ gi τ 101 11 = zX.2) : MO τ (w.1, zP, w.2.2.1, w.2.2.2.1, w.2.2.2.2.1, w.2.2.2.2.2.1, zX) := by
  obtain ⟨h1, h2, h3, h4, h5, ⟨h6, h7⟩, ⟨h8, h9⟩, h10⟩ := h
  exact ⟨h1.sm (fun a k q1 q2 => e a k (by unfold PMO; omega) (by omega)), nP, h3.sm hw.1 (e 101 23 (by unfold PMO; omega) (by omega)) (fun k q1 q2 => e 106 k (by unfold PMO; omega) (by omega)) (fun k q1 q2 => e 108 k (by unfold PMO; omega) (by omega)), h4.sm (e 101 39 (by unfold PMO; omega) (by omega)) (fun k => e 118 k (by unfold PMO; omega) (by omega)), h5.sm (e 101 31 (by unfold PMO; omega) (by omega)) (fun k => e 113 k (by unfold PMO; omega) (by omega)), ⟨((e 101 2 (by unfold PMO; omega) (by omega)).2).trans h6, ((e 101 3 (by unfold PMO; omega) (by omega)).2).trans h7⟩, nX, ((e 117 0 (by unfold PMO; omega) (by omega)).1).trans h10⟩
/-- the class goes over to a city of the same names and centuries -/
theorem IC.re {N M : Nat} {σ τ : Sto} {c d : Nat → Nat} {nm : Nat → Int64} {w w' : Wd} {s s' : Int32} (h : IC N σ c nm w s) (r : ∀ a k, gr τ a k = gr σ a k) (ok : OK d) (kw : KW M τ d) (kp : d 0 = c 0 ∧ d 2 = c 2 ∧ d 3 = c 3 ∧ ∀ j, 142 ≤ j → d j = c j)
    (en : ∀ k, gl τ (gr σ 1 11 + 1) k = gl σ (gr σ 1 11 + 1) k) (el : ∀ i k, 8 ≤ i → i ≤ 13 → gi τ (gr σ 1 11 + i) k = gi σ (gr σ 1 11 + i) k) (hw : WW w') (co : CO τ w') (hs : gi τ 1 15 = s') : IC M τ d nm w' s' := by
  obtain ⟨h1, h2, h3, h4, h5, h6, h7, h8⟩ := h
  have hcr := kw.cr
  rw [r 1 11] at hcr
  refine ⟨ok, h2.cg kp.1 kp.2.1 kp.2.2.1, hw, kw, ?_, ?_, hs, co⟩
  · unfold NWD
    rw [r, r]
    exact h5
  · rw [r]
    refine ⟨hcr, fun k hk => by rw [en]; exact h6.2.1 k hk, ?_⟩
    obtain ⟨q1, q2, q3, q4, ln, q5, q6, q7⟩ := h6.2.2
    have e8 : ∀ i k, i ≤ 5 → gi τ (gr σ 1 11 + 8 + i) k = gi σ (gr σ 1 11 + 8 + i) k := fun i k hi => by
      rw [Nat.add_assoc]; exact el (8 + i) k (by omega) (by omega)
    have e0 := fun k => el 8 k (by decide) (by decide)
    refine ⟨by rw [e0, kp.2.2.2 142 (by decide)]; exact q1, by rw [kp.2.2.2 142 (by decide)]; exact q2, by rw [e0, kp.2.2.2 143 (by decide)]; exact q3, by rw [kp.2.2.2 143 (by decide)]; exact q4, ln, by rw [e0]; exact q5, q6, ?_⟩
    rw [kp.2.2.2 143 (by decide)]
    have q8 := Lay.cc (c' := d) kp.1 kp.2.1 (fun k hk => kp.2.2.2 k (by omega)) _ _ _ _ _ _ q7
    exact Lay.cg (fun k hk => ⟨e8 1 k (by decide), e8 2 k (by decide), e8 3 k (by decide), e8 4 k (by decide), e8 5 k (by decide)⟩) _ _ _ _ _ _ q8
theorem IM.re {σ τ : Sto} {c d : Nat → Nat} {nm : Nat → Int64} {w w' : Wd} {s s' : Int32} (h : IM σ c nm w s) (mr : MR τ d) (kp : d 0 = c 0 ∧ d 2 = c 2 ∧ d 3 = c 3 ∧ ∀ j, 142 ≤ j → d j = c j) (en : ∀ k, gl τ 108 k = gl σ 108 k) (mo : MO τ w') (hs : gi τ 101 0 = s') : IM τ d nm w' s' := by
  refine ⟨MB.mr mr (fun k hk => ?_), hs, mo⟩
  rw [en]
  have := h.1.2 k (by unfold vN at hk ⊢; rw [kp.1, kp.2.1, kp.2.2.1] at hk; exact hk)
  rw [Nat.mul_zero, Nat.zero_add] at this
  exact this
def KP (c d : Nat → Nat) : Prop := d 0 = c 0 ∧ d 2 = c 2 ∧ d 3 = c 3 ∧ ∀ j, 142 ≤ j → d j = c j
theorem if_p2 {α : Type} {P : α → Prop} {p : Prop} {_ : Decidable p} {x y : α} (h1 : p → P x) (h2 : ¬ p → P y) : P (if p then x else y) := by
  by_cases h : p
  · rw [if_pos h]; exact h1 h
  · rw [if_neg h]; exact h2 h
theorem KP.rf {c : Nat → Nat} : KP c c := ⟨rfl, rfl, rfl, fun _ _ => rfl⟩
theorem KP.up {c d : Nat → Nat} {k v : Nat} (h : KP c d) (hk : 4 ≤ k ∧ k < 142) : KP c (updC d k v) := by
  have g : ∀ j, j ≠ k → updC d k v j = d j := fun j hj => if_neg hj
  exact ⟨(g 0 (by omega)).trans h.1, (g 2 (by omega)).trans h.2.1, (g 3 (by omega)).trans h.2.2.1, fun j hj => (g j (by omega)).trans (h.2.2.2 j hj)⟩
theorem unmake_KP {c : Nat → Nat} {x : Int32} : KP c (unmakeA c x).2.2 := by
  unfold unmakeA
  exact if_p2 (P := fun z : Int32 × Int32 × (Nat → Nat) => KP c z.2.2) (fun _ => if_p2 (P := fun z : Int32 × Int32 × (Nat → Nat) => KP c z.2.2) (fun _ => KP.rf) (fun _ => KP.rf.up (by decide))) (fun _ => KP.rf)
theorem remake_KP {c : Nat → Nat} {x : Int32} : KP c (remakeA c x).2.2 := by
  unfold remakeA
  exact if_p2 (P := fun z : Int32 × Int32 × (Nat → Nat) => KP c z.2.2) (fun _ => if_p2 (P := fun z : Int32 × Int32 × (Nat → Nat) => KP c z.2.2) (fun _ => KP.rf.up (by decide)) (fun _ => KP.rf)) (fun _ => KP.rf)
theorem exempt_KP {c : Nat → Nat} {x : Int32} {b : Bool} : KP c (exemptA c x b).2.2 := by
  unfold exemptA
  exact if_p2 (P := fun z : Int32 × Int32 × (Nat → Nat) => KP c z.2.2) (fun _ => if_p2 (P := fun z : Int32 × Int32 × (Nat → Nat) => KP c z.2.2) (fun _ => KP.rf) (fun _ => KP.rf.up (by decide))) (fun _ => KP.rf)
theorem rule_KP {c : Nat → Nat} {x : Int32} : KP c (ruleA c x).2.2 := by
  unfold ruleA
  exact if_p2 (P := fun z : Int32 × Int32 × (Nat → Nat) => KP c z.2.2) (fun _ => KP.rf.up (by decide)) (fun _ => KP.rf)
theorem grudge_KP {c : Nat → Nat} (ok : OK c) {x y z : Int32} : KP c (grudgeA c x y z).2.2 := by
  unfold grudgeA
  refine if_p2 (P := fun z : Int32 × Int32 × (Nat → Nat) => KP c z.2.2) (fun p => if_p2 (P := fun z : Int32 × Int32 × (Nat → Nat) => KP c z.2.2) (fun q => if_p2 (P := fun z : Int32 × Int32 × (Nat → Nat) => KP c z.2.2) (fun _ => ?_) (fun _ => KP.rf)) (fun _ => KP.rf)) (fun _ => KP.rf)
  have := ok.n3
  have := ok.n0
  obtain ⟨n1, hn, hn2⟩ := (inD_iff (N := c 3) (by omega)).mpr p
  obtain ⟨m1, hm, hm2⟩ := (inD_iff (N := c 0) (by omega)).mpr q
  have e1 : tn x = n1 := by rw [hn2]; exact tn_nI (by omega)
  have e2 : tn y = m1 := by rw [hm2]; exact tn_nI (by omega)
  exact KP.rf.up (by rw [e1, e2]; omega)
theorem year_KP {c : Nat → Nat} {x : Int32} : KP c (yearA c x).2.2 := by
  unfold yearA
  exact if_p2 (P := fun z : Int32 × Int32 × (Nat → Nat) => KP c z.2.2) (fun _ => if_p2 (P := fun z : Int32 × Int32 × (Nat → Nat) => KP c z.2.2) (fun _ => (KP.rf.up (by decide)).up (by decide)) (fun _ => KP.rf)) (fun _ => KP.rf)
theorem inv_deed {N M : Nat} {X Y : (Int32 → Sto → Prop) → Sto → Prop} (A : (Nat → Nat) → Int32 × Int32 × (Nat → Nat)) (S1 : Nat → Nat → Nat → Prop) (S2 : Nat → Nat → Prop) (hS1 : ∀ a b k, S1 a b k → SQ b k ∨ (b = a ∧ 12 ≤ k ∧ k ≤ 15) ∨ b = a + 6 ∨ (b = 90 ∧ k = 4)) (hS2 : ∀ a k, S2 a k → SM a k ∨ (a = 106 ∧ k < 130))
    (hok : ∀ c, OK c → OK (A c).2.2) (hkp : ∀ c, OK c → KP c (A c).2.2)
    (hX : ∀ c σ P, KW N σ c → OK c → (∀ τ, Eo (S1 (gr σ 1 11)) σ τ → KW M τ (A c).2.2 → gi τ 1 15 = (A c).2.1 → P (A c).1 τ) → X P σ)
    (hY : ∀ c σ P, MR σ c → OK c → (∀ τ, Eo S2 σ τ → MR τ (A c).2.2 → gi τ 101 0 = (A c).2.1 → P (A c).1 τ) → Y P σ)
    {σ : Sto} (h : INV N σ) {Q : Sto → Prop} (k : ∀ υ, INV M υ → Q υ) : X (fun r σ1 => Y (fun r2 σ2 => if r = r2 then Q σ2 else False) σ1) σ := by
  obtain ⟨c, nm, w, s, hc, hm⟩ := h
  refine hX c σ _ hc.2.2.2.1 hc.1 (fun τ e hk hs => ?_)
  have hnw := hc.2.2.2.2.1
  have g : ∀ a k, ¬ S1 (gr σ 1 11) a k → Sme σ τ a k := fun a k ha => ⟨e.1 a k ha, e.2.1 a k ha⟩
  have gg : ∀ a k, ¬ (SQ a k ∨ (a = gr σ 1 11 ∧ 12 ≤ k ∧ k ≤ 15) ∨ a = gr σ 1 11 + 6 ∨ (a = 90 ∧ k = 4)) → Sme σ τ a k := fun a k ha => g a k (fun q => ha (hS1 _ _ _ q))
  have hc1 : IC M τ (A c).2.2 nm w (A c).2.1 := hc.re e.2.2 (hok c hc.1) hk (hkp c hc.1)
    (fun k => (gg _ _ (by unfold NWD at hnw; unfold SQ; omega)).2) (fun i k h8 h13 => (gg _ _ (by unfold NWD at hnw; unfold SQ; omega)).1) hc.2.2.1
    (hc.2.2.2.2.2.2.2.sm hc.2.2.1 (fun a k q => gg a k (by unfold PCO at q; unfold NWD at hnw; unfold SQ; omega))) hs
  have hm1 := hm.lo hc.1 hc.2.2.1 (fun a k ha => gg a k (by unfold NWD at hnw; unfold SQ; omega))
  refine hY c τ _ hm1.mr hc.1 (fun υ e2 hr2 hs2 => ?_)
  rw [if_pos rfl]
  have g2 : ∀ a k, ¬ (SM a k ∨ (a = 106 ∧ k < 130)) → Sme τ υ a k := fun a k ha => ⟨e2.1 a k (fun q => ha (hS2 _ _ q)), e2.2.1 a k (fun q => ha (hS2 _ _ q))⟩
  refine k υ ⟨(A c).2.2, nm, w, _, hc1.hi (e2.mo (fun a k q => by have := hS2 _ _ q; unfold SM at this; omega)), hm1.re hr2 (hkp c hc.1) (fun k => (g2 _ _ (by unfold SM; omega)).2) (hm1.2.2.sm hc.2.2.1 (fun a k q => g2 a k (by unfold PMO at q; unfold SM; omega))) hs2⟩
