/-! ===== all that answers about the city asks another, or the same changed ===== -/
def STP (N : Nat) (σ : Sto) : Prop := (∃ s, 1 ≤ s ∧ s ≤ N ∧ gi σ 88 3 = nI s ∧ ∀ g, g < 4096 → ∃ v, gi σ 89 g = nI v ∧ v / 4096 ≤ s) ∧ ∃ b, 1 ≤ b ∧ b ≤ N ∧ gi σ 90 4 = nI b ∧ ∀ o, o < 4096 → ∃ v, gi σ 91 o = nI v ∧ v / 16 ≤ b
theorem KW.stp {N : Nat} {σ : Sto} {c : Nat → Nat} (h : KW N σ c) : STP N σ := by
  obtain ⟨-, -, -, -, -, -, ⟨-, -, -, s, s1, s2, s3, s4⟩, -, b, b1, b2, b3, b4⟩ := h
  refine ⟨⟨s, s1, s2, s3, fun g hg => ?_⟩, b, b1, b2, b3, fun o ho => ?_⟩
  · obtain ⟨v, v1, v2, -⟩ := s4 g hg
    exact ⟨v, v1, v2⟩
  · obtain ⟨v, v1, v2, -⟩ := b4 o ho
    exact ⟨v, v1, v2⟩
theorem STP.eo {N : Nat} {σ τ : Sto} (h : STP N σ) (e : ∀ a k, (a = 88 ∨ a = 89 ∨ a = 90 ∨ a = 91) → gi τ a k = gi σ a k) : STP N τ := by
  obtain ⟨⟨s, s1, s2, s3, s4⟩, b, b1, b2, b3, b4⟩ := h
  exact ⟨⟨s, s1, s2, by rw [e _ _ (by omega)]; exact s3, fun g hg => by rw [e _ _ (by omega)]; exact s4 g hg⟩, b, b1, b2, by rw [e _ _ (by omega)]; exact b3, fun o ho => by rw [e _ _ (by omega)]; exact b4 o ho⟩
def isRf (a k : Nat) : Prop := (a = 88 ∧ k = 1) ∨ (a = 90 ∧ k = 3) ∨ (a = 93 ∧ k = 5) ∨ (a = 95 ∧ k = 3) ∨ (a = 97 ∧ k = 4)
def STn (a k : Nat) : Prop := (a = 88 ∧ (k = 2 ∨ k = 3)) ∨ (a = 90 ∧ k = 4)
theorem gr_sr_s {σ : Sto} {a k v : Nat} : gr (sr σ a k v) a k = v := by simp [gr_sr]
theorem gr_sr_n {σ : Sto} {a k b j v : Nat} (h : ¬ (b = a ∧ j = k)) : gr (sr σ a k v) b j = gr σ b j := by simp [gr_sr, h]
theorem c_turnToNow {σ : Sto} {c : Nat → Nat} {P : Sto → Prop} {N : Nat} (hc : isCity (gr σ 1 11)) (hr : CR σ (gr σ 1 11) c) (ok : OK c) (hs : STP N σ) (hN : N ≤ 2000)
    (k : ∀ τ, (∀ a j, ¬ STn a j → gi τ a j = gi σ a j) → (∀ a j, gl τ a j = gl σ a j) → (∀ a j, ¬ isRf a j → gr τ a j = gr σ a j) → (∀ a j, isRf a j → gr τ a j = gr σ 1 11) → KW (N + 1) τ c → P τ) : w_X11_turnToNow σ P := by
  have n0 := ok.n0
  have n1 := ok.n1
  obtain ⟨⟨s, s1, s2, s3, s4⟩, b, b1, b2, b3, b4⟩ := hs
  have hrg := hc.rg
  have h9 : gi σ (gr σ 1 11) 9 = nI (c 1) := hr.1 1 (by decide)
  unfold w_X11_turnToNow w_X6_turnTo
  refine ⟨hc, hc, ?_⟩
  rintro σ2 rfl
  refine Lp_for (c 1) (fun j q => q.1 = nI j ∧ (∀ a i, ¬ STn a i → gi q.2 a i = gi σ a i) ∧ (∀ a i, gl q.2 a i = gl σ a i) ∧ (∀ a i, ¬ (a = 88 ∧ i = 1) → gr q.2 a i = gr σ a i) ∧ gr q.2 88 1 = gr σ 1 11 ∧ gi q.2 88 3 = nI (s + 1) ∧ gi q.2 90 4 = nI b ∧ gi q.2 88 2 = nI (foldN (fun s m => s ||| 2 ^ c (20 + m)) 0 j)) ⟨rfl, fun a i hx => ?_, fun _ _ => rfl, fun a i hx => ?_, ?_, ?_, ?_, ?_⟩ ?_ ?_
  · dsimp only
    rw [gi_si, if_neg (fun q => hx (by unfold STn; omega)), gi_si, if_neg (fun q => hx (by unfold STn; omega)), gi_sr]
  · dsimp only
    rw [gr_si, gr_si, gr_sr_n hx]
  · dsimp only
    rw [gr_si, gr_si, gr_sr_s]
  · dsimp only
    rw [gi_si_k (by decide), gi_si_s, gi_sr, s3, N1, jI_add]
  · dsimp only
    rw [gi_si_a (by decide), gi_si_a (by decide), gi_sr]
    exact b3
  · dsimp only
    rw [gi_si_s]
    rfl
  · rintro j hj K ⟨x2, τ⟩ ⟨r2, f1, f2, f3, f4, f5, f6, f7⟩ hK
    dsimp only at r2 f1 f2 f3 f4 f5 f6 f7 hK ⊢
    subst r2
    have hm := ok.made j hj
    unfold w_X6_turnTo_22
    rw [f4, f1 _ _ (by unfold STn; omega), h9, if_neg (by rw [jI_le (by omega) (by omega)]; omega), tn_nI (by omega), f7, f1 (gr σ 1 11 + 3) j (by unfold STn; omega), hr.2.2.1 j hj, bit1 (by omega), jI_or, N1, jI_add]
    refine ⟨hc, vp_nI (by omega) (by decide), ?_⟩
    rintro y rfl
    refine hK _ ⟨rfl, fun a i hx => ?_, f2, f3, f4, ?_, ?_, gi_si_s⟩
    · dsimp only
      rw [gi_si, if_neg (fun q => hx (by unfold STn; omega))]
      exact f1 a i hx
    · dsimp only
      rw [gi_si_k (by decide)]
      exact f5
    · dsimp only
      rw [gi_si_a (by decide)]
      exact f6
  · rintro K ⟨x2, τ⟩ ⟨r2, f1, f2, f3, f4, f5, f6, f7⟩
    dsimp only at r2 f1 f2 f3 f4 f5 f6 f7 ⊢
    subst r2
    unfold w_X6_turnTo_22
    rw [f4, f1 _ _ (by unfold STn; omega), h9, if_pos (by rw [jI_le (by omega) (by omega)]; exact Nat.le_refl _)]
    have g11 : gr τ 1 11 = gr σ 1 11 := f3 1 11 (by omega)
    refine ⟨hc, ?_⟩
    dsimp only
    rw [g11]
    refine ⟨hc, ?_⟩
    unfold w_X0_turnTo w_X0_forget
    refine ⟨hc, ?_⟩
    dsimp only
    rw [gi_sr, f6, N1, jI_add]
    have h11 : gr (si (sr τ 90 3 (gr σ 1 11)) 90 4 (nI (b + 1))) 1 11 = gr σ 1 11 := by rw [gr_si, gr_sr_n (by omega), g11]
    rw [h11]
    refine ⟨hc, hc, ?_⟩
    have h12 : gr (sr (si (sr τ 90 3 (gr σ 1 11)) 90 4 (nI (b + 1))) 93 5 (gr σ 1 11)) 1 11 = gr σ 1 11 := by rw [gr_sr_n (by omega), h11]
    dsimp only
    rw [h12]
    refine ⟨hc, hc, ?_⟩
    have h13 : gr (sr (sr (si (sr τ 90 3 (gr σ 1 11)) 90 4 (nI (b + 1))) 93 5 (gr σ 1 11)) 95 3 (gr σ 1 11)) 1 11 = gr σ 1 11 := by rw [gr_sr_n (by omega), h12]
    dsimp only
    rw [h13]
    refine ⟨hc, hc, ?_⟩
    dsimp only
    generalize hυ : sr (sr (sr (si (sr τ 90 3 (gr σ 1 11)) 90 4 (nI (b + 1))) 93 5 (gr σ 1 11)) 95 3 (gr σ 1 11)) 97 4 (gr σ 1 11) = υ
    have gi1 : ∀ a i, gi υ a i = if a = 90 ∧ i = 4 then nI (b + 1) else gi τ a i := fun a i => by
      rw [← hυ, gi_sr, gi_sr, gi_sr, gi_si, gi_sr]
    have gl1 : ∀ a i, gl υ a i = gl σ a i := fun a i => by
      rw [← hυ, gl_sr, gl_sr, gl_sr, gl_si, gl_sr]
      exact f2 a i
    have gr0 : ∀ a i, gr υ a i = if a = 97 ∧ i = 4 then gr σ 1 11 else if a = 95 ∧ i = 3 then gr σ 1 11 else if a = 93 ∧ i = 5 then gr σ 1 11 else if a = 90 ∧ i = 3 then gr σ 1 11 else gr τ a i := fun a i => by
      rw [← hυ, gr_sr, gr_sr, gr_sr, gr_si, gr_sr]
    have gr1 : ∀ a i, isRf a i → ¬ (a = 88 ∧ i = 1) → gr υ a i = gr σ 1 11 := fun a i hx hn => by
      rw [gr0]
      unfold isRf at hx
      rcases hx with q | ⟨rfl, rfl⟩ | ⟨rfl, rfl⟩ | ⟨rfl, rfl⟩ | ⟨rfl, rfl⟩
      · exact absurd q hn
      · rfl
      · rfl
      · rfl
      · rfl
    have gr2 : ∀ a i, (¬ isRf a i ∨ (a = 88 ∧ i = 1)) → gr υ a i = gr τ a i := fun a i hx => by
      unfold isRf at hx
      rw [gr0, if_neg (by omega), if_neg (by omega), if_neg (by omega), if_neg (by omega)]
    have gf : ∀ a i, ¬ STn a i → gi υ a i = gi σ a i := fun a i hx => by
      rw [gi1, if_neg (fun q => hx (by unfold STn; omega))]
      exact f1 a i hx
    have grn : ∀ a i, ¬ isRf a i → gr υ a i = gr σ a i := fun a i hx => by
      rw [gr2 a i (Or.inl hx)]
      exact f3 a i (fun q => hx (by unfold isRf; omega))
    have gry : ∀ a i, isRf a i → gr υ a i = gr σ 1 11 := fun a i hx => by
      by_cases q : a = 88 ∧ i = 1
      · rw [gr2 a i (Or.inr q), q.1, q.2]
        exact f4
      · exact gr1 a i hx q
    refine k υ gf gl1 grn gry ?_
    have hcr : CR υ (gr σ 1 11) c := by
      obtain ⟨q0, q1, q2, q3, q4, q5, q6⟩ := hr
      refine ⟨fun i hi => ?_, fun t ht => ?_, fun m hm => ?_, fun m hm => ?_, fun w hw => ?_, fun v hv t ht => ?_, fun t ht => ?_⟩
      · rw [gf _ _ (by unfold STn; omega)]; exact q0 i hi
      · rw [gf _ _ (by unfold STn; omega)]; exact q1 t ht
      · rw [gf _ _ (by unfold STn; omega)]; exact q2 m hm
      · rw [gf _ _ (by unfold STn; omega)]; exact q3 m hm
      · rw [gf _ _ (by unfold STn; omega)]; exact q4 w hw
      · rw [gf _ _ (by unfold STn; omega)]; exact q5 v hv t ht
      · rw [gf _ _ (by unfold STn; omega)]; exact q6 t ht
    have y11 : gr υ 1 11 = gr σ 1 11 := grn 1 11 (by unfold isRf; omega)
    have y88 : gr υ 88 1 = gr σ 1 11 := gry 88 1 (by unfold isRf; omega)
    have y90 : gr υ 90 3 = gr σ 1 11 := gry 90 3 (by unfold isRf; omega)
    refine ⟨by rw [y11]; exact hc, by rw [y88, y11], by rw [y90, y11], by rw [gry 93 5 (by unfold isRf; omega), y11], by rw [gry 95 3 (by unfold isRf; omega), y11], by rw [gry 97 4 (by unfold isRf; omega), y11], ⟨by rw [y88]; exact hc, by rw [y88]; exact hcr, ?_, s + 1, by omega, by omega, ?_, fun g hg => ?_⟩, ⟨by rw [y90]; exact hc, by rw [y90]; exact hcr⟩, b + 1, by omega, by omega, ?_, fun o ho => ?_⟩
    · rw [gi1, if_neg (by omega)]
      exact f7
    · rw [gi1, if_neg (by omega)]
      exact f5
    · obtain ⟨v, v1, v2⟩ := s4 g hg
      exact ⟨v, by rw [gf _ _ (by unfold STn; omega)]; exact v1, by omega, fun q => by omega⟩
    · rw [gi1, if_pos ⟨rfl, rfl⟩]
    · obtain ⟨v, v1, v2⟩ := b4 o ho
      exact ⟨v, by rw [gf _ _ (by unfold STn; omega)]; exact v1, by omega, fun q => by omega⟩
