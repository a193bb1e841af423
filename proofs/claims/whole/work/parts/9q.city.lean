/-! ===== texts: a city read by the class ===== -/
theorem isKw_u {t : TKn} {i j : Nat} (h : isKw t i) (hne : i ≠ j) : ¬ isKw t j := fun q => by
  have h1 := h.2.2
  have h2 := q.2.2
  omega
section
variable {T : Nat → Nat} {n : Nat} {c : Nat → Nat} {nm : Nat → Int64} {l : Nat} {t : TKn}
theorem partE_0 (z : isKw t 0) : partE T n c nm l t = thingE T n c nm l t := if_pos z
theorem partE_3 (z : isKw t 3) : partE T n c nm l t = makesE T n c nm l t := (if_neg (isKw_u z (by decide))).trans (if_pos z)
theorem partE_5 (z : isKw t 5) : partE T n c nm l t = workE T n c nm l t := (if_neg (isKw_u z (by decide))).trans ((if_neg (isKw_u z (by decide))).trans (if_pos z))
theorem partE_7 (z : isKw t 7) : partE T n c nm l t = voterE T n c nm l t := (if_neg (isKw_u z (by decide))).trans ((if_neg (isKw_u z (by decide))).trans ((if_neg (isKw_u z (by decide))).trans (if_pos z)))
theorem partE_8 (z : isKw t 8) : partE T n c nm l t = hatesE T n c nm l t := (if_neg (isKw_u z (by decide))).trans ((if_neg (isKw_u z (by decide))).trans ((if_neg (isKw_u z (by decide))).trans ((if_neg (isKw_u z (by decide))).trans (if_pos z))))
theorem partE_9 (z : isKw t 9) : partE T n c nm l t = aheadE T n c nm l t := (if_neg (isKw_u z (by decide))).trans ((if_neg (isKw_u z (by decide))).trans ((if_neg (isKw_u z (by decide))).trans ((if_neg (isKw_u z (by decide))).trans ((if_neg (isKw_u z (by decide))).trans (if_pos z)))))
theorem partE_10 (z : isKw t 10) : partE T n c nm l t = lawE T n c nm l t := (if_neg (isKw_u z (by decide))).trans ((if_neg (isKw_u z (by decide))).trans ((if_neg (isKw_u z (by decide))).trans ((if_neg (isKw_u z (by decide))).trans ((if_neg (isKw_u z (by decide))).trans ((if_neg (isKw_u z (by decide))).trans (if_pos z))))))
theorem partE_f (z : ∀ j, (j = 0 ∨ j = 3 ∨ j = 5 ∨ j = 7 ∨ j = 8 ∨ j = 9 ∨ j = 10) → ¬ isKw t j) : partE T n c nm l t = Sum.inl (fkF t 2, t.2.1) :=
  (if_neg (z 0 (by decide))).trans ((if_neg (z 3 (by decide))).trans ((if_neg (z 5 (by decide))).trans ((if_neg (z 7 (by decide))).trans ((if_neg (z 8 (by decide))).trans ((if_neg (z 9 (by decide))).trans (if_neg (z 10 (by decide))))))))
end
theorem c_rdPart {σ : Sto} {T : Nat → Nat} {n q a l : Nat} {c : Nat → Nat} {nm : Nat → Int64} {t : TKn} {P : Int32 → Sto → Prop} (h : RdC σ T n t) (ht : isTk T n q t) (hd : DrC σ a c nm l) (hk : NmK c nm) (hc1 : c 1 ≤ 16) (hl : l ≤ 1) (k : OC (SDc a) σ T n q (partE T n c nm l t) (fun x τ => DrC τ a x.1 x.2.1 x.2.2 → P 1 τ) (fun τ => P 0 τ)) : w_X2_readPart σ P := by
  have hw := h.2.2.2.1
  have hi := (c_kind h.2.2.1 hw).2.2.2.2.2
  have bad : (∀ j, (j = 0 ∨ j = 3 ∨ j = 5 ∨ j = 7 ∨ j = 8 ∨ j = 9 ∨ j = 10) → ¬ isKw t j) → w_X9_fail (nI 2) σ (fun r s => (r = 0 ∨ r = 1) ∧ P r s) := fun z =>
    c_fail (f := 2) h.2.2.1 hw (fun τ e g9 g10 => ⟨Or.inl rfl, k.1 _ (partE_f z) τ (e.mo (fun _ _ q => SDc0 (STf0 q))) g9 g10⟩)
  unfold w_X2_readPart
  by_cases y : t.1 = 1 ∧ t.2.2.2.2 ≤ 8 ∧ kwF t.2.2.2.1 ≠ 0
  · rw [if_pos (hi.mpr y)]
    have h7 : gi σ 10 7 = nI (kwF t.2.2.2.1 - 1) := (((h.2.2.1.2.2.2.1 y.1).1 y.2.1).2.2 y.2.2).2
    have h4 : t.1 ≠ 4 := by omega
    have hle := kwF_le (v := t.2.2.2.1)
    obtain ⟨i, hi'⟩ : ∃ i, kwF t.2.2.2.1 = i + 1 := ⟨kwF t.2.2.2.1 - 1, by omega⟩
    have hz : isKw t i := ⟨y.1, y.2.1, hi'⟩
    rw [hi', Nat.add_sub_cancel] at h7
    rw [h7]
    rintro _ rfl
    have bad' : i ≠ 0 → i ≠ 3 → i ≠ 5 → i ≠ 7 → i ≠ 8 → i ≠ 9 → i ≠ 10 → w_X9_fail (nI 2) σ (fun r s => (r = 0 ∨ r = 1) ∧ P r s) := fun a0 a3 a5 a7 a8 a9 a10 => bad (fun j hj => isKw_u hz (by omega))
    have up : ∀ x : RS DS, OC (SDc a) σ T n q x (fun x τ => DrC τ a x.1 x.2.1 x.2.2 → P 1 τ) (fun τ => P 0 τ) → OC (SDc a) σ T n q x (fun x τ => DrC τ a x.1 x.2.1 x.2.2 → ((1 : Int32) = 0 ∨ (1 : Int32) = 1) ∧ P 1 τ) (fun τ => ((0 : Int32) = 0 ∨ (0 : Int32) = 1) ∧ P 0 τ) := fun x kk => ⟨fun e he τ e1 g9 g10 => ⟨Or.inl rfl, kk.1 e he τ e1 g9 g10⟩, fun x t' hx τ e1 h1 ht1 hd1 => ⟨Or.inr rfl, kk.2 x t' hx τ e1 h1 ht1 hd1⟩⟩
    have kk := up _ k
    clear k up
    have ne : ∀ m : Nat, m < 100 → i ≠ m → ¬ nI i = nI m := fun m hm q => by rw [jI_eq (by omega) (by omega)]; exact q
    by_cases a0 : i = 0
    · subst a0
      rw [partE_0 hz] at kk
      rw [if_pos (show nI 0 = 0 from rfl)]
      exact c_rdThing h ht h4 hd hk kk
    rw [if_neg (show ¬ nI i = 0 from ne 0 (by decide) a0)]
    by_cases a1 : i = 1
    · subst a1
      rw [if_pos (show nI 1 = 1 from rfl)]
      exact bad' (by decide) (by decide) (by decide) (by decide) (by decide) (by decide) (by decide)
    rw [if_neg (show ¬ nI i = 1 from ne 1 (by decide) a1)]
    by_cases a2 : i = 2
    · subst a2
      rw [if_pos (show nI 2 = 2 from rfl)]
      exact bad' (by decide) (by decide) (by decide) (by decide) (by decide) (by decide) (by decide)
    rw [if_neg (show ¬ nI i = 2 from ne 2 (by decide) a2)]
    by_cases a3 : i = 3
    · subst a3
      rw [partE_3 hz] at kk
      rw [if_pos (show nI 3 = 3 from rfl)]
      exact c_rdMakes h ht h4 hd hk hc1 kk
    rw [if_neg (show ¬ nI i = 3 from ne 3 (by decide) a3)]
    by_cases a4 : i = 4
    · subst a4
      rw [if_pos (show nI 4 = 4 from rfl)]
      exact bad' (by decide) (by decide) (by decide) (by decide) (by decide) (by decide) (by decide)
    rw [if_neg (show ¬ nI i = 4 from ne 4 (by decide) a4)]
    by_cases a5 : i = 5
    · subst a5
      rw [partE_5 hz] at kk
      rw [if_pos (show nI 5 = 5 from rfl)]
      exact c_rdWork h ht h4 hd hk kk
    rw [if_neg (show ¬ nI i = 5 from ne 5 (by decide) a5)]
    by_cases a6 : i = 6
    · subst a6
      rw [if_pos (show nI 6 = 6 from rfl)]
      exact bad' (by decide) (by decide) (by decide) (by decide) (by decide) (by decide) (by decide)
    rw [if_neg (show ¬ nI i = 6 from ne 6 (by decide) a6)]
    by_cases a7 : i = 7
    · subst a7
      rw [partE_7 hz] at kk
      rw [if_pos (show nI 7 = 7 from rfl)]
      exact c_rdVoter h ht h4 hd hk kk
    rw [if_neg (show ¬ nI i = 7 from ne 7 (by decide) a7)]
    by_cases a8 : i = 8
    · subst a8
      rw [partE_8 hz] at kk
      rw [if_pos (show nI 8 = 8 from rfl)]
      exact c_rdHates h ht hd hk kk
    rw [if_neg (show ¬ nI i = 8 from ne 8 (by decide) a8)]
    by_cases a9 : i = 9
    · subst a9
      rw [partE_9 hz] at kk
      rw [if_pos (show nI 9 = 9 from rfl)]
      exact c_rdAhead h ht hd hk kk
    rw [if_neg (show ¬ nI i = 9 from ne 9 (by decide) a9)]
    by_cases a10 : i = 10
    · subst a10
      rw [partE_10 hz] at kk
      rw [if_pos (show nI 10 = 10 from rfl)]
      exact c_rdLaw h ht h4 hl hd kk
    rw [if_neg (show ¬ nI i = 10 from ne 10 (by decide) a10)]
    exact bad' a0 a3 a5 a7 a8 a9 a10
  · rw [if_neg (fun q => y (hi.mp q))]
    exact bad (fun j _ z => y ⟨z.1, z.2.1, by rw [z.2.2]; omega⟩)
/-! == what a part leaves is a city == -/
def DW (c : Nat → Nat) (nm : Nat → Int64) (l : Nat) : Prop := OK c ∧ NmK c nm ∧ (∀ i, i < 72 → c (58 + i) ≤ 9) ∧ (∀ t, t < 12 → c (130 + t) < 2 ^ c 0 ∧ (c (130 + t)).testBit t = false) ∧ c 142 = 0 ∧ c 143 = 0 ∧ l ≤ 1
theorem bS_i {α β : Type} {r : RS α} {g : α → TKn → RS β} {y : β} {t : TKn} (h : bS r g = Sum.inr (y, t)) : ∃ x t', r = Sum.inr (x, t') ∧ g x t' = Sum.inr (y, t) := by
  cases hr : r with
  | inl e => rw [bS_l hr] at h; cases h
  | inr x => exact ⟨x.1, x.2, rfl, by rw [← h]; exact (bS_r hr).symm⟩
theorem nuE_r {T : Nat → Nat} {n lo hi x : Nat} {t t' : TKn} (h : nuE T n lo hi t = Sum.inr (x, t')) : lo ≤ x ∧ x ≤ hi := by
  unfold nuE at h
  by_cases z : nmF lo hi t = 0
  · rw [if_pos z] at h
    have e : t.2.2.2.1 = x := congrArg Prod.fst (Sum.inr.inj h)
    unfold nmF at z
    by_cases z2 : t.1 = 2
    · rw [if_pos z2] at z
      by_cases z3 : lo ≤ t.2.2.2.1 ∧ t.2.2.2.1 ≤ hi
      · rw [← e]; exact z3
      · rw [if_neg z3] at z; exact absurd z (by decide)
    · rw [if_neg z2] at z; exact absurd z fk2.1
  · rw [if_neg z] at h; cases h
theorem thF_r {T : Nat → Nat} {n b x : Nat} {c : Nat → Nat} {nm : Nat → Int64} {t' : TKn} (hk : NmK c nm) : ∀ d s t, s < 2 ^ c 0 → s.testBit b = false → thF T n c nm b d s t = Sum.inr (x, t') → x < 2 ^ c 0 ∧ x.testBit b = false
  | 0, s, t, _, _, h => by
    have h' : (Sum.inl (0, 0) : RS Nat) = Sum.inr (x, t') := h
    cases h'
  | d + 1, s, t, hs, hb, h => by
    obtain ⟨y, t1, h1, h2⟩ := bS_i (r := toE T n c nm 0 b t) h
    obtain ⟨r1, r2, r3, r4⟩ := toE_r h1
    have hy : y < c 0 := by
      have := (idF_le (t := t) (s := 0) hk (by decide)).1
      have e1 : cnt c 0 = c 0 := rfl
      omega
    have a1 := orb_lt hs hy
    have a2 := orb_bit hb r3
    by_cases g : t1.1 = 3 ∧ t1.2.2.2.1 = 59
    · rw [if_pos g] at h2
      have e : s ||| 2 ^ y = x := congrArg Prod.fst (Sum.inr.inj h2)
      rw [← e]; exact ⟨a1, a2⟩
    · rw [if_neg g] at h2
      exact thF_r hk d _ _ a1 a2 h2
theorem toE_b {T : Nat → Nat} {n s b x : Nat} {c : Nat → Nat} {nm : Nat → Int64} {t t' : TKn} (hk : NmK c nm) (hs : s ≤ 2) (h : toE T n c nm s b t = Sum.inr (x, t')) : x < cnt c s ∧ x ≠ b := by
  obtain ⟨r1, r2, r3, r4⟩ := toE_r h
  have := (idF_le (t := t) (s := s) hk hs).1
  exact ⟨by omega, r3⟩
theorem NmK.cg {c d : Nat → Nat} {nm : Nat → Int64} (h : NmK c nm) (h0 : d 0 = c 0) (h2 : d 2 = c 2) (h3 : d 3 = c 3) : NmK d nm := by
  unfold NmK vN at h ⊢
  rw [h0, h2, h3]
  exact h
theorem DW.cell {c : Nat → Nat} {nm : Nat → Int64} {l i v : Nat} (h : DW c nm l) (hi : (i = 4 ∧ v ≤ 2) ∨ (i = 7 ∧ v < 2 ^ c 0) ∨ (8 ≤ i ∧ i < 20 ∧ v ≤ 99) ∨ (58 ≤ i ∧ i < 130 ∧ v ≤ 9) ∨ (52 ≤ i ∧ i < 58 ∧ v < 2 ^ c 0) ∨ (130 ≤ i ∧ i < 142 ∧ v < 2 ^ c 0 ∧ v.testBit (i - 130) = false)) : DW (updC c i v) nm l := by
  obtain ⟨ok, hk, hh, ha, h142, h143, hl⟩ := h
  have u : ∀ j, j ≠ i → updC c i v j = c j := fun j hj => updC_n hj
  have us : updC c i v i = v := updC_s
  have u0 := u 0 (by omega)
  have u1 := u 1 (by omega)
  have u2 := u 2 (by omega)
  have u3 := u 3 (by omega)
  have u5 := u 5 (by omega)
  have u6 := u 6 (by omega)
  have hh' : ∀ j, j < 72 → updC c i v (58 + j) ≤ 9 := fun j hj => by
    by_cases e : 58 + j = i
    · rw [e, us]; omega
    · rw [u _ e]; exact hh j hj
  have ha' : ∀ t, t < 12 → updC c i v (130 + t) < 2 ^ updC c i v 0 ∧ (updC c i v (130 + t)).testBit t = false := fun t ht => by
    rw [u0]
    by_cases e : 130 + t = i
    · rw [e, us]
      rcases hi with y | y | y | y | y | y
      · omega
      · omega
      · omega
      · omega
      · omega
      · exact ⟨y.2.2.1, by rw [show t = i - 130 by omega]; exact y.2.2.2⟩
    · rw [u _ e]; exact ha t ht
  refine ⟨⟨by rw [u0]; exact ok.n0, by rw [u1]; exact ok.n1, by rw [u2]; exact ok.n2, by rw [u3]; exact ok.n3, ?_, by rw [u5]; exact ok.n5, by rw [u6, u0]; exact ok.n6, ?_, fun t ht => ?_, fun m hm => ?_, fun m hm => ?_, fun m hm => ?_, fun w hw => ?_, fun v' hv' t ht => ?_, fun t ht => (ha' t (by rw [u0] at ht; have := ok.n0; omega)).1, fun t ht => (ha' t (by rw [u0] at ht; have := ok.n0; omega)).2⟩, hk.cg u0 u2 u3, hh', ha', by rw [u _ (by omega)]; exact h142, by rw [u _ (by omega)]; exact h143, hl⟩
  · by_cases e : 4 = i
    · rw [e, us]; omega
    · rw [u _ e]; exact ok.n4
  · rw [u0]
    by_cases e : 7 = i
    · rw [e, us]; omega
    · rw [u _ e]; exact ok.n7
  · rw [u0] at ht
    by_cases e : 8 + t = i
    · have := ok.n0
      rw [e, us]; omega
    · rw [u _ e]; exact ok.worth t ht
  · rw [u1] at hm
    have := ok.n1
    rw [u0, u _ (by omega)]; exact ok.made m hm
  · rw [u1] at hm
    have := ok.n1
    rw [u0, u _ (by omega)]; exact ok.parts m hm
  · rw [u1] at hm
    have := ok.n1
    rw [u _ (by omega), u _ (by omega)]; exact ok.2.2.2.2.2.2.2.2.2.2.2.1 m hm
  · rw [u2] at hw
    have := ok.n2
    rw [u0]
    by_cases e : 52 + w = i
    · rw [e, us]; omega
    · rw [u _ e]; exact ok.needs w hw
  · rw [u3] at hv'
    have := ok.n3
    have := hh' (12 * v' + t) (by omega)
    rw [show 58 + (12 * v' + t) = 58 + 12 * v' + t by omega] at this
    exact this
