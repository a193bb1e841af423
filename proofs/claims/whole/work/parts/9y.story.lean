/-! ===== texts: centuries, what is read ===== -/
abbrev YS : Type := (Nat → Nat) × Nat
theorem tokA_s {T : Nat → Nat} {n a : Nat} (h : (tokA T n a).1 = 3) : (tokA T n a).2.2.2.1 = 59 ∨ (tokA T n a).2.2.2.1 = 60 ∨ (tokA T n a).2.2.2.1 = 62 ∨ (tokA T n a).2.2.2.1 = 61 := by
  unfold tokA at h ⊢
  split at h
  · exact absurd h (show ¬ (0 : Nat) = 3 by decide)
  rename_i h0
  rw [if_neg h0]
  split at h
  · exact absurd h (show ¬ (1 : Nat) = 3 by decide)
  rename_i h1
  rw [if_neg h1]
  split at h
  · split at h
    · exact absurd h (show ¬ (2 : Nat) = 3 by decide)
    · exact absurd h (show ¬ (4 : Nat) = 3 by decide)
  rename_i h2
  rw [if_neg h2]
  split at h
  · rename_i h3
    rw [if_pos h3]; exact h3
  · exact absurd h (show ¬ (4 : Nat) = 3 by decide)
theorem isTk.s {T : Nat → Nat} {n q : Nat} {t : TKn} (h : isTk T n q t) (h3 : t.1 = 3) : t.2.2.2.1 = 59 ∨ t.2.2.2.1 = 60 ∨ t.2.2.2.1 = 62 ∨ t.2.2.2.1 = 61 := by
  obtain ⟨p, -, -, -, rfl⟩ := h
  exact tokA_s h3
/-- what a when compares -/
def cmE (T : Nat → Nat) (n s : Nat) (m : Nat → Nat) (t : TKn) : RS (Nat → Nat) :=
  if t.1 = 3 ∧ t.2.2.2.1 ≠ 59 then bS (nuE T n 0 99 (nxF T n t)) (fun y t3 => Sum.inr (updC (updC m (151 + 9 * s) t.2.2.2.1) (146 + 9 * s) y, t3)) else Sum.inl (fkF t 2, t.2.1)
def teE (T : Nat → Nat) (n : Nat) (c : Nat → Nat) (nm : Nat → Int64) (s : Nat) (m : Nat → Nat) (t : TKn) : RS (Nat → Nat) :=
  if tstF t = 0 then Sum.inl (fkF t 2, t.2.1) else bS (toE T n c nm (if tstF t = 2 then 1 else 0) 99 (nxF T n t)) (fun x t2 => if tstF t = 3 then cmE T n s (updC (updC m (150 + 9 * s) (tstF t - 1)) (145 + 9 * s) x) t2 else Sum.inr (updC (updC m (150 + 9 * s) (tstF t - 1)) (145 + 9 * s) x, t2))
def reE (T : Nat → Nat) (n : Nat) (c : Nat → Nat) (nm : Nat → Int64) (s k : Nat) (m : Nat → Nat) (t : TKn) : RS (Nat → Nat) :=
  if k = 0 then bS (nuE T n 1 9 t) (fun x t' => Sum.inr (updC m (145 + 9 * s) x, t'))
  else if k = 6 then bS (nuE T n 1 99 t) (fun x t' => Sum.inr (updC m (145 + 9 * s) x, t'))
  else if k = 5 then teE T n c nm s m t
  else if k < 4 then bS (toE T n c nm 0 99 t) (fun x t' => Sum.inr (updC m (145 + 9 * s) x, t'))
  else Sum.inr (m, t)
def opE (T : Nat → Nat) (n : Nat) (c : Nat → Nat) (nm : Nat → Int64) (d : Nat) (y : YS) (t : TKn) : RS YS :=
  if stpF t = 0 then Sum.inl (fkF t 2, t.2.1) else if y.2 = 30 then Sum.inl (6, t.2.1) else if (stpF t = 6 ∨ stpF t = 7) ∧ d = 3 then Sum.inl (7, t.2.1)
  else bS (reE T n c nm y.2 (stpF t - 1) (updC y.1 (144 + 9 * y.2) (stpF t - 1)) (nxF T n t)) (fun m t1 => bS (sgE T n 59 t1) (fun _ t2 => Sum.inr ((m, y.2 + 1), t2)))
def oneE (T : Nat → Nat) (n : Nat) (c : Nat → Nat) (nm : Nat → Int64) (rec : Nat → YS → TKn → RS YS) (d : Nat) (y : YS) (t : TKn) : RS YS :=
  bS (opE T n c nm d y t) (fun y1 t1 => if stpF t = 6 ∨ stpF t = 7 then bS (rec (d + 1) y1 t1) (fun y2 t2 => bS (kwE T n 21 t2) (fun _ t3 => bS (sgE T n 59 t3) (fun _ t4 => Sum.inr ((updC y2.1 (152 + 9 * y.2) y2.2, y2.2), t4)))) else Sum.inr ((updC y1.1 (152 + 9 * y.2) y1.2, y1.2), t1))
def sqE (T : Nat → Nat) (n : Nat) (c : Nat → Nat) (nm : Nat → Int64) : Nat → Nat → YS → TKn → RS YS
  | 0, _, _, _ => Sum.inl (0, 0)
  | f + 1, d, y, t => if t.1 = 0 ∨ (t.1 = 1 ∧ t.2.2.2.2 ≤ 8 ∧ kwF t.2.2.2.1 = 21 + 1) then Sum.inr (y, t) else bS (oneE T n c nm (sqE T n c nm f) d y t) (fun y1 t1 => sqE T n c nm f d y1 t1)
/-- what a text of centuries says; m0: what lay there before -/
def stA (T : Nat → Nat) (n : Nat) (c : Nat → Nat) (nm : Nat → Int64) (m0 : Nat → Nat) : RS YS :=
  bS (sqE T n c nm 902 0 (m0, 0) (tokF T n 0)) (fun y t => if t.1 = 0 then Sum.inr (y, t) else Sum.inl (fkF t 2, t.2.1))
/-! == which step a keyword is == -/
/-- the class's keyword of a step's kind, from 1 -/
def skw (k : Nat) : Nat := if k ≤ 6 then 10 + k else if k = 7 then 20 else 22
theorem stpF_is {t : TKn} {k : Nat} (h : stpF t = k) (h0 : k ≠ 0) : k ≤ 8 ∧ isKw t (skw k) := by
  have h8 := stpF_le (t := t)
  subst h
  refine ⟨h8, ?_⟩
  unfold stpF at h0 ⊢
  unfold isKw skw
  split
  · exact (by assumption : _ ∧ _ ∧ _)
  split
  · exact (by assumption : _ ∧ _ ∧ _)
  split
  · exact (by assumption : _ ∧ _ ∧ _)
  split
  · exact (by assumption : _ ∧ _ ∧ _)
  split
  · exact (by assumption : _ ∧ _ ∧ _)
  split
  · exact (by assumption : _ ∧ _ ∧ _)
  split
  · exact (by assumption : _ ∧ _ ∧ _)
  split
  · exact (by assumption : _ ∧ _ ∧ _)
  simp_all
theorem tstF_is {t : TKn} {k : Nat} (h : tstF t = k) (h0 : k ≠ 0) : k ≤ 3 ∧ isKw t (16 + k) := by
  have h8 := tstF_le (t := t)
  subst h
  refine ⟨h8, ?_⟩
  unfold tstF at h0 ⊢
  unfold isKw
  split
  · exact (by assumption : _ ∧ _ ∧ _)
  split
  · exact (by assumption : _ ∧ _ ∧ _)
  split
  · exact (by assumption : _ ∧ _ ∧ _)
  simp_all
