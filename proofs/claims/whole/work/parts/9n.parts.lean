/-! ===== texts: parts of a city ===== -/
abbrev DS : Type := (Nat → Nat) × (Nat → Int64) × Nat
def nmU (nm : Nat → Int64) (k : Nat) (v : Int64) : Nat → Int64 := fun i => if i = k then v else nm i
theorem nmU_s {nm : Nat → Int64} {k : Nat} {v : Int64} : nmU nm k v k = v := if_pos rfl
theorem nmU_n {nm : Nat → Int64} {k i : Nat} {v : Int64} (h : i ≠ k) : nmU nm k v i = nm i := if_neg h
theorem updC_comm {c : Nat → Nat} {i j v w : Nat} (h : i ≠ j) : updC (updC c i v) j w = updC (updC c j w) i v := funext (fun k => by
  unfold updC
  by_cases h1 : k = j
  · rw [if_pos h1, if_neg (by omega), if_pos h1]
  · rw [if_neg h1]
    by_cases h2 : k = i
    · rw [if_pos h2, if_pos h2]
    · rw [if_neg h2, if_neg h2, if_neg h1])
theorem updC_two {c : Nat → Nat} {i v w : Nat} : updC (updC c i v) i w = updC c i w := funext (fun k => by
  unfold updC
  by_cases h1 : k = i
  · rw [if_pos h1, if_pos h1]
  · rw [if_neg h1, if_neg h1, if_neg h1])
theorem fdF_zero {nm : Nat → Int64} {f : Nat} {v : Int64} : ∀ m, fdF nm f v m = 0 ↔ ∀ k, k < m → nm (f + k) ≠ v
  | 0 => ⟨fun _ k hk => absurd hk (Nat.not_lt_zero k), fun _ => rfl⟩
  | m + 1 => by
    have ih := fdF_zero (nm := nm) (f := f) (v := v) m
    by_cases h : fdF nm f v m = 0
    · have e : fdF nm f v (m + 1) = if nm (f + m) = v then m + 1 else 0 := by
        show (if fdF nm f v m ≠ 0 then fdF nm f v m else if nm (f + m) = v then m + 1 else 0) = _
        rw [if_neg (fun q => q h)]
      have h' := ih.mp h
      rw [e]
      by_cases g : nm (f + m) = v
      · rw [if_pos g]
        exact ⟨fun q => absurd q (by omega), fun q => absurd g (q m (by omega))⟩
      · rw [if_neg g]
        refine ⟨fun _ k hk => ?_, fun _ => rfl⟩
        rcases (show k < m ∨ k = m by omega) with y | y
        · exact h' k y
        · rw [y]; exact g
    · have e : fdF nm f v (m + 1) = fdF nm f v m := fdF_up h 1
      rw [e]
      exact ⟨fun q => absurd q h, fun q => absurd (ih.mpr (fun k hk => q k (by omega))) h⟩
def tkF (nm : Nat → Int64) (t : TKn) : Nat := fdF nm 0 (lI t.2.2.2.1) 24
def newE (T : Nat → Nat) (n : Nat) (nm : Nat → Int64) (t : TKn) : RS Int64 :=
  if t.1 = 1 ∧ t.2.2.2.2 ≤ 8 ∧ kwF t.2.2.2.1 = 0 then (if tkF nm t = 0 then Sum.inr (lI t.2.2.2.1, nxF T n t) else Sum.inl (3, t.2.1)) else Sum.inl (fkF t 2, t.2.1)
/-- the word 'exempt', if it's there -/
def exE (T : Nat → Nat) (n b : Nat) (c : Nat → Nat) (t : TKn) : RS (Nat → Nat) :=
  if t.1 = 1 ∧ t.2.2.2.2 ≤ 8 ∧ kwF t.2.2.2.1 = 2 + 1 then Sum.inr (updC c 7 (c 7 ||| 2 ^ b), nxF T n t) else Sum.inr (c, t)
def woE (T : Nat → Nat) (n b : Nat) (c : Nat → Nat) (t : TKn) : RS (Nat → Nat) :=
  if t.1 = 1 ∧ t.2.2.2.2 ≤ 8 ∧ kwF t.2.2.2.1 = 1 + 1 then bS (nuE T n 0 99 (nxF T n t)) (fun w t' => Sum.inr (updC c (8 + b) w, t')) else Sum.inr (c, t)
def thingE (T : Nat → Nat) (n : Nat) (c : Nat → Nat) (nm : Nat → Int64) (l : Nat) (t : TKn) : RS DS :=
  if c 0 < 12 then bS (newE T n nm (nxF T n t)) (fun v t1 => bS (woE T n (c 0) (updC (updC c (8 + c 0) 1) 0 (c 0 + 1)) t1) (fun c2 t2 => bS (exE T n (c 0) c2 t2) (fun c3 t3 => Sum.inr ((c3, nmU nm (c 0) v, l), t3)))) else Sum.inl (6, t.2.1)
def makesE (T : Nat → Nat) (n : Nat) (c : Nat → Nat) (nm : Nat → Int64) (l : Nat) (t : TKn) : RS DS :=
  if c 1 < 16 then bS (toE T n c nm 0 99 (nxF T n t)) (fun p t1 => bS (kwE T n 4 t1) (fun _ t2 => bS (thE T n c nm p t2) (fun s t3 => Sum.inr ((updC (updC (updC c (20 + c 1) p) (36 + c 1) s) 1 (c 1 + 1), nm, l), t3)))) else Sum.inl (6, t.2.1)
def workE (T : Nat → Nat) (n : Nat) (c : Nat → Nat) (nm : Nat → Int64) (l : Nat) (t : TKn) : RS DS :=
  if c 2 < 6 then bS (newE T n nm (nxF T n t)) (fun v t1 => bS (kwE T n 6 t1) (fun _ t2 => bS (thE T n c nm 99 t2) (fun s t3 => Sum.inr ((updC (updC c (52 + c 2) s) 2 (c 2 + 1), nmU nm (12 + c 2) v, l), t3)))) else Sum.inl (6, t.2.1)
def voterE (T : Nat → Nat) (n : Nat) (c : Nat → Nat) (nm : Nat → Int64) (l : Nat) (t : TKn) : RS DS :=
  if c 3 < 6 then bS (newE T n nm (nxF T n t)) (fun v t1 => Sum.inr ((updC c 3 (c 3 + 1), nmU nm (18 + c 3) v, l), t1)) else Sum.inl (6, t.2.1)
def hatesE (T : Nat → Nat) (n : Nat) (c : Nat → Nat) (nm : Nat → Int64) (l : Nat) (t : TKn) : RS DS :=
  bS (toE T n c nm 2 99 (nxF T n t)) (fun v t1 => bS (toE T n c nm 0 99 t1) (fun x t2 => bS (nuE T n 0 9 t2) (fun m t3 => Sum.inr ((updC c (58 + 12 * v + x) m, nm, l), t3))))
def aheadE (T : Nat → Nat) (n : Nat) (c : Nat → Nat) (nm : Nat → Int64) (l : Nat) (t : TKn) : RS DS :=
  bS (toE T n c nm 0 99 (nxF T n t)) (fun f t1 => bS (toE T n c nm 0 f t1) (fun s t2 => Sum.inr ((updC c (130 + s) (c (130 + s) ||| 2 ^ f), nm, l), t2)))
def lawE (T : Nat → Nat) (n : Nat) (c : Nat → Nat) (nm : Nat → Int64) (l : Nat) (t : TKn) : RS DS :=
  if l = 0 then bS (nuE T n 0 2 (nxF T n t)) (fun x t1 => Sum.inr ((updC c 4 x, nm, 1), t1)) else Sum.inl (5, t.2.1)
def partE (T : Nat → Nat) (n : Nat) (c : Nat → Nat) (nm : Nat → Int64) (l : Nat) (t : TKn) : RS DS :=
  if t.1 = 1 ∧ t.2.2.2.2 ≤ 8 ∧ kwF t.2.2.2.1 = 0 + 1 then thingE T n c nm l t
  else if t.1 = 1 ∧ t.2.2.2.2 ≤ 8 ∧ kwF t.2.2.2.1 = 3 + 1 then makesE T n c nm l t
  else if t.1 = 1 ∧ t.2.2.2.2 ≤ 8 ∧ kwF t.2.2.2.1 = 5 + 1 then workE T n c nm l t
  else if t.1 = 1 ∧ t.2.2.2.2 ≤ 8 ∧ kwF t.2.2.2.1 = 7 + 1 then voterE T n c nm l t
  else if t.1 = 1 ∧ t.2.2.2.2 ≤ 8 ∧ kwF t.2.2.2.1 = 8 + 1 then hatesE T n c nm l t
  else if t.1 = 1 ∧ t.2.2.2.2 ≤ 8 ∧ kwF t.2.2.2.1 = 9 + 1 then aheadE T n c nm l t
  else if t.1 = 1 ∧ t.2.2.2.2 ≤ 8 ∧ kwF t.2.2.2.1 = 10 + 1 then lawE T n c nm l t
  else Sum.inl (fkF t 2, t.2.1)
