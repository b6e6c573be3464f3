/-! THE PARSE, by places: what the class reads -/
/-- the place of the next token -/
def adv (f : AF) (len st : Nat) : Nat := stF f len (nxF f len st)
/-- the reader's token is the one that begins at st -/
def TkAt (f : AF) (len st : Nat) (t : TkV) : Prop := st ≤ len ∧ t.1 = nxF f len st ∧ t.2.1 = kdE f len st ∧ t.2.2.1 = st ∧ (kdE f len st = 2 → t.2.2.2 = (wvF f (min (nxF f len st - st) 4) st 0, nI (nxF f len st - st)))
def wdP (f : AF) (len st k : Nat) : Bool := decide (kdE f len st = 1) && spB f k st (nxF f len st)
def sgP (f : AF) (len st : Nat) (v : Int32) : Bool := decide (kdE f len st = 3) && (decide (st < len) && decide (f st = v))
abbrev PR : Type := (Nat × List Int32) ⊕ (Int32 × Nat)
def jtP (f : AF) (len rank st : Nat) : Int32 :=
  if rank = 0 then (if wdP f len st 6 then -8 else 0)
  else if rank = 1 then (if wdP f len st 7 then -9 else 0)
  else if rank = 2 then (if sgP f len st 60 then -10 else if sgP f len st 61 then -11 else 0)
  else if rank = 3 then (if sgP f len st 43 then -12 else if sgP f len st 45 then -13 else 0)
  else (if sgP f len st 42 then -14 else if sgP f len st 47 then -15 else 0)
/-- how many NOTs stand there, and what comes behind them -/
def ntP (f : AF) (len : Nat) : Nat → Nat → Nat × Nat
  | 0, st => (0, st)
  | i + 1, st => if wdP f len st 8 then ((ntP f len i (adv f len st)).1 + 1, (ntP f len i (adv f len st)).2) else (0, st)
def lpP (G : Nat → PR) (J : Nat → Int32) (av : Nat → Nat) : Nat → Nat → List Int32 → PR
  | 0, st, c => .inl (st, c)
  | k + 1, st, c => if J st = 0 then .inl (st, c) else match G (av st) with
    | .inr e => .inr e
    | .inl r => lpP G J av k r.1 (c ++ r.2 ++ [J st])
/-- a number or a value -/
def vlP (f : AF) (len st : Nat) : PR :=
  if kdE f len st = 2 then (if nxF f len st - st ≤ 4 then .inl (adv f len st, [wvF f (min (nxF f len st - st) 4) st 0]) else .inr (2, st))
  else if kdE f len st = 1 then (if wcd (ofW f st (nxF f len st)) = 0 then .inr (3, st) else .inl (adv f len st, [wcd (ofW f st (nxF f len st))]))
  else .inr (1, st)
/-- too deep -/
def dpP (f : AF) (len st : Nat) : Int32 := if kdE f len st = 2 ∨ kdE f len st = 1 ∨ sgP f len st 40 = true then 2 else 1
/-- behind a bracket that closes -/
def clP (f : AF) (len : Nat) (p : PR) : PR := match p with
  | .inr e => .inr e
  | .inl r => if sgP f len r.1 41 then .inl (adv f len r.1, r.2) else .inr (1, r.1)
def z2P (f : AF) (len rank st : Nat) : Nat × Nat := if rank = 2 then ntP f len 6 st else (0, st)
def endP (k : Nat) (p : PR) : PR := match p with
  | .inr e => .inr e
  | .inl r => .inl (r.1, r.2 ++ List.replicate k (-7))
/-- what follows the first part of a rank -/
def rsP (G : Nat → PR) (f : AF) (len rank : Nat) (p : PR) : PR := match p with
  | .inr e => .inr e
  | .inl r => lpP G (jtP f len rank) (adv f len) (if rank = 2 then 1 else len) r.1 r.2
/-- a part of this rank (5: a number, a value, brackets) -/
def pX (f : AF) (len : Nat) : Nat → Nat → Nat → Nat → PR
  | 0, _, _, st => .inr (1, st)
  | n + 1, rank, dp, st =>
    if 5 ≤ rank then
      if sgP f len st 40 then (if dp + 1 < 6 then clP f len (pX f len n 0 (dp + 1) (adv f len st)) else .inr (dpP f len (adv f len st), adv f len st))
      else vlP f len st
    else if (z2P f len rank st).1 = 6 ∧ wdP f len (z2P f len rank st).2 8 = true then .inr (2, (z2P f len rank st).2)
    else endP (z2P f len rank st).1 (rsP (pX f len n (rank + 1) dp) f len rank (pX f len n (rank + 1) dp (z2P f len rank st).2))
section PUR
variable {f : AF} {len st n rank dp k i : Nat} {t : TkV}
theorem TkAt.tk (q : TkAt f len st t) : TkAt f len (adv f len st) (tkF f len t) := by
  obtain ⟨h0, h1, h2, h3, h4⟩ := q
  have e : stF f len t.1 = adv f len st := by rw [h1]; rfl
  have hn := nxF_le (f := f) h0
  refine ⟨(stF_le (f := f) hn.2).2, ?_, ?_, ?_, ?_⟩
  · show nxF f len (stF f len t.1) = _; rw [e]
  · show kdE f len (stF f len t.1) = _; rw [e]
  · exact e
  · intro z
    show (if kdE f len (stF f len t.1) = 2 then _ else _) = _
    rw [e, if_pos z]
theorem TkAt.le (q : TkAt f len st t) : st ≤ len := q.1
theorem TkAt.nx (q : TkAt f len st t) : t.2.2.1 ≤ t.1 ∧ t.1 ≤ len ∧ t.2.2.1 ≤ len := by
  obtain ⟨h0, h1, h2, h3, h4⟩ := q
  have hn := nxF_le (f := f) h0
  rw [h1, h3]
  omega
theorem TkAt.wd (q : TkAt f len st t) (k : Nat) : wdB f t k = wdP f len st k := by
  obtain ⟨h0, h1, h2, h3, h4⟩ := q
  unfold wdB wdP
  rw [h1, h2, h3]
theorem TkAt.sg (q : TkAt f len st t) (v : Int32) : sgT f len t v = sgP f len st v := by
  obtain ⟨h0, h1, h2, h3, h4⟩ := q
  unfold sgT sgP
  rw [h2, h3]
theorem kdE_lt (h : ¬ kdE f len st = 0) : st < len := by
  unfold kdE at h
  by_cases y : st < len
  · exact y
  · rw [if_neg y] at h; exact absurd rfl h
theorem adv_le (h : st ≤ len) : adv f len st ≤ len := (stF_le (f := f) (nxF_le (f := f) h).2).2
theorem adv_lt (h : st < len) : st < adv f len st := by
  have h1 := nxF_le (f := f) (show st ≤ len by omega)
  have h2 := stF_le (f := f) h1.2
  unfold adv
  omega
theorem adv_ge (h : st ≤ len) : st ≤ adv f len st := by
  have h1 := nxF_le (f := f) h
  have h2 := stF_le (f := f) h1.2
  unfold adv
  omega
theorem wdP_k (h : wdP f len st k = true) : kdE f len st = 1 := by
  unfold wdP at h
  rw [Bool.and_eq_true, decide_eq_true_eq] at h
  exact h.1
theorem wdP_lt (h : wdP f len st k = true) : st < len := kdE_lt (by rw [wdP_k h]; decide)
theorem sgP_k {v : Int32} (h : sgP f len st v = true) : kdE f len st = 3 ∧ st < len ∧ f st = v := by
  unfold sgP at h
  rw [Bool.and_eq_true, Bool.and_eq_true, decide_eq_true_eq, decide_eq_true_eq, decide_eq_true_eq] at h
  exact h
theorem jtP_lt (h : ¬ jtP f len rank st = 0) : st < len := by
  apply kdE_lt
  intro e
  have w : ∀ k, wdP f len st k = false := fun k => by unfold wdP; rw [e]; rfl
  have s : ∀ v, sgP f len st v = false := fun v => by unfold sgP; rw [e]; rfl
  apply h
  unfold jtP
  simp only [w, s, Bool.false_eq_true, if_false]
  split <;> (try rfl)
  split <;> (try rfl)
  split <;> (try rfl)
  split <;> rfl
theorem ntP_le : ∀ (i st : Nat), st ≤ len → st + (ntP f len i st).1 ≤ (ntP f len i st).2 ∧ (ntP f len i st).2 ≤ len ∧ (ntP f len i st).1 ≤ i := by
  intro i
  induction i with
  | zero => intro st h; exact ⟨Nat.le_refl _, h, Nat.le_refl _⟩
  | succ i ih =>
    intro st h
    unfold ntP
    by_cases y : wdP f len st 8 = true
    · rw [if_pos y]
      have h1 := adv_lt (f := f) (wdP_lt y)
      obtain ⟨a, b, c⟩ := ih (adv f len st) (adv_le h)
      dsimp only
      omega
    · rw [if_neg y]
      dsimp only
      omega
theorem z2P_le (h : st ≤ len) : st + (z2P f len rank st).1 ≤ (z2P f len rank st).2 ∧ (z2P f len rank st).2 ≤ len ∧ (z2P f len rank st).1 ≤ 6 := by
  unfold z2P
  split
  · exact ntP_le 6 st h
  · exact ⟨Nat.le_refl _, h, Nat.zero_le 6⟩
/-- a part's codes take as many places as there are -/
def LenP (st len : Nat) (p : PR) : Prop := match p with
  | .inr e => st ≤ e.2 ∧ e.2 ≤ len
  | .inl r => st + r.2.length ≤ r.1 ∧ r.1 ≤ len
theorem lpP_len {G : Nat → PR} {J : Nat → Int32} (hG : ∀ s, s ≤ len → LenP s len (G s)) (hJ : ∀ s, ¬ J s = 0 → s < len) (s0 : Nat) : ∀ (k st : Nat) (c : List Int32), st ≤ len → s0 + c.length ≤ st → LenP s0 len (lpP G J (adv f len) k st c) := by
  intro k
  induction k with
  | zero => intro st c h1 h2; exact ⟨h2, h1⟩
  | succ k ih =>
    intro st c h1 h2
    unfold lpP
    by_cases y : J st = 0
    · rw [if_pos y]; exact ⟨h2, h1⟩
    · rw [if_neg y]
      have hl := adv_lt (f := f) (hJ st y)
      have := hG (adv f len st) (adv_le h1)
      cases hg : G (adv f len st) with
      | inr e =>
        rw [hg] at this
        have t1 : adv f len st ≤ e.2 ∧ e.2 ≤ len := this
        show s0 ≤ e.2 ∧ e.2 ≤ len
        omega
      | inl r =>
        rw [hg] at this
        have t1 : adv f len st + r.2.length ≤ r.1 ∧ r.1 ≤ len := this
        refine ih r.1 _ t1.2 ?_
        simp only [List.length_append, List.length_cons, List.length_nil]
        omega
theorem vlP_len (h : st ≤ len) : LenP st len (vlP f len st) := by
  unfold vlP
  by_cases y2 : kdE f len st = 2
  · rw [if_pos y2]
    have hl := kdE_lt (f := f) (len := len) (st := st) (by rw [y2]; decide)
    have h1 := adv_lt (f := f) hl
    have h2 := adv_le (f := f) h
    split
    · exact ⟨by simp only [List.length_cons, List.length_nil]; omega, h2⟩
    · exact ⟨Nat.le_refl _, h⟩
  · rw [if_neg y2]
    by_cases y1 : kdE f len st = 1
    · rw [if_pos y1]
      have hl := kdE_lt (f := f) (len := len) (st := st) (by rw [y1]; decide)
      have h1 := adv_lt (f := f) hl
      have h2 := adv_le (f := f) h
      split
      · exact ⟨Nat.le_refl _, h⟩
      · exact ⟨by simp only [List.length_cons, List.length_nil]; omega, h2⟩
    · rw [if_neg y1]; exact ⟨Nat.le_refl _, h⟩
theorem pX_len : ∀ (n rank dp st : Nat), st ≤ len → LenP st len (pX f len n rank dp st) := by
  intro n
  induction n with
  | zero => intro rank dp st h; exact ⟨Nat.le_refl _, h⟩
  | succ n ih =>
    intro rank dp st h
    unfold pX
    by_cases y5 : 5 ≤ rank
    · rw [if_pos y5]
      by_cases yo : sgP f len st 40 = true
      · rw [if_pos yo]
        have hl := adv_lt (f := f) (sgP_k yo).2.1
        have h2 := adv_le (f := f) h
        by_cases yd : dp + 1 < 6
        · rw [if_pos yd]
          have := ih 0 (dp + 1) (adv f len st) h2
          cases hp : pX f len n 0 (dp + 1) (adv f len st) with
          | inr e =>
            rw [hp] at this
            have t1 : adv f len st ≤ e.2 ∧ e.2 ≤ len := this
            show st ≤ e.2 ∧ e.2 ≤ len
            omega
          | inl r =>
            rw [hp] at this
            have t1 : adv f len st + r.2.length ≤ r.1 ∧ r.1 ≤ len := this
            show LenP st len (if sgP f len r.1 41 then .inl (adv f len r.1, r.2) else .inr (1, r.1))
            have h3 := adv_ge (f := f) t1.2
            have h4 := adv_le (f := f) t1.2
            split
            · exact ⟨by dsimp only; omega, h4⟩
            · exact ⟨by dsimp only; omega, t1.2⟩
        · rw [if_neg yd]; exact ⟨by dsimp only; omega, h2⟩
      · rw [if_neg yo]; exact vlP_len h
    · rw [if_neg y5]
      obtain ⟨z1, z2, z3⟩ := z2P_le (f := f) (rank := rank) h
      split
      · exact ⟨by dsimp only; omega, z2⟩
      · have := ih (rank + 1) dp (z2P f len rank st).2 z2
        generalize z2P f len rank st = z at *
        cases hp : pX f len n (rank + 1) dp z.2 with
        | inr e =>
          rw [hp] at this
          have t1 : z.2 ≤ e.2 ∧ e.2 ≤ len := this
          show st ≤ e.2 ∧ e.2 ≤ len
          omega
        | inl r =>
          rw [hp] at this
          have t1 : z.2 + r.2.length ≤ r.1 ∧ r.1 ≤ len := this
          have t2 := lpP_len (f := f) (G := pX f len n (rank + 1) dp) (J := jtP f len rank) (fun s hs => ih (rank + 1) dp s hs) (fun s hs => jtP_lt hs) z.2 (if rank = 2 then 1 else len) r.1 r.2 t1.2 t1.1
          show LenP st len (endP z.1 (lpP (pX f len n (rank + 1) dp) (jtP f len rank) (adv f len) (if rank = 2 then 1 else len) r.1 r.2))
          cases hl : lpP (pX f len n (rank + 1) dp) (jtP f len rank) (adv f len) (if rank = 2 then 1 else len) r.1 r.2 with
          | inr e =>
            rw [hl] at t2
            have t3 : z.2 ≤ e.2 ∧ e.2 ≤ len := t2
            show st ≤ e.2 ∧ e.2 ≤ len
            omega
          | inl r2 =>
            rw [hl] at t2
            have t3 : z.2 + r2.2.length ≤ r2.1 ∧ r2.1 ≤ len := t2
            refine ⟨?_, t3.2⟩
            simp only [List.length_append, List.length_replicate]
            omega
end PUR
