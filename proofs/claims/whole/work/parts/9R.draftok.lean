/-! THE DRAFT: what always holds of it -/
/-- the stack's height while these codes are done -/
def wfL : List Int32 → Nat → Nat → Prop
  | [], m, m' => m = m'
  | v :: c, m, m' => if ¬ v ≤ -7 then (m < 64 ∧ wfL c (m + 1) m') else if v = -7 then (1 ≤ m ∧ wfL c m m') else (2 ≤ m ∧ wfL c (m - 1) m')
theorem wfL_app : ∀ (c d : List Int32) (m m1 m2 : Nat), wfL c m m1 → wfL d m1 m2 → wfL (c ++ d) m m2 := by
  intro c
  induction c with
  | nil => intro d m m1 m2 h1 h2; have e : m = m1 := h1; rw [e]; exact h2
  | cons v c ih =>
    intro d m m1 m2 h1 h2
    rw [wfL] at h1
    rw [List.cons_append, wfL]
    by_cases y : ¬ v ≤ -7
    · rw [if_pos y] at h1 ⊢; exact ⟨h1.1, ih d _ m1 m2 h1.2 h2⟩
    · rw [if_neg y] at h1 ⊢
      by_cases z : v = -7
      · rw [if_pos z] at h1 ⊢; exact ⟨h1.1, ih d _ m1 m2 h1.2 h2⟩
      · rw [if_neg z] at h1 ⊢; exact ⟨h1.1, ih d _ m1 m2 h1.2 h2⟩
def okV (v : Int32) : Prop := (∃ b : Nat, b ≤ 9999 ∧ v = nI b) ∨ (∃ k : Nat, k < 6 ∧ v = -1 - nI k) ∨ v = -7 ∨ opS v
def OkC (c : List Int32) : Prop := ∀ v ∈ c, okV v
theorem OkC_app {c d : List Int32} (a : OkC c) (b : OkC d) : OkC (c ++ d) := fun v hv => by
  rcases List.mem_append.mp hv with h | h
  · exact a v h
  · exact b v h
theorem nb_n7 {b : Nat} (h : b ≤ 9999) : ¬ nI b ≤ -7 ∧ ¬ nI b < 0 := by
  refine ⟨fun e => ?_, nI_pos (by omega)⟩
  have := Int32.le_iff_toInt_le.mp e
  rw [nI_toInt (by omega)] at this
  have e7 : (-7 : Int32).toInt = -7 := rfl
  omega
theorem kv_n7 : ∀ k, k < 6 → ¬ (-1 - nI k) ≤ -7 ∧ (-1 - nI k) < 0 := by decide
theorem jt_opS {f : AF} {len r st : Nat} (hr : r ≤ 4) (h : ¬ jtP f len r st = 0) : opS (jtP f len r st) := by
  match r, hr with
  | 0, _ =>
    have e : jtP f len 0 st = if wdP f len st 6 then -8 else 0 := rfl
    rw [e] at h ⊢
    cases y : wdP f len st 6 with
    | true => exact Or.inl rfl
    | false => rw [y] at h; exact absurd rfl h
  | 1, _ =>
    have e : jtP f len 1 st = if wdP f len st 7 then -9 else 0 := rfl
    rw [e] at h ⊢
    cases y : wdP f len st 7 with
    | true => exact Or.inr (Or.inl rfl)
    | false => rw [y] at h; exact absurd rfl h
  | 2, _ =>
    have e : jtP f len 2 st = if sgP f len st 60 then -10 else if sgP f len st 61 then -11 else 0 := rfl
    rw [e] at h ⊢
    cases y : sgP f len st 60 with
    | true => exact Or.inr (Or.inr (Or.inl rfl))
    | false =>
      rw [y] at h
      cases y2 : sgP f len st 61 with
      | true => exact Or.inr (Or.inr (Or.inr (Or.inl rfl)))
      | false => rw [y2] at h; exact absurd rfl h
  | 3, _ =>
    have e : jtP f len 3 st = if sgP f len st 43 then -12 else if sgP f len st 45 then -13 else 0 := rfl
    rw [e] at h ⊢
    cases y : sgP f len st 43 with
    | true => exact Or.inr (Or.inr (Or.inr (Or.inr (Or.inl rfl))))
    | false =>
      rw [y] at h
      cases y2 : sgP f len st 45 with
      | true => exact Or.inr (Or.inr (Or.inr (Or.inr (Or.inr (Or.inl rfl)))))
      | false => rw [y2] at h; exact absurd rfl h
  | 4, _ =>
    have e : jtP f len 4 st = if sgP f len st 42 then -14 else if sgP f len st 47 then -15 else 0 := rfl
    rw [e] at h ⊢
    cases y : sgP f len st 42 with
    | true => exact Or.inr (Or.inr (Or.inr (Or.inr (Or.inr (Or.inr (Or.inl rfl))))))
    | false =>
      rw [y] at h
      cases y2 : sgP f len st 47 with
      | true => exact Or.inr (Or.inr (Or.inr (Or.inr (Or.inr (Or.inr (Or.inr rfl))))))
      | false => rw [y2] at h; exact absurd rfl h
theorem opS_le {v : Int32} (h : opS v) : v ≤ -7 ∧ ¬ v = -7 ∧ -15 ≤ v := by
  rcases h with rfl | rfl | rfl | rfl | rfl | rfl | rfl | rfl <;> decide
theorem wfL_op {v : Int32} {m : Nat} (h : opS v) (hm : 2 ≤ m) : wfL [v] m (m - 1) := by
  obtain ⟨a, b, _⟩ := opS_le h
  rw [wfL, if_neg (fun e => e a), if_neg b]
  exact ⟨hm, rfl⟩
theorem wfL_nots : ∀ (n m : Nat), 1 ≤ m → wfL (List.replicate n (-7)) m m := by
  intro n
  induction n with
  | zero => intro m _; rfl
  | succ n ih =>
    intro m hm
    rw [List.replicate_succ, wfL, if_neg (by decide), if_pos rfl]
    exact ⟨hm, ih m hm⟩
def WkP (p : PR) (m : Nat) : Prop := match p with
  | .inr _ => True
  | .inl r => wfL r.2 m (m + 1) ∧ OkC r.2
theorem lpP_ok {f : AF} {len rank : Nat} {G : Nat → PR} {m : Nat} (hr : rank ≤ 4) (hG : ∀ s, WkP (G s) (m + 1)) : ∀ (k st : Nat) (c : List Int32), wfL c m (m + 1) → OkC c → WkP (lpP G (jtP f len rank) (adv f len) k st c) m := by
  intro k
  induction k with
  | zero => intro st c h1 h2; exact ⟨h1, h2⟩
  | succ k ih =>
    intro st c h1 h2
    unfold lpP
    by_cases y : jtP f len rank st = 0
    · rw [if_pos y]; exact ⟨h1, h2⟩
    · rw [if_neg y]
      have := hG (adv f len st)
      cases hg : G (adv f len st) with
      | inr e => trivial
      | inl r =>
        rw [hg] at this
        have ho := jt_opS hr y
        have t1 : wfL r.2 (m + 1) (m + 2) ∧ OkC r.2 := this
        refine ih r.1 _ (wfL_app _ _ _ (m + 2) _ (wfL_app _ _ _ (m + 1) _ h1 t1.1) (wfL_op ho (by omega))) (OkC_app (OkC_app h2 t1.2) ?_)
        intro v hv
        rw [List.mem_singleton.mp hv]
        exact Or.inr (Or.inr (Or.inr ho))
theorem vlP_ok {f : AF} {len st m : Nat} (hm : m < 64) : WkP (vlP f len st) m := by
  unfold vlP
  by_cases y : kdE f len st = 2
  · rw [if_pos y]
    split
    · obtain ⟨b, b1, b2⟩ := nmb_r y
      show wfL [wvF f (min (nxF f len st - st) 4) st 0] m (m + 1) ∧ OkC [wvF f (min (nxF f len st - st) 4) st 0]
      rw [b2]
      obtain ⟨n1, n2⟩ := nb_n7 b1
      refine ⟨?_, fun v hv => by rw [List.mem_singleton.mp hv]; exact Or.inl ⟨b, b1, rfl⟩⟩
      rw [wfL, if_pos n1]
      exact ⟨hm, rfl⟩
    · trivial
  · rw [if_neg y]
    by_cases y1 : kdE f len st = 1
    · rw [if_pos y1]
      by_cases z : wcd (ofW f st (nxF f len st)) = 0
      · rw [if_pos z]; trivial
      · rw [if_neg z]
        obtain ⟨k1, k2⟩ := kw_of (f := f) (len := len) (st := st) y1
        have k5 : kwP f len st ≤ 5 := Nat.le_of_not_lt fun e => z (k2 (by omega))
        obtain ⟨c1, c2, c3, c4, c5⟩ := (wcd_rk _ (show kwP f len st < 15 by omega)).1 k5
        show wfL [wcd (ofW f st (nxF f len st))] m (m + 1) ∧ OkC [wcd (ofW f st (nxF f len st))]
        rw [k1 k5]
        refine ⟨?_, fun v hv => by rw [List.mem_singleton.mp hv]; exact Or.inr (Or.inl ⟨kwP f len st, by omega, c1⟩)⟩
        rw [wfL, if_pos c3]
        exact ⟨hm, rfl⟩
    · rw [if_neg y1]; trivial
theorem pX_ok {f : AF} {len : Nat} : ∀ (n rank dp st m : Nat), rank ≤ 5 → dp ≤ 5 → m + (7 * (6 - dp) - rank) ≤ 64 → WkP (pX f len n rank dp st) m := by
  intro n
  induction n with
  | zero => intro rank dp st m _ _ _; trivial
  | succ n ih =>
    intro rank dp st m h1 h2 h3
    unfold pX
    by_cases y5 : 5 ≤ rank
    · rw [if_pos y5]
      split
      · split
        · rename_i yd
          have := ih 0 (dp + 1) (adv f len st) m (by omega) (by omega) (by omega)
          cases hp : pX f len n 0 (dp + 1) (adv f len st) with
          | inr e => trivial
          | inl r =>
            rw [hp] at this
            show WkP (if sgP f len r.1 41 then .inl (adv f len r.1, r.2) else .inr (1, r.1)) m
            split
            · exact this
            · trivial
        · trivial
      · exact vlP_ok (by omega)
    · rw [if_neg y5]
      split
      · trivial
      · generalize z2P f len rank st = z
        have h0 := ih (rank + 1) dp z.2 m (by omega) h2 (by omega)
        cases hp : pX f len n (rank + 1) dp z.2 with
        | inr e => trivial
        | inl r =>
          rw [hp] at h0
          have h0' : wfL r.2 m (m + 1) ∧ OkC r.2 := h0
          have := lpP_ok (f := f) (len := len) (rank := rank) (G := pX f len n (rank + 1) dp) (m := m) (by omega) (fun s => ih (rank + 1) dp s (m + 1) (by omega) h2 (by omega)) (if rank = 2 then 1 else len) r.1 r.2 h0'.1 h0'.2
          show WkP (endP z.1 (lpP (pX f len n (rank + 1) dp) (jtP f len rank) (adv f len) (if rank = 2 then 1 else len) r.1 r.2)) m
          cases hl : lpP (pX f len n (rank + 1) dp) (jtP f len rank) (adv f len) (if rank = 2 then 1 else len) r.1 r.2 with
          | inr e => trivial
          | inl r2 =>
            rw [hl] at this
            have t : wfL r2.2 m (m + 1) ∧ OkC r2.2 := this
            refine ⟨wfL_app _ _ _ (m + 1) _ t.1 (wfL_nots _ _ (by omega)), OkC_app t.2 ?_⟩
            intro v hv
            rw [List.eq_of_mem_replicate hv]
            exact Or.inr (Or.inr (Or.inl rfl))
/-- a rule's codes -/
abbrev RuX : Type := Option (Nat × List Int32)
def RuL (co : AF) (n0 : Nat) (ru : RuV) (x : RuX) : Prop := match x with
  | none => ru = (0, 0, 0)
  | some y => ru = (1, nI y.1, nI (y.1 + y.2.length)) ∧ y.1 + y.2.length ≤ n0 ∧ (∀ i, i < y.2.length → co (y.1 + i) = y.2.getD i 0) ∧ wfL y.2 0 1 ∧ OkC y.2
abbrev mOf (T : ToldV) : Nat := cl (tK T).1
abbrev nOf (T : ToldV) : Nat := cl (tCl T)
def KnV_ (T : ToldV) : Prop := (∀ k, k < mOf T → ∃ l, 1 ≤ l ∧ l ≤ 4 ∧ (tK T).2.2.1 k = nI l) ∧ ∀ i j, i < j → j < mOf T → ¬ ((tK T).2.1 i = (tK T).2.1 j ∧ (tK T).2.2.1 i = (tK T).2.2.1 j)
/-- what always holds of the draft, at the place st -/
def DI (len st : Nat) (T : ToldV) (L : LandV) (xF xP : RuX) : Prop := (tN_ T ≤ 12 ∧ tW T ≤ 6 ∧ mOf T ≤ 8 ∧ (tK T).1 = nI (mOf T) ∧ tCl T = nI (nOf T) ∧ nOf T ≤ st ∧ st ≤ len ∧ len ≤ 700)
  ∧ ((tWg T = 0 ∧ tWk T = 7) ∨ (tWg T = 1 ∧ ∃ a, 1 ≤ a ∧ a ≤ 9 ∧ tWk T = nI a))
  ∧ ((tKg T = 0 ∧ mOf T = 0) ∨ (tKg T = 1 ∧ 0 < mOf T))
  ∧ KnV_ T ∧ SkOK T ∧ LOK (tN_ T) (tW T) L ∧ lDay L = 0
  ∧ RuL (tCo T) (nOf T) (tFr T) xF ∧ RuL (tCo T) (nOf T) (tPl T) xP
theorem RuL.co {co co' : AF} {n0 n1 : Nat} {ru : RuV} {x : RuX} (q : RuL co n0 ru x) (hn : n0 ≤ n1) (h : ∀ i, i < n0 → co' i = co i) : RuL co' n1 ru x := by
  cases x with
  | none => exact q
  | some y =>
    obtain ⟨a, b, c, d⟩ := q
    exact ⟨a, by omega, fun i hi => by rw [h _ (by omega)]; exact c i hi, d⟩
section DIS
variable {len st st' : Nat} {T : ToldV} {L : LandV} {xF xP : RuX} {f : AF}
theorem DI.go (q : DI len st T L xF xP) (h1 : st ≤ st') (h2 : st' ≤ len) : DI len st' T L xF xP := by
  obtain ⟨⟨a1, a2, a3, a4, a5, a6, a7, a8⟩, q⟩ := q
  exact ⟨⟨a1, a2, a3, a4, a5, by omega, h2, a8⟩, q⟩
/-- a number within its bounds -/
theorem nb_v {lo hi : Int32} {a b : Nat} (e : nbP f len lo hi st = 0) (h1 : lo = nI a) (h2 : hi = nI b) (hb : b ≤ 9999) (ha : a ≤ b) : ∃ c, a ≤ c ∧ c ≤ b ∧ vaP f len st = nI c := by
  obtain ⟨k, _, k1, k2⟩ := nb_ok e
  obtain ⟨c, c1, c2⟩ := nmb_r k
  have c2' : vaP f len st = nI c := c2
  rw [c2', h1] at k1
  rw [c2', h2] at k2
  exact ⟨c, nlt_nI (by omega) (by omega) k1, le_nI (by omega) (by omega) k2, c2'⟩
theorem DI.stretch (q : DI len st T L xF xP) (hN : tN_ T < 12) {x y z : Int32} (hx : ∃ a, a ≤ 99 ∧ x = nI a) (hy : ∃ a, a ≤ 99 ∧ y = nI a) (hz : ∃ a, a ≤ 2 ∧ z = nI a) : DI len st (zN_ T (tN_ T + 1)) (sSt (sSm (sStr L (tN_ T) x) (tN_ T) y) (tN_ T) z) xF xP := by
  obtain ⟨⟨a1, a2, a3⟩, b1, b2, b3, b4, ⟨b5, b6⟩, b7, b8⟩ := q
  refine ⟨⟨by show tN_ T + 1 ≤ 12; omega, a2, a3⟩, b1, b2, b3, b4, ⟨fun k hk => ?_, fun k hk => ?_⟩, b7, b8⟩
  · have hk' : k < tN_ T + 1 := hk
    show (∃ a, a ≤ 99 ∧ upd (lStr L) (tN_ T) x k = nI a) ∧ (∃ a, a ≤ 99 ∧ upd (lSm L) (tN_ T) y k = nI a) ∧ (∃ a, a ≤ 2 ∧ upd (lSt L) (tN_ T) z k = nI a)
    by_cases e : k = tN_ T
    · rw [e, pk_us, pk_us, pk_us]; exact ⟨hx, hy, hz⟩
    · rw [pk_un e, pk_un e, pk_un e]; exact b5 k (by omega)
  · obtain ⟨⟨j, j1, j2⟩, j3⟩ := b6 k hk
    exact ⟨⟨j, by show j < tN_ T + 1; omega, j2⟩, j3⟩
theorem DI.woman (q : DI len st T L xF xP) (hW : tW T < 6) {x y z : Int32} (hx : ∃ a, a ≤ 9 ∧ x = nI a) (hy : ∃ a, a < tN_ T ∧ y = nI a) (hz : ∃ a, a ≤ 99 ∧ z = nI a) : DI len st (zW (zSk T (upd (tSk T) (tW T) x)) (tW T + 1)) (sTh (sAt L (tW T) y) (tW T) z) xF xP := by
  obtain ⟨⟨a1, a2, a3⟩, b1, b2, b3, b4, ⟨b5, b6⟩, b7, b8⟩ := q
  refine ⟨⟨a1, by show tW T + 1 ≤ 6; omega, a3⟩, b1, b2, b3, fun w hw => ?_, ⟨b5, fun k hk => ?_⟩, b7, b8⟩
  · have hw' : w < tW T + 1 := hw
    show ∃ a, a ≤ 9 ∧ upd (tSk T) (tW T) x w = nI a
    by_cases e : w = tW T
    · rw [e, pk_us]; exact hx
    · rw [pk_un e]; exact b4 w (by omega)
  · have hk' : k < tW T + 1 := hk
    show (∃ j, j < tN_ T ∧ upd (lAt L) (tW T) y k = nI j) ∧ (∃ a, a ≤ 99 ∧ upd (lTh L) (tW T) z k = nI a)
    by_cases e : k = tW T
    · rw [e, pk_us, pk_us]; exact ⟨hy, hz⟩
    · rw [pk_un e, pk_un e]; exact b6 k (by omega)
theorem DI.week (q : DI len st T L xF xP) {x : Int32} (hx : ∃ a, 1 ≤ a ∧ a ≤ 9 ∧ x = nI a) : DI len st (zWk (zWg T 1) x) L xF xP := by
  obtain ⟨a, b1, b⟩ := q
  exact ⟨a, Or.inr ⟨rfl, hx⟩, b⟩
/-- a knot more; the flag is set -/
theorem DI.knot (q : DI len st T L xF xP) (hm : mOf T < 8) {x : Int32} {l : Nat} (h1 : 1 ≤ l) (h2 : l ≤ 4) (hh : hasB (tK T) (mOf T) x (nI l) = false) : DI len st (zK (zKg T 1) (nI (mOf T + 1), upd (tK T).2.1 (mOf T) x, upd (tK T).2.2.1 (mOf T) (nI l), (tK T).2.2.2)) L xF xP := by
  obtain ⟨⟨a1, a2, a3, a4, a5⟩, b1, b2, ⟨b3, b3'⟩, b4⟩ := q
  have e : mOf (zK (zKg T 1) (nI (mOf T + 1), upd (tK T).2.1 (mOf T) x, upd (tK T).2.2.1 (mOf T) (nI l), (tK T).2.2.2)) = mOf T + 1 := nI_clamp (by omega)
  have no : ∀ k, k < mOf T → ¬ ((tK T).2.1 k = x ∧ (tK T).2.2.1 k = nI l) := fun k hk z => by
    rw [hasB_yes hk z.1 z.2] at hh; cases hh
  refine ⟨⟨a1, a2, by rw [e]; omega, by rw [e]; rfl, a5⟩, b1, Or.inr ⟨rfl, by rw [e]; omega⟩, ⟨fun k hk => ?_, fun i j hij hj => ?_⟩, b4⟩
  · rw [e] at hk
    show ∃ l', 1 ≤ l' ∧ l' ≤ 4 ∧ upd (tK T).2.2.1 (mOf T) (nI l) k = nI l'
    by_cases ek : k = mOf T
    · rw [ek, pk_us]; exact ⟨l, h1, h2, rfl⟩
    · rw [pk_un ek]; exact b3 k (by omega)
  · rw [e] at hj
    show ¬ (upd (tK T).2.1 (mOf T) x i = upd (tK T).2.1 (mOf T) x j ∧ upd (tK T).2.2.1 (mOf T) (nI l) i = upd (tK T).2.2.1 (mOf T) (nI l) j)
    have ei : i ≠ mOf T := by omega
    rw [pk_un ei, pk_un ei]
    by_cases ej : j = mOf T
    · rw [ej, pk_us, pk_us]; exact no i (by omega)
    · rw [pk_un ej, pk_un ej]; exact b3' i j hij (by omega)
theorem apL_co : ∀ (c : List Int32) (T : ToldV) (n : Nat), (∀ i, i < n → tCo (apL T n c) i = tCo T i) ∧ ∀ i, i < c.length → tCo (apL T n c) (n + i) = c.getD i 0 := by
  intro c
  induction c with
  | nil => intro T n; exact ⟨fun _ _ => rfl, fun i hi => absurd hi (Nat.not_lt_zero _)⟩
  | cons v c ih =>
    intro T n
    obtain ⟨i1, i2⟩ := ih (apT T n v) (n + 1)
    refine ⟨fun i hi => ?_, fun i hi => ?_⟩
    · rw [apL, i1 i (by omega)]
      show upd (tCo T) n v i = _
      rw [pk_un (by omega)]
    · rw [apL]
      cases i with
      | zero =>
        show tCo (apL (apT T n v) (n + 1) c) n = _
        rw [i1 n (by omega)]
        show upd (tCo T) n v n = _
        rw [pk_us]; rfl
      | succ i =>
        simp only [List.length_cons] at hi
        rw [show n + (i + 1) = n + 1 + i by omega, i2 i (by omega)]
        rfl
/-- all else stays -/
theorem apL_eq : ∀ (c : List Int32) (T : ToldV) (n : Nat), apL T n c = zCl (zCo T (tCo (apL T n c))) (tCl (apL T n c)) := by
  intro c
  induction c with
  | nil => intro T n; rfl
  | cons v c ih =>
    intro T n
    rw [apL]
    have := ih (apT T n v) (n + 1)
    generalize apL (apT T n v) (n + 1) c = X at *
    rw [this]
    rfl
theorem DI.frays (q : DI len st T L none xP) {c : List Int32} (hc : nOf T + c.length ≤ st) (h1 : wfL c 0 1) (h2 : OkC c) : DI len st (enF (apL (zFr T (1, tCl T, tCl T)) (nOf T) c)) L (some (nOf T, c)) xP := by
  obtain ⟨⟨a1, a2, a3, a4, a5, a6, a7, a8⟩, b1, b2, b3, b4, b5, b6, b7, b8⟩ := q
  have hcl : tCl (apL (zFr T (1, tCl T, tCl T)) (nOf T) c) = nI (nOf T + c.length) := apL_cl c _ _ a5
  obtain ⟨c1, c2⟩ := apL_co c (zFr T (1, tCl T, tCl T)) (nOf T)
  rw [apL_eq] at hcl c1 c2 ⊢
  generalize tCo (apL (zFr T (1, tCl T, tCl T)) (nOf T) c) = co at *
  generalize tCl (apL (zFr T (1, tCl T, tCl T)) (nOf T) c) = k at *
  have hk : k = nI (nOf T + c.length) := hcl
  subst hk
  have en : nOf (enF (zCl (zCo (zFr T (1, tCl T, tCl T)) co) (nI (nOf T + c.length)))) = nOf T + c.length := nI_clamp (by omega)
  refine ⟨⟨a1, a2, a3, a4, by rw [en]; rfl, by rw [en]; omega, a7, a8⟩, b1, b2, b3, b4, b5, b6, ?_, ?_⟩
  · rw [en]
    refine ⟨?_, Nat.le_refl _, fun i hi => c2 i hi, h1, h2⟩
    show (1, tCl T, nI (nOf T + c.length)) = _
    rw [a5]
  · rw [en]
    exact b8.co (by omega) c1
theorem DI.pulls (q : DI len st T L xF none) {c : List Int32} (hc : nOf T + c.length ≤ st) (h1 : wfL c 0 1) (h2 : OkC c) : DI len st (enP (apL (zPl T (1, tCl T, tCl T)) (nOf T) c)) L xF (some (nOf T, c)) := by
  obtain ⟨⟨a1, a2, a3, a4, a5, a6, a7, a8⟩, b1, b2, b3, b4, b5, b6, b7, b8⟩ := q
  have hcl : tCl (apL (zPl T (1, tCl T, tCl T)) (nOf T) c) = nI (nOf T + c.length) := apL_cl c _ _ a5
  obtain ⟨c1, c2⟩ := apL_co c (zPl T (1, tCl T, tCl T)) (nOf T)
  rw [apL_eq] at hcl c1 c2 ⊢
  generalize tCo (apL (zPl T (1, tCl T, tCl T)) (nOf T) c) = co at *
  generalize tCl (apL (zPl T (1, tCl T, tCl T)) (nOf T) c) = k at *
  have hk : k = nI (nOf T + c.length) := hcl
  subst hk
  have en : nOf (enP (zCl (zCo (zPl T (1, tCl T, tCl T)) co) (nI (nOf T + c.length)))) = nOf T + c.length := nI_clamp (by omega)
  refine ⟨⟨a1, a2, a3, a4, by rw [en]; rfl, by rw [en]; omega, a7, a8⟩, b1, b2, b3, b4, b5, b6, ?_, ?_⟩
  · rw [en]
    exact b7.co (by omega) c1
  · rw [en]
    refine ⟨?_, Nat.le_refl _, fun i hi => c2 i hi, h1, h2⟩
    show (1, tCl T, nI (nOf T + c.length)) = _
    rw [a5]
end DIS
