/-! RING: what is new, on both sides -/
section RGP
theorem fl_le : ∀ (j n : Nat) (L : LandV), (lDay (flL j n L) = lDay L ∧ lAt (flL j n L) = lAt L ∧ lTh (flL j n L) = lTh L) ∧ (∀ k, k < n → lStr (flL j n L) k = lStr L k ∧ lSm (flL j n L) k = lSm L k ∧ lSt (flL j n L) k = lSt L k) ∧ (3 ≤ n + j → ∀ k, n ≤ k → k < 3 → lStr (flL j n L) k = 0 ∧ lSm (flL j n L) k = 50 ∧ lSt (flL j n L) k = 0) := by
  intro j
  induction j with
  | zero => intro n L; exact ⟨⟨rfl, rfl, rfl⟩, fun k _ => ⟨rfl, rfl, rfl⟩, fun h k h1 h2 => by omega⟩
  | succ j ih =>
    intro n L
    unfold flL
    by_cases y : 3 ≤ n
    · rw [if_pos y]; exact ⟨⟨rfl, rfl, rfl⟩, fun k _ => ⟨rfl, rfl, rfl⟩, fun h k h1 h2 => by omega⟩
    · rw [if_neg y]
      obtain ⟨⟨a1, a2, a3⟩, b, c⟩ := ih (n + 1) (flS n L)
      refine ⟨⟨a1, a2, a3⟩, fun k hk => ?_, fun h k h1 h2 => ?_⟩
      · obtain ⟨b1, b2, b3⟩ := b k (by omega)
        exact ⟨b1.trans (pk_un (by omega)), b2.trans (pk_un (by omega)), b3.trans (pk_un (by omega))⟩
      · by_cases e : k = n
        · subst e
          obtain ⟨b1, b2, b3⟩ := b k (by omega)
          exact ⟨b1.trans pk_us, b2.trans pk_us, b3.trans pk_us⟩
        · exact c (by omega) k (by omega) h2
theorem n3_le (n : Nat) : n ≤ n3 n ∧ 3 ≤ n3 n ∧ (n ≤ 12 → n3 n ≤ 12) ∧ ∀ k, k < n3 n → ¬ k < n → k < 3 := by
  unfold n3
  split <;> exact ⟨by omega, by omega, fun _ => by omega, fun k h1 h2 => by omega⟩
theorem wf_rel {co : AF} : ∀ (c : List Int32) (p m : Nat), wfL c m 1 → (∀ i, i < c.length → co (p + i) = c.getD i 0) → WfR co c.length p m := by
  intro c
  induction c with
  | nil => intro p m h _; exact h
  | cons v c ih =>
    intro p m h e
    have e0 : co p = v := e 0 (by simp)
    have e1 : ∀ i, i < c.length → co (p + 1 + i) = c.getD i 0 := fun i hi => by
      have := e (i + 1) (by simp; omega)
      rw [show p + (i + 1) = p + 1 + i by omega] at this
      rw [this]; rfl
    rw [wfL] at h
    show WfR co (c.length + 1) p m
    rw [WfR, e0]
    split at h
    · rename_i y; rw [if_pos y]; exact ⟨h.1, ih _ _ h.2 e1⟩
    · rename_i y
      rw [if_neg y]
      split at h
      · rename_i y2; rw [if_pos y2]; exact ⟨h.1, ih _ _ h.2 e1⟩
      · rename_i y2; rw [if_neg y2]; exact ⟨h.1, ih _ _ h.2 e1⟩
theorem stk_at {f : AF} : ∀ {X : List Int32} {y : Int32} {Z : List Int32}, Stk f (X ++ y :: Z) → f Z.length = y := by
  intro X
  induction X with
  | nil => intro y Z h; exact h.1
  | cons x X ih => intro y Z h; exact ih h.2
theorem Stk.congr {f f' : AF} : ∀ {l : List Int32}, (∀ k, k < l.length → f' k = f k) → Stk f l → Stk f' l := by
  intro l
  induction l with
  | nil => intro _ _; trivial
  | cons x l ih => intro e h; exact ⟨(e l.length (by simp)).trans h.1, ih (fun k hk => e k (by simp; omega)) h.2⟩
theorem code_rel {co code : AF} {out : List Int32} (hs : Stk code out) (hl : out.length ≤ 1400) : ∀ (c : List Int32) (p : Nat) (pre post : List Int32), out = post ++ (0 :: enR c ++ pre) → OkC c → (∀ i, i < c.length → co (p + i) = c.getD i 0) → CodeR co code c.length p pre.length := by
  intro c
  induction c with
  | nil =>
    intro p pre post eo _ _
    refine ⟨?_, ?_⟩
    · rw [eo] at hl
      simp [enR] at hl
      omega
    · exact stk_at (X := post) (by rw [eo] at hs; exact hs)
  | cons v c ih =>
    intro p pre post eo ok e
    have e0 : co p = v := e 0 (by simp)
    have e1 : ∀ i, i < c.length → co (p + 1 + i) = c.getD i 0 := fun i hi => by
      have := e (i + 1) (by simp; omega)
      rw [show p + (i + 1) = p + 1 + i by omega] at this
      rw [this]; rfl
    have ok1 : OkC c := fun w hw => ok w (List.mem_cons_of_mem _ hw)
    have okv := ok v (by simp)
    have eo2 : out = post ++ (0 :: enR c ++ (en1 v ++ pre)) := by rw [eo, enR]; simp
    have r := ih (p + 1) (en1 v ++ pre) post eo2 ok1 e1
    show CodeR co code (c.length + 1) p pre.length
    rw [CodeR, e0]
    by_cases y : ¬ v ≤ -7
    · rw [if_pos y]
      have l2 : (en1 v ++ pre).length = pre.length + 2 := by
        unfold en1; rw [if_neg y]; split <;> simp <;> omega
      rw [l2] at r
      have hl2 : pre.length + 1 < 1400 := by
        rw [eo2] at hl
        simp only [List.length_append, List.length_cons] at hl l2
        omega
      refine ⟨hl2, ?_, r⟩
      by_cases y2 : v < 0
      · rw [if_pos y2]
        have ee : en1 v = [-1 - v, 2] := by unfold en1; rw [if_neg y, if_pos y2]
        rw [ee] at eo2
        have h1 : code pre.length = 2 := stk_at (X := post ++ (0 :: enR c ++ [-1 - v])) (by rw [eo2] at hs; simpa using hs)
        have h2 : code (pre.length + 1) = -1 - v := by
          have : code (2 :: pre).length = -1 - v := stk_at (X := post ++ (0 :: enR c)) (by rw [eo2] at hs; simpa using hs)
          exact this
        refine ⟨h1, ?_⟩
        rcases okv with ⟨b, hb, eb⟩ | ⟨k, hk, ek⟩ | e7 | os
        · rw [eb] at y2; exact absurd y2 (nI_pos (by omega))
        · refine ⟨k, hk, ?_, ek⟩
          rw [h2, ek]
          exact (by decide +kernel : ∀ k, k < 6 → (-1 : Int32) - (-1 - nI k) = nI k) k hk
        · rw [e7] at y; exact absurd (by decide) y
        · rcases os with z | z | z | z | z | z | z | z <;> (rw [z] at y; exact absurd (by decide) y)
      · rw [if_neg y2]
        have ee : en1 v = [v, 1] := by unfold en1; rw [if_neg y, if_neg y2]
        rw [ee] at eo2
        refine ⟨stk_at (X := post ++ (0 :: enR c ++ [v])) (by rw [eo2] at hs; simpa using hs), ?_⟩
        have : code (1 :: pre).length = v := stk_at (X := post ++ (0 :: enR c)) (by rw [eo2] at hs; simpa using hs)
        exact this
    · rw [if_neg y]
      have y' : v ≤ -7 := Classical.not_not.mp y
      have ee : en1 v = [opR v] := by unfold en1; rw [if_pos y']
      rw [ee] at eo2 r
      have hl2 : pre.length < 1400 := by
        rw [eo2] at hl
        simp only [List.length_append, List.length_cons] at hl
        omega
      refine ⟨hl2, stk_at (X := post ++ (0 :: enR c)) (by rw [eo2] at hs; simpa using hs), ?_, r⟩
      rcases okv with ⟨b, hb, eb⟩ | ⟨k, hk, ek⟩ | e7 | os
      · rw [eb] at y'
        have h1 := Int32.le_iff_toInt_le.mp y'
        rw [nI_toInt (by omega)] at h1
        have : (-7 : Int32).toInt = -7 := rfl
        omega
      · rw [ek] at y' ⊢
        rcases k with _ | _ | _ | _ | _ | _ | k <;> first | exact absurd y' (by decide) | omega
      · rw [e7]; decide
      · rcases os with z | z | z | z | z | z | z | z <;> (rw [z]; decide)
theorem ru_rel {co code : AF} {out : List Int32} {n0 : Nat} {ru : RuV} {at_ : Int32} {x : RuX} (hs : Stk code out) (hl : out.length ≤ 1400) (hn : n0 ≤ 700) (a : RuL co n0 ru x) (b : RuA out at_ x) : RuR co code ru at_ := by
  cases x with
  | none =>
    have a : ru = (0, 0, 0) := a
    rw [a]
    exact Or.inl ⟨rfl, b⟩
  | some y =>
    obtain ⟨a1, a2, a3, a4, a5⟩ := a
    obtain ⟨pre, post, b1, b2⟩ := b
    rw [a1]
    have hp : pre.length < 1400 := by
      rw [b2] at hl
      simp only [List.length_append, List.length_cons] at hl
      omega
    refine Or.inr ⟨rfl, pre.length, y.1, y.1 + y.2.length, b1, hp, ⟨rfl, rfl, by omega, by omega⟩, ?_, ?_⟩
    · rw [Nat.add_sub_cancel_left]
      exact code_rel hs hl y.2 y.1 pre post b2 a5 a3
    · rw [Nat.add_sub_cancel_left]
      exact wf_rel y.2 y.1 0 a4 a3
theorem cl_nI {n : Nat} (h : n < 2 ^ 31) : cl (nI n) = n := nI_clamp h
theorem ru_ok {co : AF} {n0 : Nat} {ru : RuV} {x : RuX} (hn : n0 ≤ 700) (a : RuL co n0 ru x) : RuOK ru (cl ru.2.1) (cl ru.2.2) := by
  cases x with
  | none =>
    have a : ru = (0, 0, 0) := a
    rw [a]
    exact ⟨rfl, rfl, Nat.le_refl _, by show cl 0 ≤ 700; decide⟩
  | some y =>
    obtain ⟨a1, a2, _⟩ := a
    rw [a1]
    show RuOK (1, nI y.1, nI (y.1 + y.2.length)) (cl (nI y.1)) (cl (nI (y.1 + y.2.length)))
    rw [cl_nI (by omega), cl_nI (by omega)]
    exact ⟨rfl, rfl, by omega, by omega⟩
theorem iv_ringS {s : CoreV} {T : ToldV} {L : LandV} {len st : Nat} {xF xP : RuX} (hb : BtOK (sTp s)) (di : DI len st T L xF xP) : IV (ringS s T L) := by
  obtain ⟨⟨d1, d2, d3, d4, d5, d6, d7, d8⟩, dw, _, dk, ds, dl, d0, rF, rP⟩ := di
  obtain ⟨m1, m2, m3, m4⟩ := n3_le (tN_ T)
  obtain ⟨⟨f1, f2, f3⟩, f4, f5⟩ := fl_le 3 (tN_ T) L
  have hw : ¬ tWk T ≤ 0 := by
    rcases dw with ⟨_, e⟩ | ⟨_, a, a1, a2, e⟩
    · rw [e]; decide
    · rw [e]; exact fun z => absurd (le_nI (y := 0) (by omega) (by omega) z) (by omega)
  refine ⟨⟨⟨m2, m3 d1, d2⟩, ⟨ru_ok (n0 := nOf T) (by omega) rF, ru_ok (n0 := nOf T) (by omega) rP⟩, hw⟩, ds, ⟨mOf T, ⟨d3, d4⟩, dk.1, dk.2⟩, ⟨fun k hk => ?_, fun k hk => ?_⟩, ⟨⟨Nat.zero_le _, by show 0 < 40; omega⟩, fun i hi => absurd hi (Nat.not_lt_zero _)⟩, ⟨⟨Nat.zero_le _, fun k hk => absurd hk (Nat.not_lt_zero _)⟩, fun k hk => absurd hk (Nat.not_lt_zero _)⟩, Or.inl rfl, Nat.zero_le _, hb⟩
  · show (∃ a, a ≤ 99 ∧ lStr (flL 3 (tN_ T) L) k = nI a) ∧ (∃ a, a ≤ 99 ∧ lSm (flL 3 (tN_ T) L) k = nI a) ∧ (∃ a, a ≤ 2 ∧ lSt (flL 3 (tN_ T) L) k = nI a)
    by_cases y : k < tN_ T
    · obtain ⟨e1, e2, e3⟩ := f4 k y
      rw [e1, e2, e3]
      exact dl.1 k y
    · obtain ⟨e1, e2, e3⟩ := f5 (by omega) k (by omega) (m4 k hk y)
      exact ⟨⟨0, by omega, e1⟩, ⟨50, by omega, e2⟩, ⟨0, by omega, e3⟩⟩
  · show (∃ j, j < n3 (tN_ T) ∧ lAt (flL 3 (tN_ T) L) k = nI j) ∧ (∃ a, a ≤ 99 ∧ lTh (flL 3 (tN_ T) L) k = nI a)
    rw [f2, f3]
    obtain ⟨⟨j, j1, j2⟩, b⟩ := dl.2 k hk
    exact ⟨⟨j, by omega, j2⟩, b⟩
/-- what ring has taken over, in the reference -/
def RgN (N : Nat) (R R' : RefV) : Prop := (ri R' 1 = nI (n3 N) ∧ ri R' 2 = ri R 25 ∧ ri R' 3 = ri R 26 ∧ ri R' 4 = (if ri R 27 = -1 then 7 else ri R 27) ∧ ri R' 5 = ri R 28 ∧ ri R' 6 = ri R 29) ∧ (ri R' 42 = 0 ∧ ri R' 51 = 0 ∧ ri R' 57 = 0 ∧ ri R' 12 = ri R 12 ∧ ri R' 14 = ri R 14 ∧ ra R' 5 = ra R 5 ∧ ra R' 6 = ra R 6) ∧ (∀ k, k < 6 → ra R' 1 k = ra R 7 k) ∧ (∀ k, k < 8 → ra R' 2 k = ra R 8 k) ∧ (∀ k, k < 8 → ra R' 3 k = ra R 9 k) ∧ (∀ k, k < 1400 → ra R' 4 k = ra R 11 k) ∧ ∀ k, k < 49 → ra R' 14 k = (if N + 13 ≤ k ∧ k < 16 then 50 else ra R 10 k)
theorem rs_ringS {s : CoreV} {T : ToldV} {L : LandV} {len st : Nat} {xF xP : RuX} {out : List Int32} {R R' : RefV} (di : DI len st T L xF xP) (db : DB T L xF xP out R) (ho : out.length ≤ 2 * st) (n : RgN (tN_ T) R R') (e12 : ri R 12 = 0) (e14 : ri R 14 = -1) (e5 : ∀ k, k < 700 → ra R 5 k = sTp s k &&& 255) (e6 : ra R 6 0 = oRt (sO s) ∧ ra R 6 1 = oRa (sO s) ∧ ra R 6 2 = oRs (sO s)) : RS (ringS s T L) R' := by
  obtain ⟨⟨d1, d2, d3, d4, d5, d6, d7, d8⟩, dw, _, dk, ds, dl, d0, rF, rP⟩ := di
  obtain ⟨⟨b24, b25, b26, b27⟩, ⟨bF, bP⟩, ⟨b30, bs⟩, b7, b8, w0, w1, w2, w3⟩ := db
  obtain ⟨⟨n1, n2, n3', n4, n5, n6⟩, ⟨n42, n51, n57, n12, n14, na5, na6⟩, a1, a2, a3, a4, a14⟩ := n
  obtain ⟨m1, m2, m3, m4⟩ := n3_le (tN_ T)
  obtain ⟨⟨f1, f2, f3⟩, f4, f5⟩ := fl_le 3 (tN_ T) L
  have hl : out.length ≤ 1400 := by omega
  have stk : Stk (ra R' 4) out := bs.congr fun k hk => a4 k (by omega)
  have e27 : (if ri R 27 = -1 then 7 else ri R 27) = tWk T := by
    rw [b27]
    rcases dw with ⟨z, e⟩ | ⟨z, a, a1, a2, e⟩
    · rw [if_pos z, if_pos rfl, e]
    · have z1 : ¬ tWg T = 0 := by rw [z]; decide
      rw [if_neg z1, if_neg]
      intro z2
      rw [e] at z2
      have := congrArg Int32.toInt z2
      rw [nI_toInt (by omega)] at this
      have e1 : (-1 : Int32).toInt = -1 := rfl
      omega
  refine ⟨⟨n1, n2.trans b25, n4.trans e27, fun w hw => ?_, ?_, ?_⟩, ⟨n3'.trans b26, fun k hk => ?_⟩, ⟨n12.trans e12, fun k hk => ?_⟩, n14.trans e14, ?_, ⟨?_, fun k hk => ?_, fun k hk => ?_⟩, ⟨n42, fun i hi => absurd hi (Nat.not_lt_zero _)⟩, ⟨n51, fun i hi => absurd hi (Nat.not_lt_zero _)⟩, n57, fun z => absurd z (by show ¬ (0 : Int32) = 1; decide)⟩
  · have hw' : w < tW T := hw
    rw [a1 w (by omega)]; exact b7 w hw
  · rw [n5]; exact ru_rel (n0 := nOf T) stk hl (by omega) rF bF
  · rw [n6]; exact ru_rel (n0 := nOf T) stk hl (by omega) rP bP
  · have hk' : k < mOf T := hk
    rw [a2 k (by omega), a3 k (by omega)]; exact b8 k hk
  · rw [na5]; exact e5 k hk
  · rw [na6]; exact e6
  · show ra R' 14 0 = lDay (flL 3 (tN_ T) L)
    rw [f1, d0, a14 0 (by omega), if_neg (by omega)]
    exact w0
  · have hk' : k < n3 (tN_ T) := hk
    have h12 : k < 12 := by have := m3 d1; omega
    show ra R' 14 (0 + 1 + k) = lStr (flL 3 (tN_ T) L) k ∧ ra R' 14 (0 + 13 + k) = lSm (flL 3 (tN_ T) L) k ∧ ra R' 14 (0 + 25 + k) = lSt (flL 3 (tN_ T) L) k
    rw [a14 _ (by omega), a14 _ (by omega), a14 _ (by omega), if_neg (show ¬ (tN_ T + 13 ≤ 0 + 1 + k ∧ 0 + 1 + k < 16) by omega), if_neg (show ¬ (tN_ T + 13 ≤ 0 + 25 + k ∧ 0 + 25 + k < 16) by omega)]
    by_cases y : k < tN_ T
    · rw [if_neg (by omega), (f4 k y).1, (f4 k y).2.1, (f4 k y).2.2, show 0 + 1 + k = 1 + k by omega, show 0 + 13 + k = 13 + k by omega, show 0 + 25 + k = 25 + k by omega]
      exact w1 k y
    · have k3 := m4 k hk' y
      rw [if_pos (by omega), (f5 (by omega) k (by omega) k3).1, (f5 (by omega) k (by omega) k3).2.1, (f5 (by omega) k (by omega) k3).2.2, show 0 + 1 + k = 1 + k by omega, show 0 + 25 + k = 25 + k by omega]
      exact ⟨(w2 k (by omega) h12).1, rfl, (w2 k (by omega) h12).2⟩
  · have hk' : k < tW T := hk
    show ra R' 14 (0 + 37 + k) = lAt (flL 3 (tN_ T) L) k ∧ ra R' 14 (0 + 43 + k) = lTh (flL 3 (tN_ T) L) k
    rw [a14 _ (by omega), a14 _ (by omega), if_neg (by omega), if_neg (by omega), f2, f3, show 0 + 37 + k = 37 + k by omega, show 0 + 43 + k = 43 + k by omega]
    exact w3 k hk'
end RGP
