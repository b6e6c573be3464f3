/-! THE READER: a token taken -/
def wvF (f : AF) : Nat → Nat → Int32 → Int32
  | 0, _, v => v
  | j + 1, k, v => wvF f j (k + 1) (10 * v + f k - 48)
def skB (f : AF) (len : Nat) : Nat → Nat → Nat
  | 0, k => k
  | j + 1, k => if kdE f len k = 4 then skB f len j (k + 1) else k
def rnB (f : AF) (len : Nat) (kd : Int32) : Nat → Nat → Nat
  | 0, k => k
  | j + 1, k => if kdE f len k = kd then rnB f len kd j (k + 1) else k
theorem skB_r {f : AF} {len : Nat} : ∀ (j k : Nat), k ≤ skB f len j k ∧ skB f len j k ≤ k + j := by
  intro j
  induction j with
  | zero => intro k; exact ⟨Nat.le_refl _, Nat.le_refl _⟩
  | succ j ih =>
    intro k
    unfold skB
    split
    · have := ih (k + 1); omega
    · omega
theorem rnB_r {f : AF} {len : Nat} {kd : Int32} : ∀ (j k : Nat), k ≤ rnB f len kd j k ∧ rnB f len kd j k ≤ k + j := by
  intro j
  induction j with
  | zero => intro k; exact ⟨Nat.le_refl _, Nat.le_refl _⟩
  | succ j ih =>
    intro k
    unfold rnB
    split
    · have := ih (k + 1); omega
    · omega
def stF (f : AF) (len nx : Nat) : Nat := skB f len (len - nx) nx
def nxF (f : AF) (len st : Nat) : Nat := if kdE f len st = 1 ∨ kdE f len st = 2 then rnB f len (kdE f len st) (len - min (st + 1) len) (min (st + 1) len) else min (st + 1) len
theorem stF_le {f : AF} {len nx : Nat} (h : nx ≤ len) : nx ≤ stF f len nx ∧ stF f len nx ≤ len := by
  have := skB_r (f := f) (len := len) (len - nx) nx
  unfold stF; omega
theorem nxF_le {f : AF} {len st : Nat} (h : st ≤ len) : min (st + 1) len ≤ nxF f len st ∧ nxF f len st ≤ len := by
  unfold nxF
  split
  · have := rnB_r (f := f) (len := len) (kd := kdE f len st) (len - min (st + 1) len) (min (st + 1) len)
    omega
  · omega
def tkF (f : AF) (len : Nat) (t : TkV) : TkV := (nxF f len (stF f len t.1), kdE f len (stF f len t.1), stF f len t.1, if kdE f len (stF f len t.1) = 2 then (wvF f (min (nxF f len (stF f len t.1) - stF f len t.1) 4) (stF f len t.1) 0, nI (nxF f len (stF f len t.1) - stF f len t.1)) else t.2.2.2)
section RD6
variable {g : GG} {h : Hp} {A d tx len td ld k : Nat} {q : Int32 × Int32} {t : TkV} {f : AF}
theorem c_weighNumber (hg : GOK g) (hd : 8 ≤ d) (c : RdA h A q tx len td ld t) (x : TxA h A tx len f) (h1 : t.2.2.1 ≤ t.1) (h2 : t.1 ≤ len) : CT g d yX5_weighNumber (wsC yX5_weighNumber cX5_weighNumber 2 none) [.ref A] h 0 0 (fun v h2 => v = none ∧ h2 = pD h A q tx len td ld (t.1, t.2.1, t.2.2.1, wvF f (min (t.1 - t.2.2.1) 4) t.2.2.1 0, nI (t.1 - t.2.2.1))) noT := by
  have l7 := x.2.2
  refine CT_ofB (by decide +kernel) (Nat.le_of_ble_eq_true rfl) rfl fun K X => ?_
  have c1 := c.put q (t.1, t.2.1, t.2.2.1, t.2.2.2.1, nI (t.1 - t.2.2.1))
  refine b_X5_weighNumber_0 hg hd k00 X _ _ ⟨_, c.g6, _, c.g8, ?_⟩
  rw [pk_sub h1]
  refine ⟨_, c.w10 _, _, c1.w9 0, ?_⟩
  rw [c.pp]
  have lp : ∀ (j k : Nat) (v : Int32), k + j = t.2.2.1 + min (t.1 - t.2.2.1) 4 → wvF f j k v = wvF f (min (t.1 - t.2.2.1) 4) t.2.2.1 0 → VB g K 2 d 0 0 (fun v h2 => v = none ∧ h2 = pD h A q tx len td ld (t.1, t.2.1, t.2.2.1, wvF f (min (t.1 - t.2.2.1) 4) t.2.2.1 0, nI (t.1 - t.2.2.1))) noT 0 0 23 [some (.ref A), some (.int (nI k))] [] (pD h A q tx len td ld (t.1, t.2.1, t.2.2.1, v, nI (t.1 - t.2.2.1))) := by
    intro j
    induction j with
    | zero =>
      intro k v hk he
      have he' : v = wvF f (min (t.1 - t.2.2.1) 4) t.2.2.1 0 := he
      have c2 := c.put q (t.1, t.2.1, t.2.2.1, v, nI (t.1 - t.2.2.1))
      refine b_X5_weighNumber_23 hg hd k00 X _ _ _ ⟨_, c2.g6, fun _ => ⟨rfl, by rw [he']⟩, fun y => ⟨_, c2.g8, fun _ => ⟨rfl, by rw [he']⟩, fun y2 => ?_⟩⟩
      have y' := nle_nI (by show t.1 < _; omega) (by omega) y
      rw [show nI (t.1, t.2.1, t.2.2.1, v, nI (t.1 - t.2.2.1)).2.2.1 + 4 = nI (t.2.2.1 + 4) from nI_add _ 4] at y2
      have y2' := nle_nI (by omega) (by omega) y2
      have y1 : k < t.1 := y'
      omega
    | succ j ih =>
      intro k v hk he
      have c2 := c.put q (t.1, t.2.1, t.2.2.1, v, nI (t.1 - t.2.2.1))
      have x2 := x.pd (td := td) (ld := ld) q (t.1, t.2.1, t.2.2.1, v, nI (t.1 - t.2.2.1))
      refine b_X5_weighNumber_23 hg hd k00 X _ _ _ ⟨_, c2.g6, fun y => ?_, fun y => ⟨_, c2.g8, fun y2 => ?_, fun y2 => ⟨_, c2.g9, _, c2.g2, _, x2.r (by omega), _, c2.w9 _, ?_⟩⟩⟩
      · have y' : t.1 ≤ k := le_nI (by show t.1 < _; omega) (by omega) y
        omega
      · rw [show nI (t.1, t.2.1, t.2.2.1, v, nI (t.1 - t.2.2.1)).2.2.1 + 4 = nI (t.2.2.1 + 4) from nI_add _ 4] at y2
        have y2' := le_nI (by omega) (by omega) y2
        omega
      · rw [c.pp, nI_s]
        exact ih (k + 1) _ (by omega) he
  exact ⟨_, (c.put q (t.1, t.2.1, t.2.2.1, 0, nI (t.1 - t.2.2.1))).g8, lp (min (t.1 - t.2.2.1) 4) t.2.2.1 0 rfl rfl⟩
theorem c_takeToken (hg : GOK g) (hd : 9 ≤ d) (c : RdA h A q tx len td ld t) (x : TxA h A tx len f) (h1 : t.1 ≤ len) : CT g d yX5_takeToken (wsC yX5_takeToken cX5_takeToken 2 none) [.ref A] h 0 0 (fun v h2 => v = none ∧ h2 = pD h A q tx len td ld (tkF f len t)) noT := by
  have l7 := x.2.2
  have hst := stF_le (f := f) h1
  have hnx := nxF_le (f := f) hst.2
  refine CT_ofB (by decide +kernel) (Nat.le_of_ble_eq_true rfl) rfl fun K X => ?_
  generalize eS : stF f len t.1 = st at *
  generalize eN : nxF f len st = nx at *
  have eT : tkF f len t = (nx, kdE f len st, st, if kdE f len st = 2 then (wvF f (min (nx - st) 4) st 0, nI (nx - st)) else t.2.2.2) := by rw [tkF, eS, eN]
  rw [eT]
  clear eT
  -- the number weighed
  have last : VB g K 2 d 0 0 (fun v h2 => v = none ∧ h2 = pD h A q tx len td ld (nx, kdE f len st, st, if kdE f len st = 2 then (wvF f (min (nx - st) 4) st 0, nI (nx - st)) else t.2.2.2)) noT 0 0 126 [some (.ref A), none] [] (pD h A q tx len td ld (nx, kdE f len st, st, t.2.2.2)) := by
    have c2 := c.put q (nx, kdE f len st, st, t.2.2.2)
    refine b_X5_takeToken_126 hg (by omega) k00 X _ _ ⟨_, c2.g7, fun y => ⟨rfl, ?_⟩, fun y => ⟨_, c2.o, use_v (c_weighNumber (d := d - 1) hg (by omega) c2 (x.pd q _) (by show st ≤ nx; omega) (by show nx ≤ len; omega)) (by omega) k00 ?_⟩⟩
    · have y' : ¬ kdE f len st = 2 := y
      rw [if_neg y']
    · intro h2 e
      have y' : kdE f len st = 2 := y
      rw [e, c.pp]
      refine ⟨rfl, ?_⟩
      rw [if_pos y']
  -- the run
  have run : kdE f len st = 1 ∨ kdE f len st = 2 → ∀ (j k : Nat), k + j = len → rnB f len (kdE f len st) j k = nx → VB g K 2 d 0 0 (fun v h2 => v = none ∧ h2 = pD h A q tx len td ld (nx, kdE f len st, st, if kdE f len st = 2 then (wvF f (min (nx - st) 4) st 0, nI (nx - st)) else t.2.2.2)) noT 0 0 93 [some (.ref A), some (.int (nI k))] [] (pD h A q tx len td ld (k, kdE f len st, st, t.2.2.2)) := by
    intro hk12 j
    induction j with
    | zero =>
      intro k hk he
      have he' : k = nx := he
      subst he'
      have c2 := c.put q (k, kdE f len st, st, t.2.2.2)
      exact b_X5_takeToken_93 hg (by omega) k00 X _ _ _ ⟨_, c2.g3, fun _ => last, fun y => absurd (nle_nI (by omega) (by omega) y) (by omega)⟩
    | succ j ih =>
      intro k hk he
      have c2 := c.put q (k, kdE f len st, st, t.2.2.2)
      rw [rnB] at he
      refine b_X5_takeToken_93 hg (by omega) k00 X _ _ _ ⟨_, c2.g3, fun y => absurd (le_nI (by omega) (by omega) y) (by omega), fun y => ⟨_, c2.o, use_i (c_kindAt (d := d - 1) hg (by omega) c2 (x.pd q _) (k := k) (by omega)) (by omega) k00 ⟨_, c2.g7, fun z => ?_, fun z => ?_⟩⟩⟩
      · have z' : ¬ kdE f len k = kdE f len st := z
        rw [if_neg z'] at he
        subst he
        exact last
      · have z' : kdE f len k = kdE f len st := z
        rw [if_pos z'] at he
        rw [nI_s]
        refine ⟨_, c2.w6 (k + 1), ?_⟩
        rw [c.pp]
        exact ih (k + 1) (by omega) he
  -- the kind
  have kind : VB g K 2 d 0 0 (fun v h2 => v = none ∧ h2 = pD h A q tx len td ld (nx, kdE f len st, st, if kdE f len st = 2 then (wvF f (min (nx - st) 4) st 0, nI (nx - st)) else t.2.2.2)) noT 0 0 43 [some (.ref A), none] [] (pD h A q tx len td ld (t.1, t.2.1, st, t.2.2.2)) := by
    have c2 := c.put q (t.1, t.2.1, st, t.2.2.2)
    have c3 := c.put q (t.1, kdE f len st, st, t.2.2.2)
    have c4 := c.put q (min (st + 1) len, kdE f len st, st, t.2.2.2)
    refine b_X5_takeToken_43 hg (by omega) k00 X _ _ ⟨_, c2.g8, _, c2.o, use_i (c_kindAt (d := d - 1) hg (by omega) c2 (x.pd q _) (k := st) (by omega)) (by omega) k00 ⟨_, c2.w7 _, ?_⟩⟩
    rw [c.pp]
    refine ⟨_, c3.g8, _, c3.g3, ?_⟩
    have em : (if nI len < nI (t.1, kdE f len st, st, t.2.2.2).2.2.1 + 1 then nI len else nI (t.1, kdE f len st, st, t.2.2.2).2.2.1 + 1) = nI (min (st + 1) len) := by
      rw [show nI (t.1, kdE f len st, st, t.2.2.2).2.2.1 + 1 = nI (st + 1) from nI_s st]
      by_cases y : len < st + 1
      · rw [if_pos ((nI_ltI (by omega) (by omega)).mpr y)]; congr 1; omega
      · rw [if_neg (fun e => y ((nI_ltI (by omega) (by omega)).mp e))]; congr 1; omega
    rw [em]
    refine ⟨_, c3.w6 _, ?_⟩
    rw [c.pp]
    unfold nxF at eN
    refine ⟨_, c4.g7, fun y => ?_, fun y => ⟨_, c4.g7, fun z => ?_, fun z => ?_⟩⟩
    · have y' : kdE f len st = 1 := y
      rw [if_pos (Or.inl y')] at eN
      exact b_X5_takeToken_88 hg (by omega) k00 X _ _ ⟨_, c4.g6, run (Or.inl y') (len - min (st + 1) len) (min (st + 1) len) (by omega) eN⟩
    · have y' : ¬ kdE f len st = 1 := y
      have z' : ¬ kdE f len st = 2 := z
      rw [if_neg (fun e => e.elim y' z')] at eN
      rw [eN]
      exact last
    · have z' : kdE f len st = 2 := z
      rw [if_pos (Or.inr z')] at eN
      exact b_X5_takeToken_88 hg (by omega) k00 X _ _ ⟨_, c4.g6, run (Or.inr z') (len - min (st + 1) len) (min (st + 1) len) (by omega) eN⟩
  -- the blanks
  have bl : ∀ (j k : Nat), k + j = len → skB f len j k = st → VB g K 2 d 0 0 (fun v h2 => v = none ∧ h2 = pD h A q tx len td ld (nx, kdE f len st, st, if kdE f len st = 2 then (wvF f (min (nx - st) 4) st 0, nI (nx - st)) else t.2.2.2)) noT 0 0 13 [some (.ref A), some (.int (nI k))] [] (pD h A q tx len td ld (t.1, t.2.1, k, t.2.2.2)) := by
    intro j
    induction j with
    | zero =>
      intro k hk he
      have he' : k = st := he
      rw [he']
      have c2 := c.put q (t.1, t.2.1, st, t.2.2.2)
      exact b_X5_takeToken_13 hg (by omega) k00 X _ _ _ ⟨_, c2.g3, fun _ => kind, fun y => absurd (nle_nI (by omega) (by omega) y) (by omega)⟩
    | succ j ih =>
      intro k hk he
      have c2 := c.put q (t.1, t.2.1, k, t.2.2.2)
      rw [skB] at he
      refine b_X5_takeToken_13 hg (by omega) k00 X _ _ _ ⟨_, c2.g3, fun y => absurd (le_nI (by omega) (by omega) y) (by omega), fun y => ⟨_, c2.o, use_i (c_kindAt (d := d - 1) hg (by omega) c2 (x.pd q _) (k := k) (by omega)) (by omega) k00 ⟨fun z => ?_, fun z => ?_⟩⟩⟩
      · rw [if_neg z] at he
        rw [he]
        exact kind
      · rw [if_pos z] at he
        rw [nI_s]
        refine ⟨_, c2.w8 (k + 1), ?_⟩
        rw [c.pp]
        exact ih (k + 1) (by omega) he
  refine b_X5_takeToken_0 hg (by omega) k00 X _ _ ⟨_, c.g6, _, c.w8 _, _, (c.put q (t.1, t.2.1, t.1, t.2.2.2)).g6, ?_⟩
  exact bl (len - t.1) t.1 (by omega) eS
theorem c_fail (hg : GOK g) (hd : 8 ≤ d) (c : RdA h A q tx len td ld t) (v : Int32) : CT g d yX5_fail (wsC yX5_fail cX5_fail 2 (some .boolean)) [.ref A, .int v] h 0 0 (fun r h2 => r = some (.int 0) ∧ h2 = pD h A (v, nI t.2.2.1) tx len td ld t) noT := by
  refine CT_ofB (by decide +kernel) (Nat.le_of_ble_eq_true rfl) rfl fun K X => ?_
  have c1 := c.put (v, q.2) t
  refine b_X5_fail_0 hg hd k00 X _ _ _ ⟨_, c.w0 v, _, c1.g8, _, c1.w1 _, Or.inl rfl, rfl, ?_⟩
  rw [c.pp]
/-- this sign stands there -/
def sgT (f : AF) (len : Nat) (t : TkV) (v : Int32) : Bool := decide (t.2.1 = 3) && (decide (t.2.2.1 < len) && decide (f t.2.2.1 = v))
theorem c_isSign (hg : GOK g) (hd : 8 ≤ d) (c : RdA h A q tx len td ld t) (x : TxA h A tx len f) (h1 : t.2.2.1 ≤ len) (v : Int32) : CT g d yX5_isSign (wsC yX5_isSign cX5_isSign 2 (some .boolean)) [.ref A, .int v] h 0 0 (fun r h2 => r = some (.int (if sgT f len t v then 1 else 0)) ∧ h2 = h) noT := by
  have l7 := x.2.2
  refine CT_ofB (by decide +kernel) (Nat.le_of_ble_eq_true rfl) rfl fun K X => ?_
  refine b_X5_isSign_0 hg hd k00 X _ _ _ ⟨_, c.g7, fun y => ⟨Or.inl rfl, ?_, rfl⟩, fun y => ⟨_, c.g8, _, c.g3, fun z => ⟨Or.inl rfl, ?_, rfl⟩, fun z => ?_⟩⟩
  · rw [sgT, decide_eq_false y, Bool.false_and]; rfl
  · have z' := le_nI (by omega) (by omega) z
    rw [sgT, decide_eq_false (show ¬ t.2.2.1 < len by omega), Bool.false_and, Bool.and_false]; rfl
  · have z' := nle_nI (by omega) (by omega) z
    refine ⟨_, c.g2, _, c.g8, _, x.r z', fun w => ⟨Or.inl rfl, ?_, rfl⟩, fun w => ⟨Or.inr rfl, ?_, rfl⟩⟩
    · rw [sgT, decide_eq_false w, Bool.and_false, Bool.and_false]; rfl
    · rw [sgT, decide_eq_true y, decide_eq_true z', decide_eq_true w]; rfl
end RD6
