/-! THE READER: words -/
def spW (f : AF) (k st : Nat) : Nat → Nat → Bool
  | 0, _ => true
  | i + 1, j => if f (st + j) = wby k j then spW f k st i (j + 1) else false
/-- the bytes from st to nx spell the word k -/
def spB (f : AF) (k st nx : Nat) : Bool := decide (nx - st = wln k) && spW f k st (wln k) 0
def ofL (f : AF) (st nx : Nat) : Nat → Nat → Nat
  | 0, _ => 15
  | i + 1, k => if spB f k st nx then k else ofL f st nx i (k + 1)
def ofW (f : AF) (st nx : Nat) : Nat := ofL f st nx 16 0
theorem ofL_lt (f : AF) (st nx : Nat) : ∀ i k, k + i ≤ 16 → ofL f st nx i k < 16 := by
  intro i
  induction i with
  | zero => intro k _; exact (by decide : 15 < 16)
  | succ i ih =>
    intro k hk
    unfold ofL
    split
    · omega
    · exact ih (k + 1) (by omega)
theorem ofW_lt (f : AF) (st nx : Nat) : ofW f st nx < 16 := ofL_lt f st nx 16 0 (by omega)
/-- this word stands there -/
def wdB (f : AF) (t : TkV) (k : Nat) : Bool := decide (t.2.1 = 1) && spB f k t.2.2.1 t.1
section RWD
variable {g : GG} {h : Hp} {A d tx len td ld k st nx : Nat} {q : Int32 × Int32} {t : TkV} {f : AF}
theorem c_isSpelled (hg : GOK g) (hO : GOW g) (hd : 9 ≤ d) (hk : k < 16) (hx : aF h 1 tx = some (700, f)) (h1 : st ≤ nx) (h2 : nx ≤ 700) : CT g d yX10_isSpelled (wsC yX10_isSpelled cX10_isSpelled 5 (some .boolean)) [.retAddr k, .ref tx, .int (nI st), .int (nI nx)] h 0 0 (fun r h2 => r = some (.int (if spB f k st nx then 1 else 0)) ∧ h2 = h) noT := by
  have hl := wln_le k hk
  have hln : lenA h tx = some (nI 700) := by
    have := aF_s hx
    unfold lenA; rw [this]; rfl
  refine CT_ofB (by decide +kernel) (Nat.le_of_ble_eq_true rfl) rfl fun K X => ?_
  refine b_X10_isSpelled_0 hg hO (by omega) k00 X _ _ _ _ _ ⟨hk, ⟨by omega, by omega⟩, use_i (j_length (d := d - 1) hO (by omega) hk) (by omega) k00 ?_⟩
  rw [pk_sub h1]
  refine ⟨fun y => ⟨Or.inl rfl, ?_, rfl⟩, fun y => ⟨fun z => absurd z (nI_pos (by omega)), fun _ => ⟨_, hln, fun _ => ?_, fun z => absurd (nI_le h2 (by omega)) z⟩⟩⟩
  · have y' : ¬ nx - st = wln k := fun e => y (by rw [e])
    rw [spB, decide_eq_false y', Bool.false_and]; rfl
  · have y' : nx - st = wln k := (nI_eq (by omega) (by omega)).mp y
    have eb : spB f k st nx = spW f k st (wln k) 0 := by rw [spB, decide_eq_true y', Bool.true_and]
    rw [eb]
    have loop : ∀ (i j : Nat), j + i = wln k → spW f k st i j = spW f k st (wln k) 0 → VB g K 5 d 0 0 (fun r h2 => r = some (.int (if spW f k st (wln k) 0 then 1 else 0)) ∧ h2 = h) noT 0 0 28 [some (.retAddr k), some (.ref tx), some (.int (nI st)), some (.int (nI nx)), some (.int (nI (st + j)))] [] h := by
      intro i
      induction i with
      | zero =>
        intro j hj he
        refine b_X10_isSpelled_28 hg hO (by omega) k00 X _ _ _ _ _ _ ⟨fun _ => ⟨Or.inr rfl, ?_, rfl⟩, fun z => absurd (nle_nI (by omega) (by omega) z) (by omega)⟩
        rw [← he, spW]; rfl
      | succ i ih =>
        intro j hj he
        rw [spW] at he
        refine b_X10_isSpelled_28 hg hO (by omega) k00 X _ _ _ _ _ _ ⟨fun z => absurd (le_nI (by omega) (by omega) z) (by omega), fun _ => ⟨_, aI_of hx (by omega) (by omega), hk, ⟨by omega, by omega⟩, ?_⟩⟩
        rw [pk_sub (Nat.le_add_right st j), show st + j - st = j by omega]
        refine use_i (j_charAt (d := d - 1) hO (by omega) hk (by omega)) (by omega) k00 ⟨fun z => ?_, fun z => ⟨Or.inl rfl, ?_, rfl⟩⟩
        · rw [if_pos z] at he
          rw [nI_s]
          exact ih (j + 1) (by omega) he
        · rw [if_neg z] at he
          rw [← he]; rfl
    exact loop (wln k) 0 (by omega) rfl
theorem c_of (hg : GOK g) (hO : GOW g) (hd : 10 ≤ d) (hx : aF h 1 tx = some (700, f)) (h1 : st ≤ nx) (h2 : nx ≤ 700) : CT g d yX10_of (wsC yX10_of cX10_of 4 (some (.object "HorizonSeam$Word"))) [.ref tx, .int (nI st), .int (nI nx)] h 0 0 (fun r h2 => r = some (.retAddr (ofW f st nx)) ∧ h2 = h) noT := by
  refine CT_ofB (by decide +kernel) (Nat.le_of_ble_eq_true rfl) rfl fun K X => ?_
  refine b_X10_of_0 hg hO (by omega) k00 X _ _ _ _ ?_
  have loop : ∀ (i k : Nat), k + i = 16 → ofL f st nx i k = ofW f st nx → VB g K 4 d 0 0 (fun r h2 => r = some (.retAddr (ofW f st nx)) ∧ h2 = h) noT 0 0 2 [some (.ref tx), some (.int (nI st)), some (.int (nI nx)), some (.int (nI k))] [] h := by
    intro i
    induction i with
    | zero =>
      intro k hk he
      refine b_X10_of_2 hg hO (by omega) k00 X _ _ _ _ _ ⟨fun _ => ⟨?_, rfl⟩, fun z => absurd (nle_nI (x := 16) (by omega) (by omega) z) (by omega)⟩
      rw [← he]; rfl
    | succ i ih =>
      intro k hk he
      rw [ofL] at he
      refine b_X10_of_2 hg hO (by omega) k00 X _ _ _ _ _ ⟨fun z => absurd (le_nI (x := 16) (by omega) (by omega) z) (by omega), fun _ => ⟨k, rfl, by omega, by omega, use_i (c_isSpelled (d := d - 1) hg hO (by omega) (by omega) hx h1 h2) (by omega) k00 ⟨fun z => ?_, fun z => ⟨k, rfl, by omega, ?_, rfl⟩⟩⟩⟩
      · have := gp_n rfl z
        rw [if_neg this] at he
        rw [nI_s]
        exact ih (k + 1) (by omega) he
      · have := gp_y rfl z
        rw [if_pos this] at he
        rw [← he]
  exact loop 16 0 rfl rfl
theorem c_isWord (hg : GOK g) (hO : GOW g) (hd : 10 ≤ d) (c : RdA h A q tx len td ld t) (x : TxA h A tx len f) (h1 : t.2.2.1 ≤ t.1) (h2 : t.1 ≤ len) (hk : k < 16) : CT g d yX5_isWord (wsC yX5_isWord cX5_isWord 2 (some .boolean)) [.ref A, .retAddr k] h 0 0 (fun r h2 => r = some (.int (if wdB f t k then 1 else 0)) ∧ h2 = h) noT := by
  have l7 := x.2.2
  refine CT_ofB (by decide +kernel) (Nat.le_of_ble_eq_true rfl) rfl fun K X => ?_
  refine b_X5_isWord_0 hg hO (by omega) k00 X _ _ _ ⟨_, c.g7, fun y => ⟨Or.inl rfl, ?_, rfl⟩, fun y => ⟨_, c.g2, _, c.g8, _, c.g6, hk, use_i (c_isSpelled (d := d - 1) hg hO (by omega) hk x.1 h1 (by omega)) (by omega) k00 ⟨fun z => ⟨Or.inl rfl, ?_, rfl⟩, fun z => ⟨Or.inr rfl, ?_, rfl⟩⟩⟩⟩
  · rw [wdB, decide_eq_false y, Bool.false_and]; rfl
  · have z' := gp_n rfl z
    rw [wdB, decide_eq_true y, Bool.true_and, if_neg z']
  · have z' := gp_y rfl z
    rw [wdB, decide_eq_true y, Bool.true_and, if_pos z']
end RWD
