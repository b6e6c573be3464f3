/-! THE READER: tokens -/
/-- next, kind, start, value, digits -/
abbrev TkV : Type := Nat × Int32 × Nat × Int32 × Int32
/-- the reader's cell: mistake, place, text, length, told, land, token -/
def rdC (q : Int32 × Int32) (tx len td ld : Nat) (t : TkV) : List va_E := [.inr (5, [.int q.1, .int q.2, .ref tx, .int (nI len), .ref td, .ref ld, .int (nI t.1), .int t.2.1, .int (nI t.2.2.1), .int t.2.2.2.1, .int t.2.2.2.2])]
abbrev RdA (h : Hp) (A : Nat) (q : Int32 × Int32) (tx len td ld : Nat) (t : TkV) : Prop := Chunk h A (rdC q tx len td ld t)
abbrev pD (h : Hp) (A : Nat) (q : Int32 × Int32) (tx len td ld : Nat) (t : TkV) : Hp := putC h A (rdC q tx len td ld t)
section RD5
variable {g : GG} {h : Hp} {A d tx len td ld k : Nat} {q : Int32 × Int32} {t : TkV} {f : AF}
theorem RdA.o (c : RdA h A q tx len td ld t) : oF h A 5 = some [.int q.1, .int q.2, .ref tx, .int (nI len), .ref td, .ref ld, .int (nI t.1), .int t.2.1, .int (nI t.2.2.1), .int t.2.2.2.1, .int t.2.2.2.2] := oF_of (c 0 _ rfl)
theorem RdA.put (c : RdA h A q tx len td ld t) (q2 : Int32 × Int32) (t2 : TkV) : RdA (pD h A q2 tx len td ld t2) A q2 tx len td ld t2 := Chunk.putN (n := 0) c rfl rfl
theorem RdA.pp (c : RdA h A q tx len td ld t) (q1 q2 : Int32 × Int32) (t1 t2 : TkV) : pD (pD h A q1 tx len td ld t1) A q2 tx len td ld t2 = pD h A q2 tx len td ld t2 := putC_putC rfl (by have := c.le (by simp [rdC]); simp [rdC] at this ⊢; omega)
theorem RdA.id (c : RdA h A q tx len td ld t) : pD h A q tx len td ld t = h := putC_self c
theorem RdA.g2 (c : RdA h A q tx len td ld t) : gN h A 5 2 = some tx := by unfold gN; rw [c.o]; rfl
theorem RdA.g3 (c : RdA h A q tx len td ld t) : gI h A 5 3 = some (nI len) := by unfold gI; rw [c.o]; rfl
theorem RdA.g4 (c : RdA h A q tx len td ld t) : gN h A 5 4 = some td := by unfold gN; rw [c.o]; rfl
theorem RdA.g5 (c : RdA h A q tx len td ld t) : gN h A 5 5 = some ld := by unfold gN; rw [c.o]; rfl
theorem RdA.g6 (c : RdA h A q tx len td ld t) : gI h A 5 6 = some (nI t.1) := by unfold gI; rw [c.o]; rfl
theorem RdA.g7 (c : RdA h A q tx len td ld t) : gI h A 5 7 = some t.2.1 := by unfold gI; rw [c.o]; rfl
theorem RdA.g8 (c : RdA h A q tx len td ld t) : gI h A 5 8 = some (nI t.2.2.1) := by unfold gI; rw [c.o]; rfl
theorem RdA.g9 (c : RdA h A q tx len td ld t) : gI h A 5 9 = some t.2.2.2.1 := by unfold gI; rw [c.o]; rfl
theorem RdA.g10 (c : RdA h A q tx len td ld t) : gI h A 5 10 = some t.2.2.2.2 := by unfold gI; rw [c.o]; rfl
theorem RdA.wr (c : RdA h A q tx len td ld t) {j : Nat} (hj : j < 11) (v : Value) : pF h A 5 j v = some (putC h A [.inr (5, [.int q.1, .int q.2, .ref tx, .int (nI len), .ref td, .ref ld, .int (nI t.1), .int t.2.1, .int (nI t.2.2.1), .int t.2.2.2.1, .int t.2.2.2.2].set j v)]) := by
  unfold pF
  rw [c.o]
  simp only [List.length_cons, List.length_nil, Nat.zero_add, Nat.reduceAdd, hj, if_true]
  rw [show h.set A = h.set (A + 0) from rfl, Chunk.set c (j := 0) (by simp [rdC])]
  rfl
theorem RdA.w0 (c : RdA h A q tx len td ld t) (v : Int32) : pF h A 5 0 (.int v) = some (pD h A (v, q.2) tx len td ld t) := c.wr (by decide) _
theorem RdA.w1 (c : RdA h A q tx len td ld t) (v : Int32) : pF h A 5 1 (.int v) = some (pD h A (q.1, v) tx len td ld t) := c.wr (by decide) _
theorem RdA.w6 (c : RdA h A q tx len td ld t) (n : Nat) : pF h A 5 6 (.int (nI n)) = some (pD h A q tx len td ld (n, t.2)) := c.wr (by decide) _
theorem RdA.w7 (c : RdA h A q tx len td ld t) (v : Int32) : pF h A 5 7 (.int v) = some (pD h A q tx len td ld (t.1, v, t.2.2)) := c.wr (by decide) _
theorem RdA.w8 (c : RdA h A q tx len td ld t) (n : Nat) : pF h A 5 8 (.int (nI n)) = some (pD h A q tx len td ld (t.1, t.2.1, n, t.2.2.2)) := c.wr (by decide) _
theorem RdA.w9 (c : RdA h A q tx len td ld t) (v : Int32) : pF h A 5 9 (.int v) = some (pD h A q tx len td ld (t.1, t.2.1, t.2.2.1, v, t.2.2.2.2)) := c.wr (by decide) _
theorem RdA.w10 (c : RdA h A q tx len td ld t) (v : Int32) : pF h A 5 10 (.int v) = some (pD h A q tx len td ld (t.1, t.2.1, t.2.2.1, t.2.2.2.1, v)) := c.wr (by decide) _
/-- the text, off the reader's cell -/
def TxA (h : Hp) (A tx len : Nat) (f : AF) : Prop := aF h 1 tx = some (700, f) ∧ tx ≠ A ∧ len ≤ 700
theorem TxA.pd (x : TxA h A tx len f) (q2 : Int32 × Int32) (t2 : TkV) : TxA (pD h A q2 tx len td ld t2) A tx len f := by
  refine ⟨?_, x.2⟩
  have e : (pD h A q2 tx len td ld t2)[tx]? = h[tx]? := putC_out _ _ _ _ (by have := x.2.1; simp [rdC]; omega)
  have := x.1
  unfold aF at this ⊢
  rw [e]
  exact this
theorem TxA.r (x : TxA h A tx len f) (hk : k < len) : aI h 1 tx (nI k) = some (f k) := aI_of x.1 (by have := x.2.2; omega) (by omega)
/-- what a byte is -/
def sgB (b : Int32) : Bool := [40, 41, 42, 43, 45, 47, 59, 60, 61].contains b.toInt
def kdB (b : Int32) : Int32 := if ¬ b < 97 ∧ ¬ 122 < b then 1 else if ¬ b < 48 ∧ ¬ 57 < b then 2 else if b.toInt = 10 ∨ b.toInt = 32 then 4 else if sgB b then 3 else 5
def kdE (f : AF) (len k : Nat) : Int32 := if k < len then kdB (f k) else 0
theorem c_kindAt (hg : GOK g) (hd : 8 ≤ d) (c : RdA h A q tx len td ld t) (x : TxA h A tx len f) (hk : k < 2 ^ 30) : CT g d yX5_kindAt (wsC yX5_kindAt cX5_kindAt 3 (some .int)) [.ref A, .int (nI k)] h 0 0 (fun v h2 => v = some (.int (kdE f len k)) ∧ h2 = h) noT := by
  have l7 := x.2.2
  refine CT_ofB (by decide +kernel) (Nat.le_of_ble_eq_true rfl) rfl fun K X => ?_
  refine b_X5_kindAt_0 hg hd k00 X _ _ _ ⟨fun e => absurd e (nI_pos (by omega)), fun _ => ⟨_, c.g3, fun y => ?_, fun y => ⟨?_, rfl⟩⟩⟩
  · have y' := lt_nI (by omega) (by omega) y
    have e0 : kdE f len k = kdB (f k) := by rw [kdE, if_pos y']
    rw [e0]
    have last : ¬ (¬ f k < 97 ∧ ¬ 122 < f k) → ¬ (¬ f k < 48 ∧ ¬ 57 < f k) → VB g K 3 d 0 0 (fun v h2 => v = some (.int (kdB (f k))) ∧ h2 = h) noT 0 0 49 [none, none, some (.int (f k))] [] h := by
      intro n1 n2
      have bl : (f k).toInt = 10 ∨ (f k).toInt = 32 → kdB (f k) = 4 := fun e => by rw [kdB, if_neg n1, if_neg n2, if_pos e]
      have sg : ¬ ((f k).toInt = 10 ∨ (f k).toInt = 32) → sgB (f k) = true → kdB (f k) = 3 := fun e e2 => by rw [kdB, if_neg n1, if_neg n2, if_neg e, if_pos e2]
      refine b_X5_kindAt_49 hg hd k00 X _ _ ⟨fun e => ⟨by rw [bl (Or.inl e)], rfl⟩, fun e => ⟨by rw [bl (Or.inr e)], rfl⟩, fun e => ?_, fun e => ?_, fun e => ?_, fun e => ?_, fun e => ?_, fun e => ?_, fun e => ?_, fun e => ?_, fun e => ?_, fun e => ⟨?_, rfl⟩⟩
      · exact ⟨by rw [sg (by omega) (by rw [sgB, e]; rfl)], rfl⟩
      · exact ⟨by rw [sg (by omega) (by rw [sgB, e]; rfl)], rfl⟩
      · exact ⟨by rw [sg (by omega) (by rw [sgB, e]; rfl)], rfl⟩
      · exact ⟨by rw [sg (by omega) (by rw [sgB, e]; rfl)], rfl⟩
      · exact ⟨by rw [sg (by omega) (by rw [sgB, e]; rfl)], rfl⟩
      · exact ⟨by rw [sg (by omega) (by rw [sgB, e]; rfl)], rfl⟩
      · exact ⟨by rw [sg (by omega) (by rw [sgB, e]; rfl)], rfl⟩
      · exact ⟨by rw [sg (by omega) (by rw [sgB, e]; rfl)], rfl⟩
      · exact ⟨by rw [sg (by omega) (by rw [sgB, e]; rfl)], rfl⟩
      · have e2 : sgB (f k) = false := by
          rw [sgB]
          simp only [List.contains_eq_mem, List.mem_cons, List.not_mem_nil, or_false, decide_eq_false_iff_not]
          omega
        rw [kdB, if_neg n1, if_neg n2, if_neg (by omega), e2]; rfl
    have mid : ¬ (¬ f k < 97 ∧ ¬ 122 < f k) → VB g K 3 d 0 0 (fun v h2 => v = some (.int (kdB (f k))) ∧ h2 = h) noT 0 0 35 [none, none, some (.int (f k))] [] h := by
      intro n1
      refine b_X5_kindAt_35 hg hd k00 X _ _ ⟨fun e => last n1 (fun z => z.1 e), fun e => ⟨fun e2 => last n1 (fun z => z.2 e2), fun e2 => ⟨?_, rfl⟩⟩⟩
      rw [kdB, if_neg n1, if_pos ⟨e, e2⟩]
    refine ⟨_, c.g2, _, x.r y', fun e => mid (fun z => z.1 e), fun e => ⟨fun e2 => mid (fun z => z.2 e2), fun e2 => ⟨?_, rfl⟩⟩⟩
    rw [kdB, if_pos ⟨e, e2⟩]
  · have y' : ¬ k < len := fun e => y ((nI_ltI (by omega) (by omega)).mpr e)
    rw [kdE, if_neg y']
end RD5
