/-! LAND AND TOLD: their cells; the small methods -/
abbrev AF : Type := Nat → Int32
abbrev LandV : Type := Int32 × AF × AF × AF × AF × AF × AF
abbrev lDay (L : LandV) : Int32 := L.1
abbrev lStr (L : LandV) : AF := L.2.1
abbrev lSm (L : LandV) : AF := L.2.2.1
abbrev lSt (L : LandV) : AF := L.2.2.2.1
abbrev lAt (L : LandV) : AF := L.2.2.2.2.1
abbrev lTh (L : LandV) : AF := L.2.2.2.2.2.1
abbrev lPu (L : LandV) : AF := L.2.2.2.2.2.2
def landC (a : Nat) (L : LandV) : List va_E := [.inr (2, [.int (lDay L), .ref (a + 1), .ref (a + 2), .ref (a + 3), .ref (a + 4), .ref (a + 5), .ref (a + 6)]), .inl (0, 12, .inl (lStr L)), .inl (0, 12, .inl (lSm L)), .inl (0, 12, .inl (lSt L)), .inl (0, 6, .inl (lAt L)), .inl (0, 6, .inl (lTh L)), .inl (0, 12, .inl (lPu L))]
abbrev RuV : Type := Int32 × Int32 × Int32
abbrev KnV : Type := Int32 × AF × AF × AF × AF × AF
/-- stretches, women, week, weekGiven, knotsGiven, skill, knots, frays, pulls, code, codeLength, waiting -/
abbrev ToldV : Type := Nat × Nat × Int32 × Int32 × Int32 × AF × KnV × RuV × RuV × AF × Int32 × AF
abbrev tN_ (T : ToldV) : Nat := T.1
abbrev tW (T : ToldV) : Nat := T.2.1
abbrev tWk (T : ToldV) : Int32 := T.2.2.1
abbrev tWg (T : ToldV) : Int32 := T.2.2.2.1
abbrev tKg (T : ToldV) : Int32 := T.2.2.2.2.1
abbrev tSk (T : ToldV) : AF := T.2.2.2.2.2.1
abbrev tK (T : ToldV) : KnV := T.2.2.2.2.2.2.1
abbrev tFr (T : ToldV) : RuV := T.2.2.2.2.2.2.2.1
abbrev tPl (T : ToldV) : RuV := T.2.2.2.2.2.2.2.2.1
abbrev tCo (T : ToldV) : AF := T.2.2.2.2.2.2.2.2.2.1
abbrev tCl (T : ToldV) : Int32 := T.2.2.2.2.2.2.2.2.2.2.1
abbrev tWt (T : ToldV) : AF := T.2.2.2.2.2.2.2.2.2.2.2
def toldC (b : Nat) (T : ToldV) : List va_E := [.inr (9, [.int (nI (tN_ T)), .int (nI (tW T)), .int (tWk T), .int (tWg T), .int (tKg T), .ref (b + 1), .ref (b + 2), .ref (b + 8), .ref (b + 9), .ref (b + 10), .int (tCl T), .ref (b + 11)]), .inl (0, 6, .inl (tSk T)),
  .inr (1, [.int (tK T).1, .ref (b + 3), .ref (b + 4), .ref (b + 5), .ref (b + 6), .ref (b + 7)]), .inl (0, 8, .inl (tK T).2.1), .inl (0, 8, .inl (tK T).2.2.1), .inl (0, 9, .inl (tK T).2.2.2.1), .inl (0, 10, .inl (tK T).2.2.2.2.1), .inl (0, 10, .inl (tK T).2.2.2.2.2),
  .inr (6, [.int (tFr T).1, .int (tFr T).2.1, .int (tFr T).2.2]), .inr (6, [.int (tPl T).1, .int (tPl T).2.1, .int (tPl T).2.2]), .inl (0, 700, .inl (tCo T)), .inl (0, 64, .inl (tWt T))]
abbrev LA (h : Hp) (a : Nat) (L : LandV) : Prop := Chunk h a (landC a L)
abbrev TA (h : Hp) (b : Nat) (T : ToldV) : Prop := Chunk h b (toldC b T)
section LL
variable {h : Hp} {a b : Nat} {L : LandV} {T : ToldV}
theorem LA.o (q : LA h a L) : oF h a 2 = some [.int (lDay L), .ref (a + 1), .ref (a + 2), .ref (a + 3), .ref (a + 4), .ref (a + 5), .ref (a + 6)] := oF_of (q 0 _ rfl)
theorem LA.g0 (q : LA h a L) : gI h a 2 0 = some (lDay L) := by unfold gI; rw [q.o]; rfl
theorem LA.g1 (q : LA h a L) : gN h a 2 1 = some (a + 1) := by unfold gN; rw [q.o]; rfl
theorem LA.g2 (q : LA h a L) : gN h a 2 2 = some (a + 2) := by unfold gN; rw [q.o]; rfl
theorem LA.g3 (q : LA h a L) : gN h a 2 3 = some (a + 3) := by unfold gN; rw [q.o]; rfl
theorem LA.g4 (q : LA h a L) : gN h a 2 4 = some (a + 4) := by unfold gN; rw [q.o]; rfl
theorem LA.g5 (q : LA h a L) : gN h a 2 5 = some (a + 5) := by unfold gN; rw [q.o]; rfl
theorem LA.g6 (q : LA h a L) : gN h a 2 6 = some (a + 6) := by unfold gN; rw [q.o]; rfl
theorem LA.f1 (q : LA h a L) : aF h 0 (a + 1) = some (12, lStr L) := aF_of (q 1 _ rfl)
theorem LA.f2 (q : LA h a L) : aF h 0 (a + 2) = some (12, lSm L) := aF_of (q 2 _ rfl)
theorem LA.f3 (q : LA h a L) : aF h 0 (a + 3) = some (12, lSt L) := aF_of (q 3 _ rfl)
theorem LA.f4 (q : LA h a L) : aF h 0 (a + 4) = some (6, lAt L) := aF_of (q 4 _ rfl)
theorem LA.f5 (q : LA h a L) : aF h 0 (a + 5) = some (6, lTh L) := aF_of (q 5 _ rfl)
theorem LA.f6 (q : LA h a L) : aF h 0 (a + 6) = some (12, lPu L) := aF_of (q 6 _ rfl)
theorem LA.r1 (q : LA h a L) {k : Nat} (hk : k < 12) : aI h 0 (a + 1) (nI k) = some (lStr L k) := aI_of q.f1 hk (by omega)
theorem LA.r2 (q : LA h a L) {k : Nat} (hk : k < 12) : aI h 0 (a + 2) (nI k) = some (lSm L k) := aI_of q.f2 hk (by omega)
theorem LA.r3 (q : LA h a L) {k : Nat} (hk : k < 12) : aI h 0 (a + 3) (nI k) = some (lSt L k) := aI_of q.f3 hk (by omega)
theorem LA.r4 (q : LA h a L) {k : Nat} (hk : k < 6) : aI h 0 (a + 4) (nI k) = some (lAt L k) := aI_of q.f4 hk (by omega)
theorem LA.r5 (q : LA h a L) {k : Nat} (hk : k < 6) : aI h 0 (a + 5) (nI k) = some (lTh L k) := aI_of q.f5 hk (by omega)
theorem LA.r6 (q : LA h a L) {k : Nat} (hk : k < 12) : aI h 0 (a + 6) (nI k) = some (lPu L k) := aI_of q.f6 hk (by omega)
def sDay (L : LandV) (x : Int32) : LandV := (x, L.2)
def sStr (L : LandV) (k : Nat) (x : Int32) : LandV := (lDay L, upd (lStr L) k x, L.2.2)
def sSm (L : LandV) (k : Nat) (x : Int32) : LandV := (lDay L, lStr L, upd (lSm L) k x, L.2.2.2)
def sSt (L : LandV) (k : Nat) (x : Int32) : LandV := (lDay L, lStr L, lSm L, upd (lSt L) k x, L.2.2.2.2)
def sAt (L : LandV) (k : Nat) (x : Int32) : LandV := (lDay L, lStr L, lSm L, lSt L, upd (lAt L) k x, L.2.2.2.2.2)
def sTh (L : LandV) (k : Nat) (x : Int32) : LandV := (lDay L, lStr L, lSm L, lSt L, lAt L, upd (lTh L) k x, lPu L)
def sPu (L : LandV) (k : Nat) (x : Int32) : LandV := (lDay L, lStr L, lSm L, lSt L, lAt L, lTh L, upd (lPu L) k x)
abbrev pL (h : Hp) (a : Nat) (L : LandV) : Hp := putC h a (landC a L)
abbrev pT (h : Hp) (b : Nat) (T : ToldV) : Hp := putC h b (toldC b T)
theorem LA.w1 (q : LA h a L) {k : Nat} {x : Int32} (hk : k < 12) : uI h 0 (a + 1) (nI k) x = some (pL h a (sStr L k x)) := by
  rw [uI_of q.f1 hk (by omega), q.set (j := 1) (by simp [landC])]; rfl
theorem LA.w2 (q : LA h a L) {k : Nat} {x : Int32} (hk : k < 12) : uI h 0 (a + 2) (nI k) x = some (pL h a (sSm L k x)) := by
  rw [uI_of q.f2 hk (by omega), q.set (j := 2) (by simp [landC])]; rfl
theorem LA.w3 (q : LA h a L) {k : Nat} {x : Int32} (hk : k < 12) : uI h 0 (a + 3) (nI k) x = some (pL h a (sSt L k x)) := by
  rw [uI_of q.f3 hk (by omega), q.set (j := 3) (by simp [landC])]; rfl
theorem LA.w4 (q : LA h a L) {k : Nat} {x : Int32} (hk : k < 6) : uI h 0 (a + 4) (nI k) x = some (pL h a (sAt L k x)) := by
  rw [uI_of q.f4 hk (by omega), q.set (j := 4) (by simp [landC])]; rfl
theorem LA.w5 (q : LA h a L) {k : Nat} {x : Int32} (hk : k < 6) : uI h 0 (a + 5) (nI k) x = some (pL h a (sTh L k x)) := by
  rw [uI_of q.f5 hk (by omega), q.set (j := 5) (by simp [landC])]; rfl
theorem LA.w6 (q : LA h a L) {k : Nat} {x : Int32} (hk : k < 12) : uI h 0 (a + 6) (nI k) x = some (pL h a (sPu L k x)) := by
  rw [uI_of q.f6 hk (by omega), q.set (j := 6) (by simp [landC])]; rfl
theorem LA.w0 (q : LA h a L) {x : Int32} : pF h a 2 0 (.int x) = some (pL h a (sDay L x)) := by
  unfold pF
  rw [q.o]
  simp only [List.length_cons, List.length_nil, Nat.zero_add, Nat.reduceAdd, Nat.zero_lt_succ, if_true]
  rw [show h.set a = h.set (a + 0) from rfl, q.set (j := 0) (by simp [landC])]
  rfl
theorem LA.put (q : LA h a L) (L' : LandV) : LA (pL h a L') a L' := Chunk.put (q.le (by simp [landC]))
theorem LA.pp (q : LA h a L) (L1 L2 : LandV) : pL (pL h a L1) a L2 = pL h a L2 := putC_putC rfl (q.le (by simp [landC]))
theorem LA.id (q : LA h a L) : pL h a L = h := putC_self q
theorem TA.offL (q : TA h b T) (hd : a + 7 ≤ b ∨ b + 12 ≤ a) (L' : LandV) : TA (pL h a L') b T := Chunk.off q (by simp only [landC, toldC, List.length_cons, List.length_nil]; omega)
theorem LA.offT (q : LA h a L) (hd : a + 7 ≤ b ∨ b + 12 ≤ a) (T' : ToldV) : LA (pT h b T') a L := Chunk.off q (by simp only [landC, toldC, List.length_cons, List.length_nil]; omega)
theorem LA.offL {c : Nat} (q : LA h a L) (hd : a + 7 ≤ c ∨ c + 7 ≤ a) (L' : LandV) : LA (pL h c L') a L := Chunk.off q (by simp only [landC, List.length_cons, List.length_nil]; omega)
theorem TA.o (q : TA h b T) : oF h b 9 = some [.int (nI (tN_ T)), .int (nI (tW T)), .int (tWk T), .int (tWg T), .int (tKg T), .ref (b + 1), .ref (b + 2), .ref (b + 8), .ref (b + 9), .ref (b + 10), .int (tCl T), .ref (b + 11)] := oF_of (q 0 _ rfl)
theorem TA.g0 (q : TA h b T) : gI h b 9 0 = some (nI (tN_ T)) := by unfold gI; rw [q.o]; rfl
theorem TA.g1 (q : TA h b T) : gI h b 9 1 = some (nI (tW T)) := by unfold gI; rw [q.o]; rfl
theorem TA.g2 (q : TA h b T) : gI h b 9 2 = some (tWk T) := by unfold gI; rw [q.o]; rfl
theorem TA.g5 (q : TA h b T) : gN h b 9 5 = some (b + 1) := by unfold gN; rw [q.o]; rfl
theorem TA.g6 (q : TA h b T) : gN h b 9 6 = some (b + 2) := by unfold gN; rw [q.o]; rfl
theorem TA.g7 (q : TA h b T) : gN h b 9 7 = some (b + 8) := by unfold gN; rw [q.o]; rfl
theorem TA.g8 (q : TA h b T) : gN h b 9 8 = some (b + 9) := by unfold gN; rw [q.o]; rfl
theorem TA.g9 (q : TA h b T) : gN h b 9 9 = some (b + 10) := by unfold gN; rw [q.o]; rfl
theorem TA.g11 (q : TA h b T) : gN h b 9 11 = some (b + 11) := by unfold gN; rw [q.o]; rfl
theorem TA.f1 (q : TA h b T) : aF h 0 (b + 1) = some (6, tSk T) := aF_of (q 1 _ rfl)
theorem TA.r1 (q : TA h b T) {k : Nat} (hk : k < 6) : aI h 0 (b + 1) (nI k) = some (tSk T k) := aI_of q.f1 hk (by omega)
end LL
/-! numbers round the ring -/
def aftN (n k : Nat) : Nat := if k + 1 < n then k + 1 else 0
def aheN (n k : Nat) : Nat := if k < 1 then n - 1 else k - 1
theorem aftN_lt {n k : Nat} (hn : 0 < n) : aftN n k < n := by unfold aftN; split <;> omega
theorem aheN_lt {n k : Nat} (hn : 0 < n) (hk : k < n) : aheN n k < n := by unfold aheN; split <;> omega
section CC
variable {g : GG} {h : Hp} {a b d : Nat} {L : LandV} {T : ToldV}
theorem c_after (hg : GOK g) (hd : 8 ≤ d) (hT : TA h b T) {k : Nat} (hk : k < 100) (hn : tN_ T ≤ 12) : CT g d yX9_after (wsC yX9_after cX9_after 2 (some .int)) [.ref b, .int (nI k)] h 0 0 (fun v h2 => v = some (.int (nI (aftN (tN_ T) k))) ∧ h2 = h) noT := by
  refine CT_ofB (by decide +kernel) (Nat.le_of_ble_eq_true rfl) rfl fun K X => ?_
  refine b_X9_after_0 hg hd ⟨Nat.le_refl _, Nat.le_refl _⟩ X _ _ _ ⟨_, hT.g0, fun q => ?_, fun q => ?_⟩
  · rw [nI_s, nI_ltI (by omega) (by omega)] at q
    exact ⟨by rw [nI_s]; simp only [aftN, if_pos q], rfl⟩
  · rw [nI_s, nI_ltI (by omega) (by omega)] at q
    exact ⟨by simp only [aftN, if_neg q]; rfl, rfl⟩
theorem c_ahead (hg : GOK g) (hd : 8 ≤ d) (hT : TA h b T) {k : Nat} (hk : k < 100) (hn : tN_ T ≤ 12) (h0 : 0 < tN_ T) : CT g d yX9_ahead (wsC yX9_ahead cX9_ahead 2 (some .int)) [.ref b, .int (nI k)] h 0 0 (fun v h2 => v = some (.int (nI (aheN (tN_ T) k))) ∧ h2 = h) noT := by
  refine CT_ofB (by decide +kernel) (Nat.le_of_ble_eq_true rfl) rfl fun K X => ?_
  refine b_X9_ahead_0 hg hd ⟨Nat.le_refl _, Nat.le_refl _⟩ X _ _ _ ⟨fun q => ?_, fun q => ⟨_, hT.g0, ?_⟩⟩
  · rw [nI_o, nI_leI (by omega) (by omega)] at q
    refine ⟨?_, rfl⟩
    rw [nI_o, pk_sub q]
    simp only [aheN, if_neg (show ¬ k < 1 by omega)]
  · rw [nI_o, nI_leI (by omega) (by omega)] at q
    refine ⟨?_, rfl⟩
    rw [nI_o, pk_sub (by omega)]
    simp only [aheN, if_pos (show k < 1 by omega)]
theorem c_isOpen (hg : GOK g) (hd : 8 ≤ d) (hL : LA h a L) {k : Nat} (hk : k < 12) : CT g d yX2_isOpen (wsC yX2_isOpen cX2_isOpen 2 (some .boolean)) [.ref a, .int (nI k)] h 0 0 (fun v h2 => v = some (.int (if lSm L k = 0 then 1 else 0)) ∧ h2 = h) noT := by
  refine CT_ofB (by decide +kernel) (Nat.le_of_ble_eq_true rfl) rfl fun K X => ?_
  refine b_X2_isOpen_0 hg hd ⟨Nat.le_refl _, Nat.le_refl _⟩ X _ _ _ ⟨_, hL.g2, _, hL.r2 hk, fun q => ?_, fun q => ?_⟩
  · exact ⟨Or.inl rfl, by rw [if_neg q], rfl⟩
  · exact ⟨Or.inr rfl, by rw [if_pos q], rfl⟩
/-- min(99, strain + more) -/
def min99 (x : Int32) : Int32 := if x < 99 then x else 99
def addS (L : LandV) (k : Nat) (x : Int32) : LandV := sStr L k (min99 (lStr L k + x))
theorem c_addStrain (hg : GOK g) (hd : 8 ≤ d) (hL : LA h a L) {k : Nat} (hk : k < 12) (x : Int32) : CT g d yX2_addStrain (wsC yX2_addStrain cX2_addStrain 3 none) [.ref a, .int (nI k), .int x] h 0 0 (fun v h2 => v = none ∧ h2 = pL h a (addS L k x)) noT := by
  refine CT_ofB (by decide +kernel) (Nat.le_of_ble_eq_true rfl) rfl fun K X => ?_
  exact b_X2_addStrain_0 hg hd ⟨Nat.le_refl _, Nat.le_refl _⟩ X _ _ _ _ ⟨_, hL.g1, _, hL.g1, _, hL.r1 hk, _, hL.w1 hk, rfl, rfl⟩
def sifC (L : LandV) (k : Nat) (x : Int32) : LandV := if lSm L k = 0 then L else addS L k x
theorem c_strainIfClosed (hg : GOK g) (hd : 9 ≤ d) (hL : LA h a L) {k : Nat} (hk : k < 12) (x : Int32) : CT g d yX2_strainIfClosed (wsC yX2_strainIfClosed cX2_strainIfClosed 3 none) [.ref a, .int (nI k), .int x] h 0 0 (fun v h2 => v = none ∧ h2 = pL h a (sifC L k x)) noT := by
  refine CT_ofB (by decide +kernel) (Nat.le_of_ble_eq_true rfl) rfl fun K X => ?_
  refine b_X2_strainIfClosed_0 hg (by omega) ⟨Nat.le_refl _, Nat.le_refl _⟩ X _ _ _ _ ⟨_, hL.o, use_i (c_isOpen (d := d - 1) hg (by omega) hL hk) (by omega) ⟨Nat.le_refl _, Nat.le_refl _⟩ ⟨fun q => ?_, fun q => ⟨_, hL.o, use_v (c_addStrain (d := d - 1) hg (by omega) hL hk x) (by omega) ⟨Nat.le_refl _, Nat.le_refl _⟩ fun h' hh => ?_⟩⟩⟩
  · by_cases z : lSm L k = 0
    · exact ⟨rfl, by rw [sifC, if_pos z, hL.id]⟩
    · rw [if_neg z] at q; exact absurd rfl q
  · by_cases z : lSm L k = 0
    · rw [if_pos z] at q; cases q
    · exact ⟨rfl, by rw [sifC, if_neg z]; exact hh⟩
end CC
