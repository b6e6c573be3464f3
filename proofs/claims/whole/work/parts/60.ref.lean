/-! THE REFERENCE: one object of 63 fields at B, its 30 rows at B + 1 on; R: its int fields, its word, its rows -/
abbrev RefV : Type := AF × Int64 × (Nat → AF)
abbrev ri (R : RefV) : AF := R.1
abbrev ra (R : RefV) : Nat → AF := R.2.2
def updA (f : Nat → AF) (c : Nat) (x : AF) : Nat → AF := fun j => if j = c then x else f j
def sI (R : RefV) (k : Nat) (v : Int32) : RefV := (upd R.1 k v, R.2.1, R.2.2)
def sJ (R : RefV) (v : Int64) : RefV := (R.1, v, R.2.2)
def sA (R : RefV) (c : Nat) (f : AF) : RefV := (R.1, R.2.1, updA R.2.2 c f)
def rIx : Nat → Nat
  | 7 => 1
  | 8 => 2
  | 9 => 3
  | 10 => 4
  | 11 => 5
  | 15 => 6
  | 33 => 7
  | 34 => 8
  | 35 => 9
  | 36 => 10
  | 37 => 11
  | 38 => 12
  | 39 => 13
  | 40 => 14
  | 41 => 15
  | 43 => 16
  | 44 => 17
  | 45 => 18
  | 46 => 19
  | 47 => 20
  | 48 => 21
  | 49 => 22
  | 50 => 23
  | 52 => 24
  | 53 => 25
  | 54 => 26
  | 56 => 27
  | 60 => 28
  | 61 => 29
  | 62 => 30
  | _ => 0
def rLs : List (Nat × Nat) := [(0, 6), (0, 8), (0, 8), (0, 1400), (0, 700), (0, 3), (0, 6), (0, 8), (0, 8), (0, 49), (0, 1400), (0, 950), (3, 9), (0, 98), (0, 1960), (0, 6), (0, 950), (0, 12), (0, 448), (0, 6), (0, 9), (0, 10), (0, 10), (0, 24), (0, 12), (0, 7200), (0, 24), (0, 49), (0, 1960), (0, 24)]
def fldR (B : Nat) (R : RefV) (j : Nat) : Value := if j = 23 then .long R.2.1 else if rIx j = 0 then .int (R.1 j) else .ref (B + rIx j)
def rowR (R : RefV) (i : Nat) : va_E := .inl ((rLs[i]?.getD (0, 0)).1, (rLs[i]?.getD (0, 0)).2, .inl (R.2.2 (i + 1)))
def refC (B : Nat) (R : RefV) : List va_E := .inr (11, (List.range 63).map (fldR B R)) :: (List.range 30).map (rowR R)
abbrev RA (h : Hp) (B : Nat) (R : RefV) : Prop := Chunk h B (refC B R)
abbrev pR (h : Hp) (B : Nat) (R : RefV) : Hp := putC h B (refC B R)
theorem refC_len (B : Nat) (R : RefV) : (refC B R).length = 31 := by simp [refC]
theorem map_set {α : Type} (f : Nat → α) (n k : Nat) (v : α) : ((List.range n).map f).set k v = (List.range n).map (fun j => if j = k then v else f j) := by
  refine List.ext_getElem? fun i => ?_
  rw [List.getElem?_set]
  by_cases hi : i < n
  · rw [List.getElem?_map, List.getElem?_range hi]
    by_cases e : k = i
    · subst e; simp [hi]
    · rw [if_neg e, List.getElem?_map, List.getElem?_range hi]
      simp [show ¬ i = k from fun q => e q.symm]
  · have h1 : ∀ g : Nat → α, ((List.range n).map g)[i]? = none := fun g => List.getElem?_eq_none (by simp; omega)
    rw [h1, h1]
    split
    · split
      · rename_i e q; simp at q; omega
      · rfl
    · rfl
section RR
variable {h : Hp} {B : Nat} {R : RefV}
theorem RA.o (q : RA h B R) : oF h B 11 = some ((List.range 63).map (fldR B R)) := oF_of (q 0 _ rfl)
theorem RA.i (q : RA h B R) {k : Nat} (hk : k < 63) (h1 : ¬ k = 23) (h2 : rIx k = 0) : gI h B 11 k = some (ri R k) := by
  unfold gI
  rw [q.o]
  simp only [List.getElem?_map, List.getElem?_range hk, Option.map_some, fldR, if_neg h1, if_pos h2]
theorem RA.j (q : RA h B R) : gJ h B 11 23 = some R.2.1 := by
  unfold gJ
  rw [q.o]
  rfl
theorem RA.n (q : RA h B R) {k : Nat} (hk : k < 63) (h1 : ¬ k = 23) (h2 : ¬ rIx k = 0) : gN h B 11 k = some (B + rIx k) := by
  unfold gN
  rw [q.o]
  simp only [List.getElem?_map, List.getElem?_range hk, Option.map_some, fldR, if_neg h1, if_neg h2]
theorem RA.c (q : RA h B R) {c t n : Nat} (hc : c < 30) (e : rLs[c]? = some (t, n)) : h[B + (c + 1)]? = some (.inl (t, n, .inl (ra R (c + 1)))) := by
  refine q (c + 1) _ ?_
  show ((List.range 30).map (rowR R))[c]? = _
  rw [List.getElem?_map, List.getElem?_range hc, Option.map_some, rowR, e]
  rfl
theorem refC_sI {k : Nat} {v : Int32} (hk : k < 63) (h1 : ¬ k = 23) (h2 : rIx k = 0) : (refC B R).set 0 (.inr (11, ((List.range 63).map (fldR B R)).set k (.int v))) = refC B (sI R k v) := by
  have e : ((List.range 63).map (fldR B R)).set k (.int v) = (List.range 63).map (fldR B (sI R k v)) := by
    rw [map_set]
    refine List.map_congr_left fun j _ => ?_
    by_cases ej : j = k
    · subst ej
      rw [if_pos rfl]
      show _ = (if j = 23 then _ else if rIx j = 0 then Value.int (upd R.1 j v j) else _)
      rw [if_neg h1, if_pos h2, pk_us]
    · rw [if_neg ej]
      show fldR B R j = (if j = 23 then _ else if rIx j = 0 then Value.int (upd R.1 k v j) else _)
      rw [pk_un ej]
      rfl
  rw [e]
  rfl
theorem refC_sJ {v : Int64} : (refC B R).set 0 (.inr (11, ((List.range 63).map (fldR B R)).set 23 (.long v))) = refC B (sJ R v) := by
  have e : ((List.range 63).map (fldR B R)).set 23 (.long v) = (List.range 63).map (fldR B (sJ R v)) := by
    rw [map_set]
    refine List.map_congr_left fun j _ => ?_
    by_cases ej : j = 23
    · subst ej; rfl
    · rw [if_neg ej]
      unfold fldR
      rw [if_neg ej, if_neg ej]
      rfl
  rw [e]
  rfl
theorem refC_sA {c t n : Nat} {f : AF} (e : rLs[c]? = some (t, n)) : (refC B R).set (c + 1) (.inl (t, n, .inl f)) = refC B (sA R (c + 1) f) := by
  show _ :: ((List.range 30).map (rowR R)).set c _ = _
  rw [map_set]
  unfold refC
  congr 1
  refine List.map_congr_left fun j _ => ?_
  by_cases ej : j = c
  · subst ej
    rw [if_pos rfl, rowR, e]
    show (Sum.inl (t, n, Sum.inl f) : va_E) = Sum.inl ((some (t, n) |>.getD (0, 0)).1, (some (t, n) |>.getD (0, 0)).2, Sum.inl (updA R.2.2 (j + 1) f (j + 1)))
    unfold updA
    rw [if_pos rfl]
    rfl
  · rw [if_neg ej]
    show rowR R j = .inl (_, _, .inl (updA R.2.2 (c + 1) f (j + 1)))
    unfold updA
    rw [if_neg (by omega)]
    rfl
theorem RA.wi (q : RA h B R) {k : Nat} {v : Int32} (hk : k < 63) (h1 : ¬ k = 23) (h2 : rIx k = 0) : pF h B 11 k (.int v) = some (pR h B (sI R k v)) := by
  unfold pF
  rw [q.o]
  simp only [List.length_map, List.length_range, if_pos hk]
  rw [show h.set B = h.set (B + 0) from rfl, q.set (j := 0) (by rw [refC_len]; omega), refC_sI hk h1 h2]
theorem RA.wj (q : RA h B R) {v : Int64} : pF h B 11 23 (.long v) = some (pR h B (sJ R v)) := by
  unfold pF
  rw [q.o]
  simp only [List.length_map, List.length_range]
  rw [if_pos (by decide), show h.set B = h.set (B + 0) from rfl, q.set (j := 0) (by rw [refC_len]; omega), refC_sJ]
theorem RA.wa (q : RA h B R) {c t n k : Nat} {v : Int32} (hc : c < 30) (e : rLs[c]? = some (t, n)) (hk : k < n) (hn : n < 2 ^ 31) : uI h t (B + (c + 1)) (nI k) v = some (pR h B (sA R (c + 1) (upd (ra R (c + 1)) k (narT t v)))) := by
  rw [uI_of (aF_of (q.c hc e)) hk hn, q.set (j := c + 1) (by rw [refC_len]; omega), refC_sA e]
theorem RA.ra_ (q : RA h B R) {c t n k : Nat} (hc : c < 30) (e : rLs[c]? = some (t, n)) (hk : k < n) (hn : n < 2 ^ 31) : aI h t (B + (c + 1)) (nI k) = some (ra R (c + 1) k) := aI_of (aF_of (q.c hc e)) hk hn
theorem RA.put (q : RA h B R) (R' : RefV) : RA (pR h B R') B R' := Chunk.put (by have := q.le (by rw [refC_len]; omega); rw [refC_len] at this ⊢; exact this)
theorem RA.pp (q : RA h B R) (R1 R2 : RefV) : pR (pR h B R1) B R2 = pR h B R2 := putC_putC (by rw [refC_len, refC_len]) (by have := q.le (by rw [refC_len]; omega); rw [refC_len] at this ⊢; exact this)
theorem RA.id (q : RA h B R) : pR h B R = h := putC_self q
theorem RA.i0 (q : RA h B R) : gI h B 11 0 = some (ri R 0) := q.i (by decide) (by decide) rfl
theorem RA.w0 (q : RA h B R) (v : Int32) : pF h B 11 0 (.int v) = some (pR h B (sI R 0 v)) := q.wi (by decide) (by decide) rfl
theorem RA.i1 (q : RA h B R) : gI h B 11 1 = some (ri R 1) := q.i (by decide) (by decide) rfl
theorem RA.w1 (q : RA h B R) (v : Int32) : pF h B 11 1 (.int v) = some (pR h B (sI R 1 v)) := q.wi (by decide) (by decide) rfl
theorem RA.i2 (q : RA h B R) : gI h B 11 2 = some (ri R 2) := q.i (by decide) (by decide) rfl
theorem RA.w2 (q : RA h B R) (v : Int32) : pF h B 11 2 (.int v) = some (pR h B (sI R 2 v)) := q.wi (by decide) (by decide) rfl
theorem RA.i3 (q : RA h B R) : gI h B 11 3 = some (ri R 3) := q.i (by decide) (by decide) rfl
theorem RA.w3 (q : RA h B R) (v : Int32) : pF h B 11 3 (.int v) = some (pR h B (sI R 3 v)) := q.wi (by decide) (by decide) rfl
theorem RA.i4 (q : RA h B R) : gI h B 11 4 = some (ri R 4) := q.i (by decide) (by decide) rfl
theorem RA.w4 (q : RA h B R) (v : Int32) : pF h B 11 4 (.int v) = some (pR h B (sI R 4 v)) := q.wi (by decide) (by decide) rfl
theorem RA.i5 (q : RA h B R) : gI h B 11 5 = some (ri R 5) := q.i (by decide) (by decide) rfl
theorem RA.w5 (q : RA h B R) (v : Int32) : pF h B 11 5 (.int v) = some (pR h B (sI R 5 v)) := q.wi (by decide) (by decide) rfl
theorem RA.i6 (q : RA h B R) : gI h B 11 6 = some (ri R 6) := q.i (by decide) (by decide) rfl
theorem RA.w6 (q : RA h B R) (v : Int32) : pF h B 11 6 (.int v) = some (pR h B (sI R 6 v)) := q.wi (by decide) (by decide) rfl
theorem RA.n7 (q : RA h B R) : gN h B 11 7 = some (B + 1) := q.n (k := 7) (by decide) (by decide) (by decide)
theorem RA.n8 (q : RA h B R) : gN h B 11 8 = some (B + 2) := q.n (k := 8) (by decide) (by decide) (by decide)
theorem RA.n9 (q : RA h B R) : gN h B 11 9 = some (B + 3) := q.n (k := 9) (by decide) (by decide) (by decide)
theorem RA.n10 (q : RA h B R) : gN h B 11 10 = some (B + 4) := q.n (k := 10) (by decide) (by decide) (by decide)
theorem RA.n11 (q : RA h B R) : gN h B 11 11 = some (B + 5) := q.n (k := 11) (by decide) (by decide) (by decide)
theorem RA.i12 (q : RA h B R) : gI h B 11 12 = some (ri R 12) := q.i (by decide) (by decide) rfl
theorem RA.w12 (q : RA h B R) (v : Int32) : pF h B 11 12 (.int v) = some (pR h B (sI R 12 v)) := q.wi (by decide) (by decide) rfl
theorem RA.i13 (q : RA h B R) : gI h B 11 13 = some (ri R 13) := q.i (by decide) (by decide) rfl
theorem RA.w13 (q : RA h B R) (v : Int32) : pF h B 11 13 (.int v) = some (pR h B (sI R 13 v)) := q.wi (by decide) (by decide) rfl
theorem RA.i14 (q : RA h B R) : gI h B 11 14 = some (ri R 14) := q.i (by decide) (by decide) rfl
theorem RA.w14 (q : RA h B R) (v : Int32) : pF h B 11 14 (.int v) = some (pR h B (sI R 14 v)) := q.wi (by decide) (by decide) rfl
theorem RA.n15 (q : RA h B R) : gN h B 11 15 = some (B + 6) := q.n (k := 15) (by decide) (by decide) (by decide)
theorem RA.i16 (q : RA h B R) : gI h B 11 16 = some (ri R 16) := q.i (by decide) (by decide) rfl
theorem RA.w16 (q : RA h B R) (v : Int32) : pF h B 11 16 (.int v) = some (pR h B (sI R 16 v)) := q.wi (by decide) (by decide) rfl
theorem RA.i17 (q : RA h B R) : gI h B 11 17 = some (ri R 17) := q.i (by decide) (by decide) rfl
theorem RA.w17 (q : RA h B R) (v : Int32) : pF h B 11 17 (.int v) = some (pR h B (sI R 17 v)) := q.wi (by decide) (by decide) rfl
theorem RA.i18 (q : RA h B R) : gI h B 11 18 = some (ri R 18) := q.i (by decide) (by decide) rfl
theorem RA.w18 (q : RA h B R) (v : Int32) : pF h B 11 18 (.int v) = some (pR h B (sI R 18 v)) := q.wi (by decide) (by decide) rfl
theorem RA.i19 (q : RA h B R) : gI h B 11 19 = some (ri R 19) := q.i (by decide) (by decide) rfl
theorem RA.w19 (q : RA h B R) (v : Int32) : pF h B 11 19 (.int v) = some (pR h B (sI R 19 v)) := q.wi (by decide) (by decide) rfl
theorem RA.i20 (q : RA h B R) : gI h B 11 20 = some (ri R 20) := q.i (by decide) (by decide) rfl
theorem RA.w20 (q : RA h B R) (v : Int32) : pF h B 11 20 (.int v) = some (pR h B (sI R 20 v)) := q.wi (by decide) (by decide) rfl
theorem RA.i21 (q : RA h B R) : gI h B 11 21 = some (ri R 21) := q.i (by decide) (by decide) rfl
theorem RA.w21 (q : RA h B R) (v : Int32) : pF h B 11 21 (.int v) = some (pR h B (sI R 21 v)) := q.wi (by decide) (by decide) rfl
theorem RA.i22 (q : RA h B R) : gI h B 11 22 = some (ri R 22) := q.i (by decide) (by decide) rfl
theorem RA.w22 (q : RA h B R) (v : Int32) : pF h B 11 22 (.int v) = some (pR h B (sI R 22 v)) := q.wi (by decide) (by decide) rfl
theorem RA.i24 (q : RA h B R) : gI h B 11 24 = some (ri R 24) := q.i (by decide) (by decide) rfl
theorem RA.w24 (q : RA h B R) (v : Int32) : pF h B 11 24 (.int v) = some (pR h B (sI R 24 v)) := q.wi (by decide) (by decide) rfl
theorem RA.i25 (q : RA h B R) : gI h B 11 25 = some (ri R 25) := q.i (by decide) (by decide) rfl
theorem RA.w25 (q : RA h B R) (v : Int32) : pF h B 11 25 (.int v) = some (pR h B (sI R 25 v)) := q.wi (by decide) (by decide) rfl
theorem RA.i26 (q : RA h B R) : gI h B 11 26 = some (ri R 26) := q.i (by decide) (by decide) rfl
theorem RA.w26 (q : RA h B R) (v : Int32) : pF h B 11 26 (.int v) = some (pR h B (sI R 26 v)) := q.wi (by decide) (by decide) rfl
theorem RA.i27 (q : RA h B R) : gI h B 11 27 = some (ri R 27) := q.i (by decide) (by decide) rfl
theorem RA.w27 (q : RA h B R) (v : Int32) : pF h B 11 27 (.int v) = some (pR h B (sI R 27 v)) := q.wi (by decide) (by decide) rfl
theorem RA.i28 (q : RA h B R) : gI h B 11 28 = some (ri R 28) := q.i (by decide) (by decide) rfl
theorem RA.w28 (q : RA h B R) (v : Int32) : pF h B 11 28 (.int v) = some (pR h B (sI R 28 v)) := q.wi (by decide) (by decide) rfl
theorem RA.i29 (q : RA h B R) : gI h B 11 29 = some (ri R 29) := q.i (by decide) (by decide) rfl
theorem RA.w29 (q : RA h B R) (v : Int32) : pF h B 11 29 (.int v) = some (pR h B (sI R 29 v)) := q.wi (by decide) (by decide) rfl
theorem RA.i30 (q : RA h B R) : gI h B 11 30 = some (ri R 30) := q.i (by decide) (by decide) rfl
theorem RA.w30 (q : RA h B R) (v : Int32) : pF h B 11 30 (.int v) = some (pR h B (sI R 30 v)) := q.wi (by decide) (by decide) rfl
theorem RA.i31 (q : RA h B R) : gI h B 11 31 = some (ri R 31) := q.i (by decide) (by decide) rfl
theorem RA.w31 (q : RA h B R) (v : Int32) : pF h B 11 31 (.int v) = some (pR h B (sI R 31 v)) := q.wi (by decide) (by decide) rfl
theorem RA.i32 (q : RA h B R) : gI h B 11 32 = some (ri R 32) := q.i (by decide) (by decide) rfl
theorem RA.w32 (q : RA h B R) (v : Int32) : pF h B 11 32 (.int v) = some (pR h B (sI R 32 v)) := q.wi (by decide) (by decide) rfl
theorem RA.n33 (q : RA h B R) : gN h B 11 33 = some (B + 7) := q.n (k := 33) (by decide) (by decide) (by decide)
theorem RA.n34 (q : RA h B R) : gN h B 11 34 = some (B + 8) := q.n (k := 34) (by decide) (by decide) (by decide)
theorem RA.n35 (q : RA h B R) : gN h B 11 35 = some (B + 9) := q.n (k := 35) (by decide) (by decide) (by decide)
theorem RA.n36 (q : RA h B R) : gN h B 11 36 = some (B + 10) := q.n (k := 36) (by decide) (by decide) (by decide)
theorem RA.n37 (q : RA h B R) : gN h B 11 37 = some (B + 11) := q.n (k := 37) (by decide) (by decide) (by decide)
theorem RA.n38 (q : RA h B R) : gN h B 11 38 = some (B + 12) := q.n (k := 38) (by decide) (by decide) (by decide)
theorem RA.n39 (q : RA h B R) : gN h B 11 39 = some (B + 13) := q.n (k := 39) (by decide) (by decide) (by decide)
theorem RA.n40 (q : RA h B R) : gN h B 11 40 = some (B + 14) := q.n (k := 40) (by decide) (by decide) (by decide)
theorem RA.n41 (q : RA h B R) : gN h B 11 41 = some (B + 15) := q.n (k := 41) (by decide) (by decide) (by decide)
theorem RA.i42 (q : RA h B R) : gI h B 11 42 = some (ri R 42) := q.i (by decide) (by decide) rfl
theorem RA.w42 (q : RA h B R) (v : Int32) : pF h B 11 42 (.int v) = some (pR h B (sI R 42 v)) := q.wi (by decide) (by decide) rfl
theorem RA.n43 (q : RA h B R) : gN h B 11 43 = some (B + 16) := q.n (k := 43) (by decide) (by decide) (by decide)
theorem RA.n44 (q : RA h B R) : gN h B 11 44 = some (B + 17) := q.n (k := 44) (by decide) (by decide) (by decide)
theorem RA.n45 (q : RA h B R) : gN h B 11 45 = some (B + 18) := q.n (k := 45) (by decide) (by decide) (by decide)
theorem RA.n46 (q : RA h B R) : gN h B 11 46 = some (B + 19) := q.n (k := 46) (by decide) (by decide) (by decide)
theorem RA.n47 (q : RA h B R) : gN h B 11 47 = some (B + 20) := q.n (k := 47) (by decide) (by decide) (by decide)
theorem RA.n48 (q : RA h B R) : gN h B 11 48 = some (B + 21) := q.n (k := 48) (by decide) (by decide) (by decide)
theorem RA.n49 (q : RA h B R) : gN h B 11 49 = some (B + 22) := q.n (k := 49) (by decide) (by decide) (by decide)
theorem RA.n50 (q : RA h B R) : gN h B 11 50 = some (B + 23) := q.n (k := 50) (by decide) (by decide) (by decide)
theorem RA.i51 (q : RA h B R) : gI h B 11 51 = some (ri R 51) := q.i (by decide) (by decide) rfl
theorem RA.w51 (q : RA h B R) (v : Int32) : pF h B 11 51 (.int v) = some (pR h B (sI R 51 v)) := q.wi (by decide) (by decide) rfl
theorem RA.n52 (q : RA h B R) : gN h B 11 52 = some (B + 24) := q.n (k := 52) (by decide) (by decide) (by decide)
theorem RA.n53 (q : RA h B R) : gN h B 11 53 = some (B + 25) := q.n (k := 53) (by decide) (by decide) (by decide)
theorem RA.n54 (q : RA h B R) : gN h B 11 54 = some (B + 26) := q.n (k := 54) (by decide) (by decide) (by decide)
theorem RA.i55 (q : RA h B R) : gI h B 11 55 = some (ri R 55) := q.i (by decide) (by decide) rfl
theorem RA.w55 (q : RA h B R) (v : Int32) : pF h B 11 55 (.int v) = some (pR h B (sI R 55 v)) := q.wi (by decide) (by decide) rfl
theorem RA.n56 (q : RA h B R) : gN h B 11 56 = some (B + 27) := q.n (k := 56) (by decide) (by decide) (by decide)
theorem RA.i57 (q : RA h B R) : gI h B 11 57 = some (ri R 57) := q.i (by decide) (by decide) rfl
theorem RA.w57 (q : RA h B R) (v : Int32) : pF h B 11 57 (.int v) = some (pR h B (sI R 57 v)) := q.wi (by decide) (by decide) rfl
theorem RA.i58 (q : RA h B R) : gI h B 11 58 = some (ri R 58) := q.i (by decide) (by decide) rfl
theorem RA.w58 (q : RA h B R) (v : Int32) : pF h B 11 58 (.int v) = some (pR h B (sI R 58 v)) := q.wi (by decide) (by decide) rfl
theorem RA.i59 (q : RA h B R) : gI h B 11 59 = some (ri R 59) := q.i (by decide) (by decide) rfl
theorem RA.w59 (q : RA h B R) (v : Int32) : pF h B 11 59 (.int v) = some (pR h B (sI R 59 v)) := q.wi (by decide) (by decide) rfl
theorem RA.n60 (q : RA h B R) : gN h B 11 60 = some (B + 28) := q.n (k := 60) (by decide) (by decide) (by decide)
theorem RA.n61 (q : RA h B R) : gN h B 11 61 = some (B + 29) := q.n (k := 61) (by decide) (by decide) (by decide)
theorem RA.n62 (q : RA h B R) : gN h B 11 62 = some (B + 30) := q.n (k := 62) (by decide) (by decide) (by decide)
theorem RA.r1 (q : RA h B R) {k : Nat} (hk : k < 6) : aI h 0 (B + 1) (nI k) = some (ra R 1 k) := q.ra_ (c := 0) (by decide) rfl hk (by decide)
theorem RA.u1 (q : RA h B R) {k : Nat} {v : Int32} (hk : k < 6) : uI h 0 (B + 1) (nI k) v = some (pR h B (sA R 1 (upd (ra R 1) k v))) := q.wa (c := 0) (by decide) rfl hk (by decide)
theorem RA.l1 (q : RA h B R) : lenA h (B + 1) = some (nI 6) := by unfold lenA; rw [show h[B + 1]? = _ from q.c (c := 0) (by decide) rfl]; rfl
theorem RA.r2 (q : RA h B R) {k : Nat} (hk : k < 8) : aI h 0 (B + 2) (nI k) = some (ra R 2 k) := q.ra_ (c := 1) (by decide) rfl hk (by decide)
theorem RA.u2 (q : RA h B R) {k : Nat} {v : Int32} (hk : k < 8) : uI h 0 (B + 2) (nI k) v = some (pR h B (sA R 2 (upd (ra R 2) k v))) := q.wa (c := 1) (by decide) rfl hk (by decide)
theorem RA.l2 (q : RA h B R) : lenA h (B + 2) = some (nI 8) := by unfold lenA; rw [show h[B + 2]? = _ from q.c (c := 1) (by decide) rfl]; rfl
theorem RA.r3 (q : RA h B R) {k : Nat} (hk : k < 8) : aI h 0 (B + 3) (nI k) = some (ra R 3 k) := q.ra_ (c := 2) (by decide) rfl hk (by decide)
theorem RA.u3 (q : RA h B R) {k : Nat} {v : Int32} (hk : k < 8) : uI h 0 (B + 3) (nI k) v = some (pR h B (sA R 3 (upd (ra R 3) k v))) := q.wa (c := 2) (by decide) rfl hk (by decide)
theorem RA.l3 (q : RA h B R) : lenA h (B + 3) = some (nI 8) := by unfold lenA; rw [show h[B + 3]? = _ from q.c (c := 2) (by decide) rfl]; rfl
theorem RA.r4 (q : RA h B R) {k : Nat} (hk : k < 1400) : aI h 0 (B + 4) (nI k) = some (ra R 4 k) := q.ra_ (c := 3) (by decide) rfl hk (by decide)
theorem RA.u4 (q : RA h B R) {k : Nat} {v : Int32} (hk : k < 1400) : uI h 0 (B + 4) (nI k) v = some (pR h B (sA R 4 (upd (ra R 4) k v))) := q.wa (c := 3) (by decide) rfl hk (by decide)
theorem RA.l4 (q : RA h B R) : lenA h (B + 4) = some (nI 1400) := by unfold lenA; rw [show h[B + 4]? = _ from q.c (c := 3) (by decide) rfl]; rfl
theorem RA.r5 (q : RA h B R) {k : Nat} (hk : k < 700) : aI h 0 (B + 5) (nI k) = some (ra R 5 k) := q.ra_ (c := 4) (by decide) rfl hk (by decide)
theorem RA.u5 (q : RA h B R) {k : Nat} {v : Int32} (hk : k < 700) : uI h 0 (B + 5) (nI k) v = some (pR h B (sA R 5 (upd (ra R 5) k v))) := q.wa (c := 4) (by decide) rfl hk (by decide)
theorem RA.l5 (q : RA h B R) : lenA h (B + 5) = some (nI 700) := by unfold lenA; rw [show h[B + 5]? = _ from q.c (c := 4) (by decide) rfl]; rfl
theorem RA.r6 (q : RA h B R) {k : Nat} (hk : k < 3) : aI h 0 (B + 6) (nI k) = some (ra R 6 k) := q.ra_ (c := 5) (by decide) rfl hk (by decide)
theorem RA.u6 (q : RA h B R) {k : Nat} {v : Int32} (hk : k < 3) : uI h 0 (B + 6) (nI k) v = some (pR h B (sA R 6 (upd (ra R 6) k v))) := q.wa (c := 5) (by decide) rfl hk (by decide)
theorem RA.l6 (q : RA h B R) : lenA h (B + 6) = some (nI 3) := by unfold lenA; rw [show h[B + 6]? = _ from q.c (c := 5) (by decide) rfl]; rfl
theorem RA.r7 (q : RA h B R) {k : Nat} (hk : k < 6) : aI h 0 (B + 7) (nI k) = some (ra R 7 k) := q.ra_ (c := 6) (by decide) rfl hk (by decide)
theorem RA.u7 (q : RA h B R) {k : Nat} {v : Int32} (hk : k < 6) : uI h 0 (B + 7) (nI k) v = some (pR h B (sA R 7 (upd (ra R 7) k v))) := q.wa (c := 6) (by decide) rfl hk (by decide)
theorem RA.l7 (q : RA h B R) : lenA h (B + 7) = some (nI 6) := by unfold lenA; rw [show h[B + 7]? = _ from q.c (c := 6) (by decide) rfl]; rfl
theorem RA.r8 (q : RA h B R) {k : Nat} (hk : k < 8) : aI h 0 (B + 8) (nI k) = some (ra R 8 k) := q.ra_ (c := 7) (by decide) rfl hk (by decide)
theorem RA.u8 (q : RA h B R) {k : Nat} {v : Int32} (hk : k < 8) : uI h 0 (B + 8) (nI k) v = some (pR h B (sA R 8 (upd (ra R 8) k v))) := q.wa (c := 7) (by decide) rfl hk (by decide)
theorem RA.l8 (q : RA h B R) : lenA h (B + 8) = some (nI 8) := by unfold lenA; rw [show h[B + 8]? = _ from q.c (c := 7) (by decide) rfl]; rfl
theorem RA.r9 (q : RA h B R) {k : Nat} (hk : k < 8) : aI h 0 (B + 9) (nI k) = some (ra R 9 k) := q.ra_ (c := 8) (by decide) rfl hk (by decide)
theorem RA.u9 (q : RA h B R) {k : Nat} {v : Int32} (hk : k < 8) : uI h 0 (B + 9) (nI k) v = some (pR h B (sA R 9 (upd (ra R 9) k v))) := q.wa (c := 8) (by decide) rfl hk (by decide)
theorem RA.l9 (q : RA h B R) : lenA h (B + 9) = some (nI 8) := by unfold lenA; rw [show h[B + 9]? = _ from q.c (c := 8) (by decide) rfl]; rfl
theorem RA.r10 (q : RA h B R) {k : Nat} (hk : k < 49) : aI h 0 (B + 10) (nI k) = some (ra R 10 k) := q.ra_ (c := 9) (by decide) rfl hk (by decide)
theorem RA.u10 (q : RA h B R) {k : Nat} {v : Int32} (hk : k < 49) : uI h 0 (B + 10) (nI k) v = some (pR h B (sA R 10 (upd (ra R 10) k v))) := q.wa (c := 9) (by decide) rfl hk (by decide)
theorem RA.l10 (q : RA h B R) : lenA h (B + 10) = some (nI 49) := by unfold lenA; rw [show h[B + 10]? = _ from q.c (c := 9) (by decide) rfl]; rfl
theorem RA.r11 (q : RA h B R) {k : Nat} (hk : k < 1400) : aI h 0 (B + 11) (nI k) = some (ra R 11 k) := q.ra_ (c := 10) (by decide) rfl hk (by decide)
theorem RA.u11 (q : RA h B R) {k : Nat} {v : Int32} (hk : k < 1400) : uI h 0 (B + 11) (nI k) v = some (pR h B (sA R 11 (upd (ra R 11) k v))) := q.wa (c := 10) (by decide) rfl hk (by decide)
theorem RA.l11 (q : RA h B R) : lenA h (B + 11) = some (nI 1400) := by unfold lenA; rw [show h[B + 11]? = _ from q.c (c := 10) (by decide) rfl]; rfl
theorem RA.r12 (q : RA h B R) {k : Nat} (hk : k < 950) : aI h 0 (B + 12) (nI k) = some (ra R 12 k) := q.ra_ (c := 11) (by decide) rfl hk (by decide)
theorem RA.u12 (q : RA h B R) {k : Nat} {v : Int32} (hk : k < 950) : uI h 0 (B + 12) (nI k) v = some (pR h B (sA R 12 (upd (ra R 12) k v))) := q.wa (c := 11) (by decide) rfl hk (by decide)
theorem RA.l12 (q : RA h B R) : lenA h (B + 12) = some (nI 950) := by unfold lenA; rw [show h[B + 12]? = _ from q.c (c := 11) (by decide) rfl]; rfl
theorem RA.r13 (q : RA h B R) {k : Nat} (hk : k < 9) : aI h 3 (B + 13) (nI k) = some (ra R 13 k) := q.ra_ (c := 12) (by decide) rfl hk (by decide)
theorem RA.u13 (q : RA h B R) {k : Nat} {v : Int32} (hk : k < 9) : uI h 3 (B + 13) (nI k) v = some (pR h B (sA R 13 (upd (ra R 13) k (narT 3 v)))) := q.wa (c := 12) (by decide) rfl hk (by decide)
theorem RA.l13 (q : RA h B R) : lenA h (B + 13) = some (nI 9) := by unfold lenA; rw [show h[B + 13]? = _ from q.c (c := 12) (by decide) rfl]; rfl
theorem RA.r14 (q : RA h B R) {k : Nat} (hk : k < 98) : aI h 0 (B + 14) (nI k) = some (ra R 14 k) := q.ra_ (c := 13) (by decide) rfl hk (by decide)
theorem RA.u14 (q : RA h B R) {k : Nat} {v : Int32} (hk : k < 98) : uI h 0 (B + 14) (nI k) v = some (pR h B (sA R 14 (upd (ra R 14) k v))) := q.wa (c := 13) (by decide) rfl hk (by decide)
theorem RA.l14 (q : RA h B R) : lenA h (B + 14) = some (nI 98) := by unfold lenA; rw [show h[B + 14]? = _ from q.c (c := 13) (by decide) rfl]; rfl
theorem RA.r15 (q : RA h B R) {k : Nat} (hk : k < 1960) : aI h 0 (B + 15) (nI k) = some (ra R 15 k) := q.ra_ (c := 14) (by decide) rfl hk (by decide)
theorem RA.u15 (q : RA h B R) {k : Nat} {v : Int32} (hk : k < 1960) : uI h 0 (B + 15) (nI k) v = some (pR h B (sA R 15 (upd (ra R 15) k v))) := q.wa (c := 14) (by decide) rfl hk (by decide)
theorem RA.l15 (q : RA h B R) : lenA h (B + 15) = some (nI 1960) := by unfold lenA; rw [show h[B + 15]? = _ from q.c (c := 14) (by decide) rfl]; rfl
theorem RA.r16 (q : RA h B R) {k : Nat} (hk : k < 6) : aI h 0 (B + 16) (nI k) = some (ra R 16 k) := q.ra_ (c := 15) (by decide) rfl hk (by decide)
theorem RA.u16 (q : RA h B R) {k : Nat} {v : Int32} (hk : k < 6) : uI h 0 (B + 16) (nI k) v = some (pR h B (sA R 16 (upd (ra R 16) k v))) := q.wa (c := 15) (by decide) rfl hk (by decide)
theorem RA.l16 (q : RA h B R) : lenA h (B + 16) = some (nI 6) := by unfold lenA; rw [show h[B + 16]? = _ from q.c (c := 15) (by decide) rfl]; rfl
theorem RA.r17 (q : RA h B R) {k : Nat} (hk : k < 950) : aI h 0 (B + 17) (nI k) = some (ra R 17 k) := q.ra_ (c := 16) (by decide) rfl hk (by decide)
theorem RA.u17 (q : RA h B R) {k : Nat} {v : Int32} (hk : k < 950) : uI h 0 (B + 17) (nI k) v = some (pR h B (sA R 17 (upd (ra R 17) k v))) := q.wa (c := 16) (by decide) rfl hk (by decide)
theorem RA.l17 (q : RA h B R) : lenA h (B + 17) = some (nI 950) := by unfold lenA; rw [show h[B + 17]? = _ from q.c (c := 16) (by decide) rfl]; rfl
theorem RA.r18 (q : RA h B R) {k : Nat} (hk : k < 12) : aI h 0 (B + 18) (nI k) = some (ra R 18 k) := q.ra_ (c := 17) (by decide) rfl hk (by decide)
theorem RA.u18 (q : RA h B R) {k : Nat} {v : Int32} (hk : k < 12) : uI h 0 (B + 18) (nI k) v = some (pR h B (sA R 18 (upd (ra R 18) k v))) := q.wa (c := 17) (by decide) rfl hk (by decide)
theorem RA.l18 (q : RA h B R) : lenA h (B + 18) = some (nI 12) := by unfold lenA; rw [show h[B + 18]? = _ from q.c (c := 17) (by decide) rfl]; rfl
theorem RA.r19 (q : RA h B R) {k : Nat} (hk : k < 448) : aI h 0 (B + 19) (nI k) = some (ra R 19 k) := q.ra_ (c := 18) (by decide) rfl hk (by decide)
theorem RA.u19 (q : RA h B R) {k : Nat} {v : Int32} (hk : k < 448) : uI h 0 (B + 19) (nI k) v = some (pR h B (sA R 19 (upd (ra R 19) k v))) := q.wa (c := 18) (by decide) rfl hk (by decide)
theorem RA.l19 (q : RA h B R) : lenA h (B + 19) = some (nI 448) := by unfold lenA; rw [show h[B + 19]? = _ from q.c (c := 18) (by decide) rfl]; rfl
theorem RA.r20 (q : RA h B R) {k : Nat} (hk : k < 6) : aI h 0 (B + 20) (nI k) = some (ra R 20 k) := q.ra_ (c := 19) (by decide) rfl hk (by decide)
theorem RA.u20 (q : RA h B R) {k : Nat} {v : Int32} (hk : k < 6) : uI h 0 (B + 20) (nI k) v = some (pR h B (sA R 20 (upd (ra R 20) k v))) := q.wa (c := 19) (by decide) rfl hk (by decide)
theorem RA.l20 (q : RA h B R) : lenA h (B + 20) = some (nI 6) := by unfold lenA; rw [show h[B + 20]? = _ from q.c (c := 19) (by decide) rfl]; rfl
theorem RA.r21 (q : RA h B R) {k : Nat} (hk : k < 9) : aI h 0 (B + 21) (nI k) = some (ra R 21 k) := q.ra_ (c := 20) (by decide) rfl hk (by decide)
theorem RA.u21 (q : RA h B R) {k : Nat} {v : Int32} (hk : k < 9) : uI h 0 (B + 21) (nI k) v = some (pR h B (sA R 21 (upd (ra R 21) k v))) := q.wa (c := 20) (by decide) rfl hk (by decide)
theorem RA.l21 (q : RA h B R) : lenA h (B + 21) = some (nI 9) := by unfold lenA; rw [show h[B + 21]? = _ from q.c (c := 20) (by decide) rfl]; rfl
theorem RA.r22 (q : RA h B R) {k : Nat} (hk : k < 10) : aI h 0 (B + 22) (nI k) = some (ra R 22 k) := q.ra_ (c := 21) (by decide) rfl hk (by decide)
theorem RA.u22 (q : RA h B R) {k : Nat} {v : Int32} (hk : k < 10) : uI h 0 (B + 22) (nI k) v = some (pR h B (sA R 22 (upd (ra R 22) k v))) := q.wa (c := 21) (by decide) rfl hk (by decide)
theorem RA.l22 (q : RA h B R) : lenA h (B + 22) = some (nI 10) := by unfold lenA; rw [show h[B + 22]? = _ from q.c (c := 21) (by decide) rfl]; rfl
theorem RA.r23 (q : RA h B R) {k : Nat} (hk : k < 10) : aI h 0 (B + 23) (nI k) = some (ra R 23 k) := q.ra_ (c := 22) (by decide) rfl hk (by decide)
theorem RA.u23 (q : RA h B R) {k : Nat} {v : Int32} (hk : k < 10) : uI h 0 (B + 23) (nI k) v = some (pR h B (sA R 23 (upd (ra R 23) k v))) := q.wa (c := 22) (by decide) rfl hk (by decide)
theorem RA.l23 (q : RA h B R) : lenA h (B + 23) = some (nI 10) := by unfold lenA; rw [show h[B + 23]? = _ from q.c (c := 22) (by decide) rfl]; rfl
theorem RA.r24 (q : RA h B R) {k : Nat} (hk : k < 24) : aI h 0 (B + 24) (nI k) = some (ra R 24 k) := q.ra_ (c := 23) (by decide) rfl hk (by decide)
theorem RA.u24 (q : RA h B R) {k : Nat} {v : Int32} (hk : k < 24) : uI h 0 (B + 24) (nI k) v = some (pR h B (sA R 24 (upd (ra R 24) k v))) := q.wa (c := 23) (by decide) rfl hk (by decide)
theorem RA.l24 (q : RA h B R) : lenA h (B + 24) = some (nI 24) := by unfold lenA; rw [show h[B + 24]? = _ from q.c (c := 23) (by decide) rfl]; rfl
theorem RA.r25 (q : RA h B R) {k : Nat} (hk : k < 12) : aI h 0 (B + 25) (nI k) = some (ra R 25 k) := q.ra_ (c := 24) (by decide) rfl hk (by decide)
theorem RA.u25 (q : RA h B R) {k : Nat} {v : Int32} (hk : k < 12) : uI h 0 (B + 25) (nI k) v = some (pR h B (sA R 25 (upd (ra R 25) k v))) := q.wa (c := 24) (by decide) rfl hk (by decide)
theorem RA.l25 (q : RA h B R) : lenA h (B + 25) = some (nI 12) := by unfold lenA; rw [show h[B + 25]? = _ from q.c (c := 24) (by decide) rfl]; rfl
theorem RA.r26 (q : RA h B R) {k : Nat} (hk : k < 7200) : aI h 0 (B + 26) (nI k) = some (ra R 26 k) := q.ra_ (c := 25) (by decide) rfl hk (by decide)
theorem RA.u26 (q : RA h B R) {k : Nat} {v : Int32} (hk : k < 7200) : uI h 0 (B + 26) (nI k) v = some (pR h B (sA R 26 (upd (ra R 26) k v))) := q.wa (c := 25) (by decide) rfl hk (by decide)
theorem RA.l26 (q : RA h B R) : lenA h (B + 26) = some (nI 7200) := by unfold lenA; rw [show h[B + 26]? = _ from q.c (c := 25) (by decide) rfl]; rfl
theorem RA.r27 (q : RA h B R) {k : Nat} (hk : k < 24) : aI h 0 (B + 27) (nI k) = some (ra R 27 k) := q.ra_ (c := 26) (by decide) rfl hk (by decide)
theorem RA.u27 (q : RA h B R) {k : Nat} {v : Int32} (hk : k < 24) : uI h 0 (B + 27) (nI k) v = some (pR h B (sA R 27 (upd (ra R 27) k v))) := q.wa (c := 26) (by decide) rfl hk (by decide)
theorem RA.l27 (q : RA h B R) : lenA h (B + 27) = some (nI 24) := by unfold lenA; rw [show h[B + 27]? = _ from q.c (c := 26) (by decide) rfl]; rfl
theorem RA.r28 (q : RA h B R) {k : Nat} (hk : k < 49) : aI h 0 (B + 28) (nI k) = some (ra R 28 k) := q.ra_ (c := 27) (by decide) rfl hk (by decide)
theorem RA.u28 (q : RA h B R) {k : Nat} {v : Int32} (hk : k < 49) : uI h 0 (B + 28) (nI k) v = some (pR h B (sA R 28 (upd (ra R 28) k v))) := q.wa (c := 27) (by decide) rfl hk (by decide)
theorem RA.l28 (q : RA h B R) : lenA h (B + 28) = some (nI 49) := by unfold lenA; rw [show h[B + 28]? = _ from q.c (c := 27) (by decide) rfl]; rfl
theorem RA.r29 (q : RA h B R) {k : Nat} (hk : k < 1960) : aI h 0 (B + 29) (nI k) = some (ra R 29 k) := q.ra_ (c := 28) (by decide) rfl hk (by decide)
theorem RA.u29 (q : RA h B R) {k : Nat} {v : Int32} (hk : k < 1960) : uI h 0 (B + 29) (nI k) v = some (pR h B (sA R 29 (upd (ra R 29) k v))) := q.wa (c := 28) (by decide) rfl hk (by decide)
theorem RA.l29 (q : RA h B R) : lenA h (B + 29) = some (nI 1960) := by unfold lenA; rw [show h[B + 29]? = _ from q.c (c := 28) (by decide) rfl]; rfl
theorem RA.r30 (q : RA h B R) {k : Nat} (hk : k < 24) : aI h 0 (B + 30) (nI k) = some (ra R 30 k) := q.ra_ (c := 29) (by decide) rfl hk (by decide)
theorem RA.u30 (q : RA h B R) {k : Nat} {v : Int32} (hk : k < 24) : uI h 0 (B + 30) (nI k) v = some (pR h B (sA R 30 (upd (ra R 30) k v))) := q.wa (c := 29) (by decide) rfl hk (by decide)
theorem RA.l30 (q : RA h B R) : lenA h (B + 30) = some (nI 24) := by unfold lenA; rw [show h[B + 30]? = _ from q.c (c := 29) (by decide) rfl]; rfl
end RR
