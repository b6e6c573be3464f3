/-! THE DRAFT of what is told: written -/
def zN_ (T : ToldV) (n : Nat) : ToldV := (n, tW T, tWk T, tWg T, tKg T, tSk T, tK T, tFr T, tPl T, tCo T, tCl T, tWt T)
def zW (T : ToldV) (n : Nat) : ToldV := (tN_ T, n, tWk T, tWg T, tKg T, tSk T, tK T, tFr T, tPl T, tCo T, tCl T, tWt T)
def zWk (T : ToldV) (v : Int32) : ToldV := (tN_ T, tW T, v, tWg T, tKg T, tSk T, tK T, tFr T, tPl T, tCo T, tCl T, tWt T)
def zWg (T : ToldV) (v : Int32) : ToldV := (tN_ T, tW T, tWk T, v, tKg T, tSk T, tK T, tFr T, tPl T, tCo T, tCl T, tWt T)
def zKg (T : ToldV) (v : Int32) : ToldV := (tN_ T, tW T, tWk T, tWg T, v, tSk T, tK T, tFr T, tPl T, tCo T, tCl T, tWt T)
def zSk (T : ToldV) (f : AF) : ToldV := (tN_ T, tW T, tWk T, tWg T, tKg T, f, tK T, tFr T, tPl T, tCo T, tCl T, tWt T)
def zK (T : ToldV) (K : KnV) : ToldV := (tN_ T, tW T, tWk T, tWg T, tKg T, tSk T, K, tFr T, tPl T, tCo T, tCl T, tWt T)
def zFr (T : ToldV) (r : RuV) : ToldV := (tN_ T, tW T, tWk T, tWg T, tKg T, tSk T, tK T, r, tPl T, tCo T, tCl T, tWt T)
def zPl (T : ToldV) (r : RuV) : ToldV := (tN_ T, tW T, tWk T, tWg T, tKg T, tSk T, tK T, tFr T, r, tCo T, tCl T, tWt T)
def zCo (T : ToldV) (f : AF) : ToldV := (tN_ T, tW T, tWk T, tWg T, tKg T, tSk T, tK T, tFr T, tPl T, f, tCl T, tWt T)
def zCl (T : ToldV) (v : Int32) : ToldV := (tN_ T, tW T, tWk T, tWg T, tKg T, tSk T, tK T, tFr T, tPl T, tCo T, v, tWt T)
/-- a code more, at n -/
def apT (T : ToldV) (n : Nat) (v : Int32) : ToldV := zCl (zCo T (upd (tCo T) n v)) (nI (n + 1))
section TDR
variable {g : GG} {h : Hp} {b d k n m : Nat} {T : ToldV} {v l : Int32}
theorem TA.g3 (q : TA h b T) : gI h b 9 3 = some (tWg T) := by unfold gI; rw [q.o]; rfl
theorem TA.g4 (q : TA h b T) : gI h b 9 4 = some (tKg T) := by unfold gI; rw [q.o]; rfl
theorem TA.g10 (q : TA h b T) : gI h b 9 10 = some (tCl T) := by unfold gI; rw [q.o]; rfl
theorem TA.wF (q : TA h b T) {j : Nat} (hj : j < 12) (v : Value) : pF h b 9 j v = some (putC h b ((toldC b T).set 0 (.inr (9, [Value.int (nI (tN_ T)), .int (nI (tW T)), .int (tWk T), .int (tWg T), .int (tKg T), .ref (b + 1), .ref (b + 2), .ref (b + 8), .ref (b + 9), .ref (b + 10), .int (tCl T), .ref (b + 11)].set j v)))) := by
  unfold pF
  rw [q.o]
  simp only [List.length_cons, List.length_nil, Nat.zero_add, Nat.reduceAdd, hj, if_true]
  rw [show h.set b = h.set (b + 0) from rfl, Chunk.set q (j := 0) (by simp [toldC])]
theorem TA.z0 (q : TA h b T) (n : Nat) : pF h b 9 0 (.int (nI n)) = some (pT h b (zN_ T n)) := q.wF (by decide) _
theorem TA.z1 (q : TA h b T) (n : Nat) : pF h b 9 1 (.int (nI n)) = some (pT h b (zW T n)) := q.wF (by decide) _
theorem TA.z2 (q : TA h b T) (v : Int32) : pF h b 9 2 (.int v) = some (pT h b (zWk T v)) := q.wF (by decide) _
theorem TA.z3 (q : TA h b T) (v : Int32) : pF h b 9 3 (.int v) = some (pT h b (zWg T v)) := q.wF (by decide) _
theorem TA.z4 (q : TA h b T) (v : Int32) : pF h b 9 4 (.int v) = some (pT h b (zKg T v)) := q.wF (by decide) _
theorem TA.z10 (q : TA h b T) (v : Int32) : pF h b 9 10 (.int v) = some (pT h b (zCl T v)) := q.wF (by decide) _
theorem TA.zs (q : TA h b T) (hk : k < 6) (v : Int32) : uI h 0 (b + 1) (nI k) v = some (pT h b (zSk T (upd (tSk T) k v))) := by
  rw [uI_of q.f1 hk (by omega), q.set (j := 1) (by simp [toldC])]; rfl
theorem TA.zc (q : TA h b T) (hk : k < 700) (v : Int32) : uI h 0 (b + 10) (nI k) v = some (pT h b (zCo T (upd (tCo T) k v))) := by
  rw [uI_of q.f10 hk (by omega), q.set (j := 10) (by simp [toldC])]; rfl
theorem TA.z3a (q : TA h b T) (hk : k < 8) (v : Int32) : uI h 0 (b + 3) (nI k) v = some (pT h b (zK T ((tK T).1, upd (tK T).2.1 k v, (tK T).2.2))) := by
  rw [uI_of q.f3 hk (by omega), q.set (j := 3) (by simp [toldC])]; rfl
theorem TA.z4a (q : TA h b T) (hk : k < 8) (v : Int32) : uI h 0 (b + 4) (nI k) v = some (pT h b (zK T ((tK T).1, (tK T).2.1, upd (tK T).2.2.1 k v, (tK T).2.2.2))) := by
  rw [uI_of q.f4 hk (by omega), q.set (j := 4) (by simp [toldC])]; rfl
theorem TA.zk (q : TA h b T) (v : Int32) : pF h (b + 2) 1 0 (.int v) = some (pT h b (zK T (v, (tK T).2))) := by
  unfold pF
  rw [q.o2]
  simp only [List.length_cons, List.length_nil, Nat.zero_add, Nat.reduceAdd, Nat.zero_lt_succ, if_true]
  rw [Chunk.set q (j := 2) (by simp [toldC])]
  rfl
theorem TA.z8 (q : TA h b T) {j : Nat} (hj : j < 3) (v : Value) : pF h (b + 8) 6 j v = some (putC h b ((toldC b T).set 8 (.inr (6, [Value.int (tFr T).1, .int (tFr T).2.1, .int (tFr T).2.2].set j v)))) := by
  unfold pF
  rw [q.o8]
  simp only [List.length_cons, List.length_nil, Nat.zero_add, Nat.reduceAdd, hj, if_true]
  rw [Chunk.set q (j := 8) (by simp [toldC])]
theorem TA.z9 (q : TA h b T) {j : Nat} (hj : j < 3) (v : Value) : pF h (b + 9) 6 j v = some (putC h b ((toldC b T).set 9 (.inr (6, [Value.int (tPl T).1, .int (tPl T).2.1, .int (tPl T).2.2].set j v)))) := by
  unfold pF
  rw [q.o9]
  simp only [List.length_cons, List.length_nil, Nat.zero_add, Nat.reduceAdd, hj, if_true]
  rw [Chunk.set q (j := 9) (by simp [toldC])]
theorem TA.f0 (q : TA h b T) (v : Int32) : pF h (b + 8) 6 0 (.int v) = some (pT h b (zFr T (v, (tFr T).2))) := q.z8 (by decide) _
theorem TA.f1' (q : TA h b T) (v : Int32) : pF h (b + 8) 6 1 (.int v) = some (pT h b (zFr T ((tFr T).1, v, (tFr T).2.2))) := q.z8 (by decide) _
theorem TA.f2' (q : TA h b T) (v : Int32) : pF h (b + 8) 6 2 (.int v) = some (pT h b (zFr T ((tFr T).1, (tFr T).2.1, v))) := q.z8 (by decide) _
theorem TA.p0 (q : TA h b T) (v : Int32) : pF h (b + 9) 6 0 (.int v) = some (pT h b (zPl T (v, (tPl T).2))) := q.z9 (by decide) _
theorem TA.p1 (q : TA h b T) (v : Int32) : pF h (b + 9) 6 1 (.int v) = some (pT h b (zPl T ((tPl T).1, v, (tPl T).2.2))) := q.z9 (by decide) _
theorem TA.p2 (q : TA h b T) (v : Int32) : pF h (b + 9) 6 2 (.int v) = some (pT h b (zPl T ((tPl T).1, (tPl T).2.1, v))) := q.z9 (by decide) _
theorem c_append (hg : GOK g) (hd : 8 ≤ d) (hT : TA h b T) (e : tCl T = nI n) (hn : n < 700) : CT g d yX9_append (wsC yX9_append cX9_append 2 none) [.ref b, .int v] h 0 0 (fun r h2 => r = none ∧ h2 = pT h b (apT T n v)) noT := by
  refine CT_ofB (by decide +kernel) (Nat.le_of_ble_eq_true rfl) rfl fun K X => ?_
  refine b_X9_append_0 hg hd k00 X _ _ _ ⟨_, by rw [hT.g10, e], _, hT.g9, _, hT.l10, fun y => absurd (le_nI (by omega) (by omega) y) (by omega), fun _ => ⟨_, hT.g9, _, by rw [hT.g10, e], _, hT.zc hn v, ?_⟩⟩
  have t1 := hT.put (zCo T (upd (tCo T) n v))
  refine ⟨_, t1.g10, _, t1.z10 _, rfl, ?_⟩
  rw [hT.pp, show tCl (zCo T (upd (tCo T) n v)) = nI n from e, nI_s]
  rfl
theorem c_beginF (hg : GOK g) (hd : 8 ≤ d) (hT : TA h b T) : CT g d yX9_begin (wsC yX9_begin cX9_begin 2 none) [.ref b, .ref (b + 8)] h 0 0 (fun r h2 => r = none ∧ h2 = pT h b (zFr T (1, tCl T, tCl T))) noT := by
  refine CT_ofB (by decide +kernel) (Nat.le_of_ble_eq_true rfl) rfl fun K X => ?_
  have t1 := hT.put (zFr T (1, (tFr T).2))
  have t2 := hT.put (zFr T (1, tCl T, (tFr T).2.2))
  refine b_X9_begin_0 hg hd k00 X _ _ _ ⟨Or.inr rfl, _, hT.f0 1, _, t1.g10, _, t1.f1' _, ?_⟩
  rw [hT.pp]
  refine ⟨_, t2.g10, _, t2.f2' _, rfl, ?_⟩
  rw [hT.pp]
  rfl
theorem c_beginP (hg : GOK g) (hd : 8 ≤ d) (hT : TA h b T) : CT g d yX9_begin (wsC yX9_begin cX9_begin 2 none) [.ref b, .ref (b + 9)] h 0 0 (fun r h2 => r = none ∧ h2 = pT h b (zPl T (1, tCl T, tCl T))) noT := by
  refine CT_ofB (by decide +kernel) (Nat.le_of_ble_eq_true rfl) rfl fun K X => ?_
  have t1 := hT.put (zPl T (1, (tPl T).2))
  have t2 := hT.put (zPl T (1, tCl T, (tPl T).2.2))
  refine b_X9_begin_0 hg hd k00 X _ _ _ ⟨Or.inr rfl, _, hT.p0 1, _, t1.g10, _, t1.p1 _, ?_⟩
  rw [hT.pp]
  refine ⟨_, t2.g10, _, t2.p2 _, rfl, ?_⟩
  rw [hT.pp]
  rfl
theorem c_endF (hg : GOK g) (hd : 8 ≤ d) (hT : TA h b T) : CT g d yX9_end (wsC yX9_end cX9_end 2 none) [.ref b, .ref (b + 8)] h 0 0 (fun r h2 => r = none ∧ h2 = pT h b (zFr T ((tFr T).1, (tFr T).2.1, tCl T))) noT := by
  refine CT_ofB (by decide +kernel) (Nat.le_of_ble_eq_true rfl) rfl fun K X => ?_
  exact b_X9_end_0 hg hd k00 X _ _ _ ⟨_, hT.g10, _, hT.f2' _, rfl, rfl⟩
theorem c_endP (hg : GOK g) (hd : 8 ≤ d) (hT : TA h b T) : CT g d yX9_end (wsC yX9_end cX9_end 2 none) [.ref b, .ref (b + 9)] h 0 0 (fun r h2 => r = none ∧ h2 = pT h b (zPl T ((tPl T).1, (tPl T).2.1, tCl T))) noT := by
  refine CT_ofB (by decide +kernel) (Nat.le_of_ble_eq_true rfl) rfl fun K X => ?_
  exact b_X9_end_0 hg hd k00 X _ _ _ ⟨_, hT.g10, _, hT.p2 _, rfl, rfl⟩
theorem c_tie (hg : GOK g) (hd : 8 ≤ d) (hT : TA h b T) (e : (tK T).1 = nI m) (hm : m < 8) : CT g d yX1_tie (wsC yX1_tie cX1_tie 3 none) [.ref (b + 2), .int v, .int l] h 0 0 (fun r h2 => r = none ∧ h2 = pT h b (zK T (nI (m + 1), upd (tK T).2.1 m v, upd (tK T).2.2.1 m l, (tK T).2.2.2))) noT := by
  refine CT_ofB (by decide +kernel) (Nat.le_of_ble_eq_true rfl) rfl fun K X => ?_
  have t1 := hT.put (zK T ((tK T).1, upd (tK T).2.1 m v, (tK T).2.2))
  have t2 := hT.put (zK T ((tK T).1, upd (tK T).2.1 m v, upd (tK T).2.2.1 m l, (tK T).2.2.2))
  refine b_X1_tie_0 hg hd k00 X _ _ _ _ ⟨_, by rw [hT.k0, e], fun y => absurd (le_nI (x := 8) (by omega) (by omega) y) (by omega), fun _ => ⟨_, hT.k1, _, by rw [hT.k0, e], _, hT.z3a hm v, _, t1.k2, _, by rw [t1.k0]; exact congrArg some e, _, t1.z4a hm l, ?_⟩⟩
  rw [hT.pp]
  refine ⟨nI m, t2.k0.trans (congrArg some e), _, t2.zk _, rfl, ?_⟩
  rw [hT.pp, nI_s]
  rfl
theorem c_ruleClear (hg : GOK g) (hd : 8 ≤ d) (hT : TA h b T) : CT g d yX6_clear (wsC yX6_clear cX6_clear 1 none) [.ref (b + 8)] h 0 0 (fun r h2 => r = none ∧ h2 = pT h b (zFr T (0, 0, 0))) noT := by
  refine CT_ofB (by decide +kernel) (Nat.le_of_ble_eq_true rfl) rfl fun K X => ?_
  have t1 := hT.put (zFr T (0, (tFr T).2))
  have t2 := hT.put (zFr T (0, 0, (tFr T).2.2))
  refine b_X6_clear_0 hg hd k00 X _ _ ⟨Or.inl rfl, _, hT.f0 0, _, t1.f1' 0, ?_⟩
  rw [hT.pp]
  refine ⟨_, t2.f2' 0, rfl, ?_⟩
  rw [hT.pp]
  rfl
theorem c_ruleClearP (hg : GOK g) (hd : 8 ≤ d) (hT : TA h b T) : CT g d yX6_clear (wsC yX6_clear cX6_clear 1 none) [.ref (b + 9)] h 0 0 (fun r h2 => r = none ∧ h2 = pT h b (zPl T (0, 0, 0))) noT := by
  refine CT_ofB (by decide +kernel) (Nat.le_of_ble_eq_true rfl) rfl fun K X => ?_
  have t1 := hT.put (zPl T (0, (tPl T).2))
  have t2 := hT.put (zPl T (0, 0, (tPl T).2.2))
  refine b_X6_clear_0 hg hd k00 X _ _ ⟨Or.inl rfl, _, hT.p0 0, _, t1.p1 0, ?_⟩
  rw [hT.pp]
  refine ⟨_, t2.p2 0, rfl, ?_⟩
  rw [hT.pp]
  rfl
/-- the empty draft -/
def clT (T : ToldV) : ToldV := (0, 0, 7, 0, 0, tSk T, (0, (tK T).2), (0, 0, 0), (0, 0, 0), tCo T, 0, tWt T)
theorem c_toldClear (hg : GOK g) (hd : 9 ≤ d) (hT : TA h b T) : CT g d yX9_clear (wsC yX9_clear cX9_clear 1 none) [.ref b] h 0 0 (fun r h2 => r = none ∧ h2 = pT h b (clT T)) noT := by
  refine CT_ofB (by decide +kernel) (Nat.le_of_ble_eq_true rfl) rfl fun K X => ?_
  obtain ⟨T1, e1, p1⟩ : ∃ Z, Z = zN_ T 0 ∧ pF h b 9 0 (.int 0) = some (pT h b Z) := ⟨_, rfl, hT.z0 0⟩
  have t1 := hT.put T1
  obtain ⟨T2, e2, p2⟩ : ∃ Z, Z = zW T1 0 ∧ pF (pT h b T1) b 9 1 (.int 0) = some (pT (pT h b T1) b Z) := ⟨_, rfl, t1.z1 0⟩
  rw [hT.pp] at p2
  have t2 := hT.put T2
  obtain ⟨T3, e3, p3⟩ : ∃ Z, Z = zWk T2 7 ∧ pF (pT h b T2) b 9 2 (.int 7) = some (pT (pT h b T2) b Z) := ⟨_, rfl, t2.z2 7⟩
  rw [hT.pp] at p3
  have t3 := hT.put T3
  obtain ⟨T4, e4, p4⟩ : ∃ Z, Z = zWg T3 0 ∧ pF (pT h b T3) b 9 3 (.int 0) = some (pT (pT h b T3) b Z) := ⟨_, rfl, t3.z3 0⟩
  rw [hT.pp] at p4
  have t4 := hT.put T4
  obtain ⟨T5, e5, p5⟩ : ∃ Z, Z = zKg T4 0 ∧ pF (pT h b T4) b 9 4 (.int 0) = some (pT (pT h b T4) b Z) := ⟨_, rfl, t4.z4 0⟩
  rw [hT.pp] at p5
  have t5 := hT.put T5
  obtain ⟨T6, e6, p6⟩ : ∃ Z, Z = zK T5 (0, (tK T5).2) ∧ pF (pT h b T5) (b + 2) 1 0 (.int 0) = some (pT (pT h b T5) b Z) := ⟨_, rfl, t5.zk 0⟩
  rw [hT.pp] at p6
  have t6 := hT.put T6
  refine b_X9_clear_0 hg (by omega) k00 X _ _ ⟨_, p1, _, p2, _, p3, Or.inl rfl, _, p4, Or.inl rfl, _, p5, _, t5.g6, _, p6, _, t6.g7, _, t6.o8, use_v (c_ruleClear (d := d - 1) hg (by omega) t6) (by omega) k00 ?_⟩
  intro h7 e7
  rw [hT.pp] at e7
  obtain ⟨T7, f7⟩ : ∃ Z, Z = zFr T6 (0, 0, 0) := ⟨_, rfl⟩
  rw [← f7] at e7
  have t7 := hT.put T7
  rw [e7]
  refine ⟨_, t7.g8, _, t7.o9, use_v (c_ruleClearP (d := d - 1) hg (by omega) t7) (by omega) k00 ?_⟩
  intro h8 e8
  rw [hT.pp] at e8
  obtain ⟨T8, f8⟩ : ∃ Z, Z = zPl T7 (0, 0, 0) := ⟨_, rfl⟩
  rw [← f8] at e8
  have t8 := hT.put T8
  rw [e8]
  refine ⟨_, t8.z10 0, rfl, ?_⟩
  rw [hT.pp]
  have ef : zCl T8 0 = clT T := by
    rw [f8, f7, e6, e5, e4, e3, e2, e1]
    rfl
  rw [ef]
end TDR
