/-! THE LAW'S ENTRY: the array of the words, statics, casts (by program) -/
section EN4
variable {args : Array Value} {s : State}
theorem all_of (hs : ∀ w ∈ nwL, w.before args s = true) (ht : ∀ w ∈ lw_tbl, w.before args s = true) {a : Nat → Nat} (ha : ∀ k, k < 16 → (Term.static "HorizonSeam$Word" (wnm k) "LHorizonSeam$Word;").eval args s none [] s = some (.ref (a k))) :
    ∃ t : Nat, va_Z "HorizonSeam$Word" "ALL" "[LHorizonSeam$Word;" (.ref t) (fun q => s.heap.size ≤ q) s s.heap ∧ va_T (.object "HorizonSeam$Word") t 16 (fun j => .ref (a j)) (fun q => s.heap.size ≤ q) s s.heap := by
  obtain ⟨t, e, hT⟩ := va_Tof (N := 16) (f := fun j => .ref (a j)) (A := fun q => s.heap.size ≤ q) (tm := (.static "HorizonSeam$Word" "ALL" "[LHorizonSeam$Word;")) (ty := .object "HorizonSeam$Word") (args := args) (s := s) (by decide) (hs _ (inN 43 (by decide +kernel))) (va_eqt (hs _ (inN 44 (by decide +kernel)))) (fun j hj => by
    match j, hj with
    | 0, _ => exact va_eqU (hs _ (inN 46 (by decide +kernel))) (ha 0 (by decide))
    | 1, _ => exact va_eqU (hs _ (inN 47 (by decide +kernel))) (ha 1 (by decide))
    | 2, _ => exact va_eqU (hs _ (inN 48 (by decide +kernel))) (ha 2 (by decide))
    | 3, _ => exact va_eqU (hs _ (inN 49 (by decide +kernel))) (ha 3 (by decide))
    | 4, _ => exact va_eqU (hs _ (inN 50 (by decide +kernel))) (ha 4 (by decide))
    | 5, _ => exact va_eqU (hs _ (inN 51 (by decide +kernel))) (ha 5 (by decide))
    | 6, _ => exact va_eqU (hs _ (inN 52 (by decide +kernel))) (ha 6 (by decide))
    | 7, _ => exact va_eqU (hs _ (inN 53 (by decide +kernel))) (ha 7 (by decide))
    | 8, _ => exact va_eqU (hs _ (inN 54 (by decide +kernel))) (ha 8 (by decide))
    | 9, _ => exact va_eqU (hs _ (inN 55 (by decide +kernel))) (ha 9 (by decide))
    | 10, _ => exact va_eqU (hs _ (inN 56 (by decide +kernel))) (ha 10 (by decide))
    | 11, _ => exact va_eqU (hs _ (inN 57 (by decide +kernel))) (ha 11 (by decide))
    | 12, _ => exact va_eqU (hs _ (inN 58 (by decide +kernel))) (ha 12 (by decide))
    | 13, _ => exact va_eqU (hs _ (inN 59 (by decide +kernel))) (ha 13 (by decide))
    | 14, _ => exact va_eqU (hs _ (inN 60 (by decide +kernel))) (ha 14 (by decide))
    | 15, _ => exact va_eqU (hs _ (inN 61 (by decide +kernel))) (ha 15 (by decide))
    | j + 16, hj => exact absurd hj (by omega)) outA
  exact ⟨t, va_Zof (ht _ (mem_tb 855 (by decide +kernel))) (ht _ (mem_tb 19 (by decide +kernel))) e outA, hT⟩
theorem cs_of (hs : ∀ w ∈ nwL, w.before args s = true) (ht : ∀ w ∈ lw_tbl, w.before args s = true) : va_Z strC "COMPACT_STRINGS" "Z" (.int 1) (fun q => s.heap.size ≤ q) s s.heap :=
  va_Zof (ht _ (mem_tb 735 (by decide +kernel))) (ht _ (mem_tb 20 (by decide +kernel))) (va_eqt (hs _ (inN 10 (by decide +kernel)))) outA
theorem us_of (hs : ∀ w ∈ nwL, w.before args s = true) (ht : ∀ w ∈ lw_tbl, w.before args s = true) : vx_Zq Bundle.tN "UNASSIGNED_STACK" Bundle.steD (fun q => s.heap.size ≤ q) s s.heap :=
  vx_Zqof (ht _ (mem_tb 606 (by decide +kernel))) (ht _ (mem_tb 13 (by decide +kernel))) (hs _ (inN 4 (by decide +kernel))) outA
theorem ss_of (hs : ∀ w ∈ nwL, w.before args s = true) (ht : ∀ w ∈ lw_tbl, w.before args s = true) : vx_Zq Bundle.tN "SUPPRESSED_SENTINEL" Bundle.listD (fun q => s.heap.size ≤ q) s s.heap :=
  vx_Zqof (ht _ (mem_tb 608 (by decide +kernel))) (ht _ (mem_tb 13 (by decide +kernel))) (hs _ (inN 5 (by decide +kernel))) outA
theorem ca_of (hs : ∀ w ∈ nwL, w.before args s = true) (ht : ∀ w ∈ lw_tbl, w.before args s = true) : va_Nc "java/lang/IllegalArgumentException" "java/util/NoSuchElementException" s ∧ va_Ca "java/lang/IllegalArgumentException" "java/lang/IllegalArgumentException" s ∧ va_Ca "java/util/NoSuchElementException" "java/util/NoSuchElementException" s :=
  ⟨va_Nc.of (hs _ (inN 241 (by decide +kernel))), va_Ca.of (ht _ (mem_tb 581 (by decide +kernel))), va_Ca.of (ht _ (mem_tb 909 (by decide +kernel)))⟩
theorem si_of (hs : ∀ w ∈ nwL, w.before args s = true) (ht : ∀ w ∈ lw_tbl, w.before args s = true) : ∃ v : Value, v.isRef = true ∧ va_Z "jdk/internal/util/Preconditions" "SIOOBE_FORMATTER" "Ljava/util/function/BiFunction;" v (fun q => s.heap.size ≤ q) s s.heap := by
  have h : (Cond.isRef (.static "jdk/internal/util/Preconditions" "SIOOBE_FORMATTER" "Ljava/util/function/BiFunction;")).before args s = true := (hs _ (inN 11 (by decide +kernel)))
  cases hv : (Term.static "jdk/internal/util/Preconditions" "SIOOBE_FORMATTER" "Ljava/util/function/BiFunction;").eval args s none [] s with
  | none => simp [Cond.before, Cond.holds, Cond.value, hv] at h
  | some v =>
    refine ⟨v, ?_, va_Zof (ht _ (mem_tb 751 (by decide +kernel))) (ht _ (mem_tb 22 (by decide +kernel))) hv outA⟩
    simp only [Cond.before, Cond.holds, Cond.value, hv] at h
    cases v <;> first | rfl | simp at h
end EN4
