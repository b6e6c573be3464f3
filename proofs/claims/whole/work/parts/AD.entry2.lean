/-! THE LAW'S ENTRY: the words' constants (by program) -/
abbrev nwL : List Cond := flatC (Jvm.Cond.and given_1 narrow_1)
theorem va_eqU {args : Array Value} {s : State} {t u : Term} {b : Nat} (h : (Cond.eq t u).before args s = true) (hu : u.eval args s none [] s = some (.ref b)) : t.eval args s none [] s = some (.ref b) := by
  cases hv : t.eval args s none [] s with
  | none => simp [Cond.before, Cond.holds, Cond.value, hv] at h
  | some w =>
    simp only [Cond.before, Cond.holds, Cond.value, hv, hu] at h
    cases w <;> simp_all
section ENW
variable {args : Array Value} {s : State}
theorem outA : ∀ a : Nat, a < s.heap.size → ¬ (fun q : Nat => s.heap.size ≤ q) a := fun a h z => absurd (Nat.lt_of_lt_of_le h z) (Nat.lt_irrefl _)
theorem wd_of {w : String} {ix N : Nat} {cd : Int32} {f : Nat → Int32} (hN : N < 2 ^ 31) (h1 : (Cond.exactly (.static "HorizonSeam$Word" w "LHorizonSeam$Word;") "HorizonSeam$Word").before args s = true) (h2 : (Cond.eq (.field (.static "HorizonSeam$Word" w "LHorizonSeam$Word;") "HorizonSeam$Word" "spelling" "Ljava/lang/String;") (.string "HorizonSeam$Word" ix)).before args s = true)
    (h3 : (Cond.eq (.field (.static "HorizonSeam$Word" w "LHorizonSeam$Word;") "HorizonSeam$Word" "code" "I") (.int cd)).before args s = true) (h4 : (Cond.exactly (.string "HorizonSeam$Word" ix) "java/lang/String").before args s = true) (h5 : (Cond.eq (.field (.string "HorizonSeam$Word" ix) "java/lang/String" "coder" "B") (.int 0)).before args s = true)
    (h6 : (Cond.arrayOf (.field (.string "HorizonSeam$Word" ix) "java/lang/String" "value" "[B") .byte).before args s = true) (h7 : (Cond.eq (.length (.field (.string "HorizonSeam$Word" ix) "java/lang/String" "value" "[B")) (.int (Int32.ofNat N))).before args s = true)
    (h8 : ∀ j : Nat, j < N → (Cond.eq (.elem (.field (.string "HorizonSeam$Word" ix) "java/lang/String" "value" "[B") (.int (Int32.ofNat j))) (.int (f j))).before args s = true) (hl : (Cond.laysStatic "HorizonSeam$Word" w "LHorizonSeam$Word;").before args s = true) (hi : (Cond.initialized "HorizonSeam$Word").before args s = true) :
    ∃ a b t : Nat, (Term.static "HorizonSeam$Word" w "LHorizonSeam$Word;").eval args s none [] s = some (.ref a) ∧ va_Z "HorizonSeam$Word" w "LHorizonSeam$Word;" (.ref a) (fun q => s.heap.size ≤ q) s s.heap ∧ (va_O RX10 a (fun q => s.heap.size ≤ q) s s.heap ∧ va_OF "HorizonSeam$Word" "spelling" "Ljava/lang/String;" (.ref b) a (fun q => s.heap.size ≤ q) s s.heap ∧ va_OF "HorizonSeam$Word" "code" "I" (.int cd) a (fun q => s.heap.size ≤ q) s s.heap) ∧ (va_O strC b (fun q => s.heap.size ≤ q) s s.heap ∧ va_OF strC "coder" "B" (.int 0) b (fun q => s.heap.size ≤ q) s s.heap ∧ va_OF strC "value" "[B" (.ref t) b (fun q => s.heap.size ≤ q) s s.heap ∧ va_T .byte t N (fun j => .int (f j)) (fun q => s.heap.size ≤ q) s s.heap) := by
  obtain ⟨a, -, -, -, qa, -⟩ := Cond.exactly_spec (args := args) (first := s) (o := none) (s := s) (idx := []) (t := .static "HorizonSeam$Word" w "LHorizonSeam$Word;") (cls := "HorizonSeam$Word") h1
  obtain ⟨b, -, -, -, qb, -⟩ := Cond.exactly_spec (args := args) (first := s) (o := none) (s := s) (idx := []) (t := .string "HorizonSeam$Word" ix) (cls := "java/lang/String") h4
  obtain ⟨t, ht, hT⟩ := va_Tof (f := fun j => .int (f j)) (A := fun q => s.heap.size ≤ q) hN h6 (va_eqt h7) (fun j hj => va_eqt (h8 j hj)) outA
  exact ⟨a, b, t, qa, va_Zof hl hi qa outA, ⟨va_Oof h1 qa outA, vk_OFof qa (va_eqU h2 qb) outA, vk_OFof qa (va_eqt h3) outA⟩, va_Oof h4 qb outA, vk_OFof qb (va_eqt h5) outA, vk_OFof qb ht outA, hT⟩
def WdA (args : Array Value) (s : State) (k a b t : Nat) : Prop := (Term.static "HorizonSeam$Word" (wnm k) "LHorizonSeam$Word;").eval args s none [] s = some (.ref a) ∧ va_Z "HorizonSeam$Word" (wnm k) "LHorizonSeam$Word;" (.ref a) (fun q => s.heap.size ≤ q) s s.heap ∧ (va_O RX10 a (fun q => s.heap.size ≤ q) s s.heap ∧ va_OF "HorizonSeam$Word" "spelling" "Ljava/lang/String;" (.ref b) a (fun q => s.heap.size ≤ q) s s.heap ∧ va_OF "HorizonSeam$Word" "code" "I" (.int (wcd k)) a (fun q => s.heap.size ≤ q) s s.heap) ∧ (va_O strC b (fun q => s.heap.size ≤ q) s s.heap ∧ va_OF strC "coder" "B" (.int 0) b (fun q => s.heap.size ≤ q) s s.heap ∧ va_OF strC "value" "[B" (.ref t) b (fun q => s.heap.size ≤ q) s s.heap ∧ va_T .byte t (wln k) (fun j => .int (wby k j)) (fun q => s.heap.size ≤ q) s s.heap)
theorem inN {w : Cond} (i : Nat) (h : nwL[i]? = some w) : w ∈ nwL := List.mem_of_getElem? h
theorem inLT {w : Cond} (h : w ∈ tables_1) : w ∈ lw_tbl := List.mem_append_right _ h
set_option maxRecDepth 20000 in
theorem wd_0 (hs : ∀ w ∈ nwL, w.before args s = true) (ht : ∀ w ∈ lw_tbl, w.before args s = true) : ∃ a b t, WdA args s 0 a b t := by
  refine wd_of (N := 7) (ix := 99) (cd := wcd 0) (f := wby 0) (by decide) (hs _ (inN 6 (by decide +kernel))) (hs _ (inN 8 (by decide +kernel))) (hs _ (inN 9 (by decide +kernel))) (hs _ (inN 640 (by decide +kernel))) (hs _ (inN 641 (by decide +kernel))) (hs _ (inN 642 (by decide +kernel))) (hs _ (inN 643 (by decide +kernel))) (fun j hj => ?_) (ht _ (inLT (List.mem_of_getElem? (i := 717) (by decide +kernel)))) (ht _ (inLT (List.mem_of_getElem? (i := 19) (by decide +kernel))))
  match j, hj with
  | 0, _ => exact (hs _ (inN 644 (by decide +kernel)))
  | 1, _ => exact (hs _ (inN 645 (by decide +kernel)))
  | 2, _ => exact (hs _ (inN 646 (by decide +kernel)))
  | 3, _ => exact (hs _ (inN 647 (by decide +kernel)))
  | 4, _ => exact (hs _ (inN 648 (by decide +kernel)))
  | 5, _ => exact (hs _ (inN 649 (by decide +kernel)))
  | 6, _ => exact (hs _ (inN 650 (by decide +kernel)))
  | j + 7, hj => exact absurd hj (by omega)
set_option maxRecDepth 20000 in
theorem wd_1 (hs : ∀ w ∈ nwL, w.before args s = true) (ht : ∀ w ∈ lw_tbl, w.before args s = true) : ∃ a b t, WdA args s 1 a b t := by
  refine wd_of (N := 5) (ix := 105) (cd := wcd 1) (f := wby 1) (by decide) (hs _ (inN 15 (by decide +kernel))) (hs _ (inN 17 (by decide +kernel))) (hs _ (inN 18 (by decide +kernel))) (hs _ (inN 651 (by decide +kernel))) (hs _ (inN 652 (by decide +kernel))) (hs _ (inN 653 (by decide +kernel))) (hs _ (inN 654 (by decide +kernel))) (fun j hj => ?_) (ht _ (inLT (List.mem_of_getElem? (i := 796) (by decide +kernel)))) (ht _ (inLT (List.mem_of_getElem? (i := 19) (by decide +kernel))))
  match j, hj with
  | 0, _ => exact (hs _ (inN 655 (by decide +kernel)))
  | 1, _ => exact (hs _ (inN 656 (by decide +kernel)))
  | 2, _ => exact (hs _ (inN 657 (by decide +kernel)))
  | 3, _ => exact (hs _ (inN 658 (by decide +kernel)))
  | 4, _ => exact (hs _ (inN 659 (by decide +kernel)))
  | j + 5, hj => exact absurd hj (by omega)
set_option maxRecDepth 20000 in
theorem wd_2 (hs : ∀ w ∈ nwL, w.before args s = true) (ht : ∀ w ∈ lw_tbl, w.before args s = true) : ∃ a b t, WdA args s 2 a b t := by
  refine wd_of (N := 5) (ix := 108) (cd := wcd 2) (f := wby 2) (by decide) (hs _ (inN 20 (by decide +kernel))) (hs _ (inN 22 (by decide +kernel))) (hs _ (inN 23 (by decide +kernel))) (hs _ (inN 660 (by decide +kernel))) (hs _ (inN 661 (by decide +kernel))) (hs _ (inN 662 (by decide +kernel))) (hs _ (inN 663 (by decide +kernel))) (fun j hj => ?_) (ht _ (inLT (List.mem_of_getElem? (i := 810) (by decide +kernel)))) (ht _ (inLT (List.mem_of_getElem? (i := 19) (by decide +kernel))))
  match j, hj with
  | 0, _ => exact (hs _ (inN 664 (by decide +kernel)))
  | 1, _ => exact (hs _ (inN 665 (by decide +kernel)))
  | 2, _ => exact (hs _ (inN 666 (by decide +kernel)))
  | 3, _ => exact (hs _ (inN 667 (by decide +kernel)))
  | 4, _ => exact (hs _ (inN 668 (by decide +kernel)))
  | j + 5, hj => exact absurd hj (by omega)
set_option maxRecDepth 20000 in
theorem wd_3 (hs : ∀ w ∈ nwL, w.before args s = true) (ht : ∀ w ∈ lw_tbl, w.before args s = true) : ∃ a b t, WdA args s 3 a b t := by
  refine wd_of (N := 4) (ix := 111) (cd := wcd 3) (f := wby 3) (by decide) (hs _ (inN 26 (by decide +kernel))) (hs _ (inN 28 (by decide +kernel))) (hs _ (inN 29 (by decide +kernel))) (hs _ (inN 669 (by decide +kernel))) (hs _ (inN 670 (by decide +kernel))) (hs _ (inN 671 (by decide +kernel))) (hs _ (inN 672 (by decide +kernel))) (fun j hj => ?_) (ht _ (inLT (List.mem_of_getElem? (i := 824) (by decide +kernel)))) (ht _ (inLT (List.mem_of_getElem? (i := 19) (by decide +kernel))))
  match j, hj with
  | 0, _ => exact (hs _ (inN 673 (by decide +kernel)))
  | 1, _ => exact (hs _ (inN 674 (by decide +kernel)))
  | 2, _ => exact (hs _ (inN 675 (by decide +kernel)))
  | 3, _ => exact (hs _ (inN 676 (by decide +kernel)))
  | j + 4, hj => exact absurd hj (by omega)
set_option maxRecDepth 20000 in
theorem wd_4 (hs : ∀ w ∈ nwL, w.before args s = true) (ht : ∀ w ∈ lw_tbl, w.before args s = true) : ∃ a b t, WdA args s 4 a b t := by
  refine wd_of (N := 5) (ix := 114) (cd := wcd 4) (f := wby 4) (by decide) (hs _ (inN 33 (by decide +kernel))) (hs _ (inN 35 (by decide +kernel))) (hs _ (inN 36 (by decide +kernel))) (hs _ (inN 677 (by decide +kernel))) (hs _ (inN 678 (by decide +kernel))) (hs _ (inN 679 (by decide +kernel))) (hs _ (inN 680 (by decide +kernel))) (fun j hj => ?_) (ht _ (inLT (List.mem_of_getElem? (i := 830) (by decide +kernel)))) (ht _ (inLT (List.mem_of_getElem? (i := 19) (by decide +kernel))))
  match j, hj with
  | 0, _ => exact (hs _ (inN 681 (by decide +kernel)))
  | 1, _ => exact (hs _ (inN 682 (by decide +kernel)))
  | 2, _ => exact (hs _ (inN 683 (by decide +kernel)))
  | 3, _ => exact (hs _ (inN 684 (by decide +kernel)))
  | 4, _ => exact (hs _ (inN 685 (by decide +kernel)))
  | j + 5, hj => exact absurd hj (by omega)
set_option maxRecDepth 20000 in
theorem wd_5 (hs : ∀ w ∈ nwL, w.before args s = true) (ht : ∀ w ∈ lw_tbl, w.before args s = true) : ∃ a b t, WdA args s 5 a b t := by
  refine wd_of (N := 5) (ix := 117) (cd := wcd 5) (f := wby 5) (by decide) (hs _ (inN 104 (by decide +kernel))) (hs _ (inN 106 (by decide +kernel))) (hs _ (inN 107 (by decide +kernel))) (hs _ (inN 710 (by decide +kernel))) (hs _ (inN 711 (by decide +kernel))) (hs _ (inN 712 (by decide +kernel))) (hs _ (inN 713 (by decide +kernel))) (fun j hj => ?_) (ht _ (inLT (List.mem_of_getElem? (i := 882) (by decide +kernel)))) (ht _ (inLT (List.mem_of_getElem? (i := 19) (by decide +kernel))))
  match j, hj with
  | 0, _ => exact (hs _ (inN 714 (by decide +kernel)))
  | 1, _ => exact (hs _ (inN 715 (by decide +kernel)))
  | 2, _ => exact (hs _ (inN 716 (by decide +kernel)))
  | 3, _ => exact (hs _ (inN 717 (by decide +kernel)))
  | 4, _ => exact (hs _ (inN 718 (by decide +kernel)))
  | j + 5, hj => exact absurd hj (by omega)
set_option maxRecDepth 20000 in
theorem wd_6 (hs : ∀ w ∈ nwL, w.before args s = true) (ht : ∀ w ∈ lw_tbl, w.before args s = true) : ∃ a b t, WdA args s 6 a b t := by
  refine wd_of (N := 2) (ix := 120) (cd := wcd 6) (f := wby 6) (by decide) (hs _ (inN 81 (by decide +kernel))) (hs _ (inN 83 (by decide +kernel))) (hs _ (inN 84 (by decide +kernel))) (hs _ (inN 697 (by decide +kernel))) (hs _ (inN 698 (by decide +kernel))) (hs _ (inN 699 (by decide +kernel))) (hs _ (inN 700 (by decide +kernel))) (fun j hj => ?_) (ht _ (inLT (List.mem_of_getElem? (i := 874) (by decide +kernel)))) (ht _ (inLT (List.mem_of_getElem? (i := 19) (by decide +kernel))))
  match j, hj with
  | 0, _ => exact (hs _ (inN 701 (by decide +kernel)))
  | 1, _ => exact (hs _ (inN 702 (by decide +kernel)))
  | j + 2, hj => exact absurd hj (by omega)
set_option maxRecDepth 20000 in
theorem wd_7 (hs : ∀ w ∈ nwL, w.before args s = true) (ht : ∀ w ∈ lw_tbl, w.before args s = true) : ∃ a b t, WdA args s 7 a b t := by
  refine wd_of (N := 3) (ix := 123) (cd := wcd 7) (f := wby 7) (by decide) (hs _ (inN 92 (by decide +kernel))) (hs _ (inN 94 (by decide +kernel))) (hs _ (inN 95 (by decide +kernel))) (hs _ (inN 703 (by decide +kernel))) (hs _ (inN 704 (by decide +kernel))) (hs _ (inN 705 (by decide +kernel))) (hs _ (inN 706 (by decide +kernel))) (fun j hj => ?_) (ht _ (inLT (List.mem_of_getElem? (i := 876) (by decide +kernel)))) (ht _ (inLT (List.mem_of_getElem? (i := 19) (by decide +kernel))))
  match j, hj with
  | 0, _ => exact (hs _ (inN 707 (by decide +kernel)))
  | 1, _ => exact (hs _ (inN 708 (by decide +kernel)))
  | 2, _ => exact (hs _ (inN 709 (by decide +kernel)))
  | j + 3, hj => exact absurd hj (by omega)
set_option maxRecDepth 20000 in
theorem wd_8 (hs : ∀ w ∈ nwL, w.before args s = true) (ht : ∀ w ∈ lw_tbl, w.before args s = true) : ∃ a b t, WdA args s 8 a b t := by
  refine wd_of (N := 3) (ix := 126) (cd := wcd 8) (f := wby 8) (by decide) (hs _ (inN 71 (by decide +kernel))) (hs _ (inN 73 (by decide +kernel))) (hs _ (inN 74 (by decide +kernel))) (hs _ (inN 690 (by decide +kernel))) (hs _ (inN 691 (by decide +kernel))) (hs _ (inN 692 (by decide +kernel))) (hs _ (inN 693 (by decide +kernel))) (fun j hj => ?_) (ht _ (inLT (List.mem_of_getElem? (i := 868) (by decide +kernel)))) (ht _ (inLT (List.mem_of_getElem? (i := 19) (by decide +kernel))))
  match j, hj with
  | 0, _ => exact (hs _ (inN 694 (by decide +kernel)))
  | 1, _ => exact (hs _ (inN 695 (by decide +kernel)))
  | 2, _ => exact (hs _ (inN 696 (by decide +kernel)))
  | j + 3, hj => exact absurd hj (by omega)
set_option maxRecDepth 20000 in
theorem wd_9 (hs : ∀ w ∈ nwL, w.before args s = true) (ht : ∀ w ∈ lw_tbl, w.before args s = true) : ∃ a b t, WdA args s 9 a b t := by
  refine wd_of (N := 6) (ix := 129) (cd := wcd 9) (f := wby 9) (by decide) (hs _ (inN 117 (by decide +kernel))) (hs _ (inN 119 (by decide +kernel))) (hs _ (inN 120 (by decide +kernel))) (hs _ (inN 719 (by decide +kernel))) (hs _ (inN 720 (by decide +kernel))) (hs _ (inN 721 (by decide +kernel))) (hs _ (inN 722 (by decide +kernel))) (fun j hj => ?_) (ht _ (inLT (List.mem_of_getElem? (i := 2039) (by decide +kernel)))) (ht _ (inLT (List.mem_of_getElem? (i := 19) (by decide +kernel))))
  match j, hj with
  | 0, _ => exact (hs _ (inN 723 (by decide +kernel)))
  | 1, _ => exact (hs _ (inN 724 (by decide +kernel)))
  | 2, _ => exact (hs _ (inN 725 (by decide +kernel)))
  | 3, _ => exact (hs _ (inN 726 (by decide +kernel)))
  | 4, _ => exact (hs _ (inN 727 (by decide +kernel)))
  | 5, _ => exact (hs _ (inN 728 (by decide +kernel)))
  | j + 6, hj => exact absurd hj (by omega)
set_option maxRecDepth 20000 in
theorem wd_10 (hs : ∀ w ∈ nwL, w.before args s = true) (ht : ∀ w ∈ lw_tbl, w.before args s = true) : ∃ a b t, WdA args s 10 a b t := by
  refine wd_of (N := 4) (ix := 132) (cd := wcd 10) (f := wby 10) (by decide) (hs _ (inN 131 (by decide +kernel))) (hs _ (inN 133 (by decide +kernel))) (hs _ (inN 134 (by decide +kernel))) (hs _ (inN 729 (by decide +kernel))) (hs _ (inN 730 (by decide +kernel))) (hs _ (inN 731 (by decide +kernel))) (hs _ (inN 732 (by decide +kernel))) (fun j hj => ?_) (ht _ (inLT (List.mem_of_getElem? (i := 2040) (by decide +kernel)))) (ht _ (inLT (List.mem_of_getElem? (i := 19) (by decide +kernel))))
  match j, hj with
  | 0, _ => exact (hs _ (inN 733 (by decide +kernel)))
  | 1, _ => exact (hs _ (inN 734 (by decide +kernel)))
  | 2, _ => exact (hs _ (inN 735 (by decide +kernel)))
  | 3, _ => exact (hs _ (inN 736 (by decide +kernel)))
  | j + 4, hj => exact absurd hj (by omega)
set_option maxRecDepth 20000 in
theorem wd_11 (hs : ∀ w ∈ nwL, w.before args s = true) (ht : ∀ w ∈ lw_tbl, w.before args s = true) : ∃ a b t, WdA args s 11 a b t := by
  refine wd_of (N := 6) (ix := 135) (cd := wcd 11) (f := wby 11) (by decide) (hs _ (inN 146 (by decide +kernel))) (hs _ (inN 148 (by decide +kernel))) (hs _ (inN 149 (by decide +kernel))) (hs _ (inN 737 (by decide +kernel))) (hs _ (inN 738 (by decide +kernel))) (hs _ (inN 739 (by decide +kernel))) (hs _ (inN 740 (by decide +kernel))) (fun j hj => ?_) (ht _ (inLT (List.mem_of_getElem? (i := 2041) (by decide +kernel)))) (ht _ (inLT (List.mem_of_getElem? (i := 19) (by decide +kernel))))
  match j, hj with
  | 0, _ => exact (hs _ (inN 741 (by decide +kernel)))
  | 1, _ => exact (hs _ (inN 742 (by decide +kernel)))
  | 2, _ => exact (hs _ (inN 743 (by decide +kernel)))
  | 3, _ => exact (hs _ (inN 744 (by decide +kernel)))
  | 4, _ => exact (hs _ (inN 745 (by decide +kernel)))
  | 5, _ => exact (hs _ (inN 746 (by decide +kernel)))
  | j + 6, hj => exact absurd hj (by omega)
set_option maxRecDepth 20000 in
theorem wd_12 (hs : ∀ w ∈ nwL, w.before args s = true) (ht : ∀ w ∈ lw_tbl, w.before args s = true) : ∃ a b t, WdA args s 12 a b t := by
  refine wd_of (N := 6) (ix := 138) (cd := wcd 12) (f := wby 12) (by decide) (hs _ (inN 162 (by decide +kernel))) (hs _ (inN 164 (by decide +kernel))) (hs _ (inN 165 (by decide +kernel))) (hs _ (inN 747 (by decide +kernel))) (hs _ (inN 748 (by decide +kernel))) (hs _ (inN 749 (by decide +kernel))) (hs _ (inN 750 (by decide +kernel))) (fun j hj => ?_) (ht _ (inLT (List.mem_of_getElem? (i := 2042) (by decide +kernel)))) (ht _ (inLT (List.mem_of_getElem? (i := 19) (by decide +kernel))))
  match j, hj with
  | 0, _ => exact (hs _ (inN 751 (by decide +kernel)))
  | 1, _ => exact (hs _ (inN 752 (by decide +kernel)))
  | 2, _ => exact (hs _ (inN 753 (by decide +kernel)))
  | 3, _ => exact (hs _ (inN 754 (by decide +kernel)))
  | 4, _ => exact (hs _ (inN 755 (by decide +kernel)))
  | 5, _ => exact (hs _ (inN 756 (by decide +kernel)))
  | j + 6, hj => exact absurd hj (by omega)
set_option maxRecDepth 20000 in
theorem wd_13 (hs : ∀ w ∈ nwL, w.before args s = true) (ht : ∀ w ∈ lw_tbl, w.before args s = true) : ∃ a b t, WdA args s 13 a b t := by
  refine wd_of (N := 5) (ix := 141) (cd := wcd 13) (f := wby 13) (by decide) (hs _ (inN 179 (by decide +kernel))) (hs _ (inN 181 (by decide +kernel))) (hs _ (inN 182 (by decide +kernel))) (hs _ (inN 757 (by decide +kernel))) (hs _ (inN 758 (by decide +kernel))) (hs _ (inN 759 (by decide +kernel))) (hs _ (inN 760 (by decide +kernel))) (fun j hj => ?_) (ht _ (inLT (List.mem_of_getElem? (i := 2043) (by decide +kernel)))) (ht _ (inLT (List.mem_of_getElem? (i := 19) (by decide +kernel))))
  match j, hj with
  | 0, _ => exact (hs _ (inN 761 (by decide +kernel)))
  | 1, _ => exact (hs _ (inN 762 (by decide +kernel)))
  | 2, _ => exact (hs _ (inN 763 (by decide +kernel)))
  | 3, _ => exact (hs _ (inN 764 (by decide +kernel)))
  | 4, _ => exact (hs _ (inN 765 (by decide +kernel)))
  | j + 5, hj => exact absurd hj (by omega)
set_option maxRecDepth 20000 in
theorem wd_14 (hs : ∀ w ∈ nwL, w.before args s = true) (ht : ∀ w ∈ lw_tbl, w.before args s = true) : ∃ a b t, WdA args s 14 a b t := by
  refine wd_of (N := 3) (ix := 144) (cd := wcd 14) (f := wby 14) (by decide) (hs _ (inN 197 (by decide +kernel))) (hs _ (inN 199 (by decide +kernel))) (hs _ (inN 200 (by decide +kernel))) (hs _ (inN 766 (by decide +kernel))) (hs _ (inN 767 (by decide +kernel))) (hs _ (inN 768 (by decide +kernel))) (hs _ (inN 769 (by decide +kernel))) (fun j hj => ?_) (ht _ (inLT (List.mem_of_getElem? (i := 2044) (by decide +kernel)))) (ht _ (inLT (List.mem_of_getElem? (i := 19) (by decide +kernel))))
  match j, hj with
  | 0, _ => exact (hs _ (inN 770 (by decide +kernel)))
  | 1, _ => exact (hs _ (inN 771 (by decide +kernel)))
  | 2, _ => exact (hs _ (inN 772 (by decide +kernel)))
  | j + 3, hj => exact absurd hj (by omega)
set_option maxRecDepth 20000 in
theorem wd_15 (hs : ∀ w ∈ nwL, w.before args s = true) (ht : ∀ w ∈ lw_tbl, w.before args s = true) : ∃ a b t, WdA args s 15 a b t := by
  refine wd_of (N := 0) (ix := 147) (cd := wcd 15) (f := wby 15) (by decide) (hs _ (inN 62 (by decide +kernel))) (hs _ (inN 64 (by decide +kernel))) (hs _ (inN 65 (by decide +kernel))) (hs _ (inN 686 (by decide +kernel))) (hs _ (inN 687 (by decide +kernel))) (hs _ (inN 688 (by decide +kernel))) (hs _ (inN 689 (by decide +kernel))) (fun j hj => ?_) (ht _ (inLT (List.mem_of_getElem? (i := 858) (by decide +kernel)))) (ht _ (inLT (List.mem_of_getElem? (i := 19) (by decide +kernel))))
  match j, hj with
  | j + 0, hj => exact absurd hj (by omega)
end ENW
