/-! THE LAW'S ENTRY: throws, nest mates -/
section EN3
variable {args : Array Value} {s U : State}
theorem mem_tb {w : Cond} (i : Nat) (h : tables_1[i]? = some w) : w ∈ lw_tbl := inLT (List.mem_of_getElem? h)
theorem warm_w {w : Cond} (hW : s.WarmedH U.vm) (h : goodWord w = true ∨ (∃ C T, w = .castable C T) ∨ ∃ x, w = .declares x) (hb : w.before args s = true) (A : Array Value) : w.before A U = true := by
  rcases h with h | ⟨C, T, rfl⟩ | ⟨x, rfl⟩
  · exact word_at hW (good_of_word h) hb
  · exact va_Nw.use rfl (va_Nw.warmC hW (va_Nw.of rfl hb))
  · exact va_Nw.use rfl (va_Nw.warmD hW (va_Nw.of rfl hb))
def gcB (w : Cond) : Bool := goodWord w || (match w with | .castable _ _ => true | .declares _ => true | _ => false)
theorem gcB_of {w : Cond} (h : gcB w = true) : goodWord w = true ∨ (∃ C T, w = .castable C T) ∨ ∃ x, w = .declares x := by
  unfold gcB at h
  rcases (Bool.or_eq_true _ _).mp h with h | h
  · exact Or.inl h
  · right
    split at h
    · exact Or.inl ⟨_, _, rfl⟩
    · exact Or.inr ⟨_, rfl⟩
    · cases h
abbrev thI : List Cond := Cond.classLink RX11 95 "java/lang/IllegalArgumentException" :: Cond.initialized "java/lang/IllegalArgumentException" :: tw_at RX11 99 "java/lang/IllegalArgumentException" ["java/lang/RuntimeException", "java/lang/Exception"] 7 Bundle.six
abbrev thN : List Cond := Cond.classLink RX11 174 "java/util/NoSuchElementException" :: Cond.initialized "java/util/NoSuchElementException" :: tw_at RX11 178 "java/util/NoSuchElementException" ["java/lang/RuntimeException", "java/lang/Exception"] 13 prog_32_method_4_code
theorem thI_ok : thI.all (fun w => gcB w && vx_ot w) = true := by decide +kernel
theorem thN_ok : thN.all (fun w => gcB w && vx_ot w) = true := by decide +kernel
theorem thI_in : thI.all (fun w => decide (w ∈ lw_tbl)) = true := by decide +kernel
theorem thN_in : thN.all (fun w => decide (w ∈ lw_tbl)) = true := by decide +kernel
theorem th_use {L : List Cond} (h1 : L.all (fun w => gcB w && vx_ot w) = true) (h2 : L.all (fun w => decide (w ∈ lw_tbl)) = true) (ht : ∀ w ∈ lw_tbl, w.before args s = true) (hW : s.WarmedH U.vm) : (∀ w ∈ L, ∀ A : Array Value, w.before A U = true) ∧ ∀ w ∈ L, vx_ot w = true := by
  refine ⟨fun w hw A => ?_, fun w hw => ?_⟩
  · have a := List.all_eq_true.mp h1 w hw
    have b := List.all_eq_true.mp h2 w hw
    simp only [Bool.and_eq_true, decide_eq_true_eq] at a b
    exact warm_w hW (gcB_of a.1) (ht w b) A
  · have a := List.all_eq_true.mp h1 w hw
    simp only [Bool.and_eq_true] at a
    exact a.2
theorem thr_I {is : Nat} {text : String} (ht : ∀ w ∈ lw_tbl, w.before args s = true) (hW : s.WarmedH U.vm) (h1 : (Cond.stringRef "HorizonSeam" is text).before args s = true) (h2 : (Cond.exactly (.string "HorizonSeam" is) "java/lang/String").before args s = true) : THr RX11 95 is 99 "java/lang/IllegalArgumentException" text ["java/lang/RuntimeException", "java/lang/Exception"] U := by
  obtain ⟨u1, u2⟩ := th_use thI_ok thI_in ht hW
  obtain ⟨a, -, -, -, qa, -⟩ := Cond.exactly_spec (args := args) (first := s) (o := none) (s := s) (idx := []) (t := .string "HorizonSeam" is) (cls := "java/lang/String") h2
  exact ⟨by decide, by decide, 7, Bundle.six, ⟨Bundle.six_0, Bundle.six_1, Bundle.six_2, Bundle.six_5⟩, fun A => ⟨u1 _ List.mem_cons_self A, u1 _ (List.mem_cons_of_mem _ List.mem_cons_self) A, fun w hw => u1 w (List.mem_cons_of_mem _ (List.mem_cons_of_mem _ hw)) A⟩, u2, a, vk_R.warm hW (vk_R.of h1 qa)⟩
theorem thr_N {is : Nat} {text : String} (ht : ∀ w ∈ lw_tbl, w.before args s = true) (hW : s.WarmedH U.vm) (h1 : (Cond.stringRef "HorizonSeam" is text).before args s = true) (h2 : (Cond.exactly (.string "HorizonSeam" is) "java/lang/String").before args s = true) : THr RX11 174 is 178 "java/util/NoSuchElementException" text ["java/lang/RuntimeException", "java/lang/Exception"] U := by
  obtain ⟨u1, u2⟩ := th_use thN_ok thN_in ht hW
  obtain ⟨a, -, -, -, qa, -⟩ := Cond.exactly_spec (args := args) (first := s) (o := none) (s := s) (idx := []) (t := .string "HorizonSeam" is) (cls := "java/lang/String") h2
  exact ⟨by decide, by decide, 13, prog_32_method_4_code, ⟨by decide +kernel, by decide +kernel, by decide +kernel, by decide +kernel⟩, fun A => ⟨u1 _ List.mem_cons_self A, u1 _ (List.mem_cons_of_mem _ List.mem_cons_self) A, fun w hw => u1 w (List.mem_cons_of_mem _ (List.mem_cons_of_mem _ hw)) A⟩, u2, a, vk_R.warm hW (vk_R.of h1 qa)⟩
theorem thr_all (hs : ∀ w ∈ nwL, w.before args s = true) (ht : ∀ w ∈ lw_tbl, w.before args s = true) (hW : s.WarmedH U.vm) : ∀ t ∈ thS, THr t.1 t.2.1 t.2.2.1 t.2.2.2.1 t.2.2.2.2.1 t.2.2.2.2.2 ["java/lang/RuntimeException", "java/lang/Exception"] U := by
  intro t h
  simp only [thS, List.mem_cons, List.not_mem_nil, or_false] at h
  rcases h with rfl | rfl | rfl | rfl | rfl | rfl | rfl | rfl | rfl | rfl | rfl | rfl | rfl | rfl | rfl | rfl
  · exact thr_N ht hW (ht _ (mem_tb 916 (by decide +kernel))) (hs _ (inN 272 (by decide +kernel)))
  · exact thr_I ht hW (ht _ (mem_tb 1246 (by decide +kernel))) (hs _ (inN 526 (by decide +kernel)))
  · exact thr_I ht hW (ht _ (mem_tb 1265 (by decide +kernel))) (hs _ (inN 552 (by decide +kernel)))
  · exact thr_I ht hW (ht _ (mem_tb 1345 (by decide +kernel))) (hs _ (inN 610 (by decide +kernel)))
  · exact thr_I ht hW (ht _ (mem_tb 1019 (by decide +kernel))) (hs _ (inN 397 (by decide +kernel)))
  · exact thr_N ht hW (ht _ (mem_tb 938 (by decide +kernel))) (hs _ (inN 289 (by decide +kernel)))
  · exact thr_N ht hW (ht _ (mem_tb 1015 (by decide +kernel))) (hs _ (inN 381 (by decide +kernel)))
  · exact thr_N ht hW (ht _ (mem_tb 955 (by decide +kernel))) (hs _ (inN 337 (by decide +kernel)))
  · exact thr_I ht hW (ht _ (mem_tb 1158 (by decide +kernel))) (hs _ (inN 504 (by decide +kernel)))
  · exact thr_I ht hW (ht _ (mem_tb 619 (by decide +kernel))) (hs _ (inN 244 (by decide +kernel)))
  · exact thr_I ht hW (ht _ (mem_tb 1090 (by decide +kernel))) (hs _ (inN 417 (by decide +kernel)))
  · exact thr_N ht hW (ht _ (mem_tb 1091 (by decide +kernel))) (hs _ (inN 455 (by decide +kernel)))
  · exact thr_N ht hW (ht _ (mem_tb 943 (by decide +kernel))) (hs _ (inN 308 (by decide +kernel)))
  · exact thr_I ht hW (ht _ (mem_tb 1145 (by decide +kernel))) (hs _ (inN 483 (by decide +kernel)))
  · exact thr_N ht hW (ht _ (mem_tb 956 (by decide +kernel))) (hs _ (inN 354 (by decide +kernel)))
  · exact thr_I ht hW (ht _ (mem_tb 1322 (by decide +kernel))) (hs _ (inN 578 (by decide +kernel)))
theorem ns_in : nsL.all (fun w => decide (w ∈ lw_tbl)) = true := by decide +kernel
theorem ns_all (ht : ∀ w ∈ lw_tbl, w.before args s = true) (hW : s.WarmedH U.vm) : ∀ w ∈ nsL, va_Nw w U := by
  intro w hw
  have b := List.all_eq_true.mp ns_in w hw
  simp only [decide_eq_true_eq] at b
  have hb := ht w b
  simp only [nsL, List.mem_cons, List.not_mem_nil, or_false] at hw
  rcases hw with rfl | rfl | rfl | rfl | rfl | rfl | rfl | rfl | rfl | rfl | rfl | rfl <;> exact va_Nw.warmM hW (va_Nw.of rfl hb)
end EN3
