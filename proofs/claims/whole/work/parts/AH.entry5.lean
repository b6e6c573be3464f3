/-! THE LAW'S ENTRY: all together -/
def entR (f : Nat → Nat × Nat × Nat) (t q b : Nat) (k : Nat) : Nat := if k < 16 then (f k).1 else if k < 32 then (f (k - 16)).2.1 else if k < 48 then (f (k - 32)).2.2 else if k = 48 then t else if k = 49 then q else b
section EN5
variable {f : Nat → Nat × Nat × Nat} {t q b k : Nat} {args : Array Value} {s : State}
theorem entR_a (hk : k < 16) : entR f t q b k = (f k).1 := if_pos hk
theorem entR_b (hk : k < 16) : entR f t q b (16 + k) = (f k).2.1 := by
  unfold entR
  rw [if_neg (by omega), if_pos (by omega), show 16 + k - 16 = k by omega]
theorem entR_t (hk : k < 16) : entR f t q b (32 + k) = (f k).2.2 := by
  unfold entR
  rw [if_neg (by omega), if_neg (by omega), if_pos (by omega), show 32 + k - 32 = k by omega]
theorem va_T_congr {ty : FieldType} {t N : Nat} {f f' : Nat → Value} {A : Nat → Prop} {U : State} {H : Heap} (e : ∀ j, j < N → f j = f' j) (h : va_T ty t N f A U H) : va_T ty t N f' A U H := by
  obtain ⟨cell, h1, h2, h3, h4, h5, h6, h7⟩ := h
  exact ⟨cell, h1, h2, h3, h4, h5, fun j hj => by rw [h6 j hj, e j hj], h7⟩
theorem wd_all (hs : ∀ w ∈ nwL, w.before args s = true) (ht : ∀ w ∈ lw_tbl, w.before args s = true) : ∃ f : Nat → Nat × Nat × Nat, ∀ k, k < 16 → WdA args s k (f k).1 (f k).2.1 (f k).2.2 := by
  have hw : ∀ k : Nat, ∃ q : Nat × Nat × Nat, k < 16 → WdA args s k q.1 q.2.1 q.2.2 := by
    intro k
    match k with
    | 0 => obtain ⟨a, b, t, h⟩ := wd_0 hs ht; exact ⟨(a, b, t), fun _ => h⟩
    | 1 => obtain ⟨a, b, t, h⟩ := wd_1 hs ht; exact ⟨(a, b, t), fun _ => h⟩
    | 2 => obtain ⟨a, b, t, h⟩ := wd_2 hs ht; exact ⟨(a, b, t), fun _ => h⟩
    | 3 => obtain ⟨a, b, t, h⟩ := wd_3 hs ht; exact ⟨(a, b, t), fun _ => h⟩
    | 4 => obtain ⟨a, b, t, h⟩ := wd_4 hs ht; exact ⟨(a, b, t), fun _ => h⟩
    | 5 => obtain ⟨a, b, t, h⟩ := wd_5 hs ht; exact ⟨(a, b, t), fun _ => h⟩
    | 6 => obtain ⟨a, b, t, h⟩ := wd_6 hs ht; exact ⟨(a, b, t), fun _ => h⟩
    | 7 => obtain ⟨a, b, t, h⟩ := wd_7 hs ht; exact ⟨(a, b, t), fun _ => h⟩
    | 8 => obtain ⟨a, b, t, h⟩ := wd_8 hs ht; exact ⟨(a, b, t), fun _ => h⟩
    | 9 => obtain ⟨a, b, t, h⟩ := wd_9 hs ht; exact ⟨(a, b, t), fun _ => h⟩
    | 10 => obtain ⟨a, b, t, h⟩ := wd_10 hs ht; exact ⟨(a, b, t), fun _ => h⟩
    | 11 => obtain ⟨a, b, t, h⟩ := wd_11 hs ht; exact ⟨(a, b, t), fun _ => h⟩
    | 12 => obtain ⟨a, b, t, h⟩ := wd_12 hs ht; exact ⟨(a, b, t), fun _ => h⟩
    | 13 => obtain ⟨a, b, t, h⟩ := wd_13 hs ht; exact ⟨(a, b, t), fun _ => h⟩
    | 14 => obtain ⟨a, b, t, h⟩ := wd_14 hs ht; exact ⟨(a, b, t), fun _ => h⟩
    | 15 => obtain ⟨a, b, t, h⟩ := wd_15 hs ht; exact ⟨(a, b, t), fun _ => h⟩
    | k + 16 => exact ⟨(0, 0, 0), fun h => absurd h (by omega)⟩
  exact ⟨fun k => Classical.choose (hw k), fun k => Classical.choose_spec (hw k)⟩
/-- what the law's walk wants, out of what the Statement gives at the entry -/
theorem ent_g {l : Launch} {L : Nat} {xs : Nat → Int32} (hl : l.stackTraces = false) (hs : ∀ w ∈ nwL, w.before args s = true) (ht : ∀ w ∈ lw_tbl, w.before args s = true) (hL : L ≤ 384) (hX : va_X b L xs s s.heap) (hb : b < s.heap.size) :
    ∃ g : GG, g.1 = l ∧ gn g = s.heap.size ∧ gH g = s.heap ∧ gR g 100 = b ∧ GOK g ∧ GOW g ∧ GOC g ∧ SX g L xs ∧ GK g s := by
  obtain ⟨D, A, hK⟩ := ent_K (args := args) (s := s) (fun w hw => ht w (List.mem_filter.mp hw).1)
  obtain ⟨f, hf⟩ := wd_all hs ht
  obtain ⟨t, hZall, hTall⟩ := all_of hs ht (a := fun k => (f k).1) (fun k hk => (hf k hk).1)
  obtain ⟨v, hv, hZv⟩ := si_of hs ht
  obtain ⟨q, hq⟩ : ∃ q : Nat, v = .null ∨ v = .ref q := by
    cases v <;> first | exact ⟨0, Or.inl rfl⟩ | exact ⟨_, Or.inr rfl⟩ | cases hv
  obtain ⟨n1, n2, n3⟩ := ca_of hs ht
  have hcs := cs_of hs ht
  have hus := us_of hs ht
  have hss := ss_of hs ht
  refine ⟨(l, s.heap.size, s.heap, D, A, entR f t q b, fun U => s.WarmedH U.vm), rfl, rfl, rfl, rfl, ?_, ?_, ?_, ?_, ?_⟩
  · intro U hW
    have hW : s.WarmedH U.vm := hW
    refine ⟨⟨hl, vx_Zq.moved hW.alike hus, vx_Zq.moved hW.alike hss, rfl⟩, thr_all hs ht hW, ns_all ht hW, rfl, fun k hk => ?_⟩
    show va_Z "HorizonSeam$Word" (wnm k) "LHorizonSeam$Word;" (.ref (entR f t q b k)) (fun q => s.heap.size ≤ q) U s.heap
    rw [entR_a hk]
    exact va_Z.moved hW.alike (hf k hk).2.1
  · intro U hW
    have hW : s.WarmedH U.vm := hW
    refine ⟨rfl, fun k hk => ?_, fun k hk => ?_, va_Z.moved hW.alike hZall, va_T.moved hW.alike (va_T_congr (fun j hj => ?_) hTall), va_Z.moved hW.alike hcs, ?_⟩
    · obtain ⟨-, -, ⟨h1, h2, h3⟩, -⟩ := hf k hk
      show va_O RX10 (entR f t q b k) (fun q => s.heap.size ≤ q) U s.heap ∧ va_OF "HorizonSeam$Word" "spelling" "Ljava/lang/String;" (.ref (entR f t q b (16 + k))) (entR f t q b k) (fun q => s.heap.size ≤ q) U s.heap ∧ va_OF "HorizonSeam$Word" "code" "I" (.int (wcd k)) (entR f t q b k) (fun q => s.heap.size ≤ q) U s.heap
      rw [entR_a hk, entR_b hk]
      exact ⟨va_O.moved hW.alike h1, va_OF.moved hW.alike h2, va_OF.moved hW.alike h3⟩
    · obtain ⟨-, -, -, h1, h2, h3, h4⟩ := hf k hk
      show va_O strC (entR f t q b (16 + k)) (fun q => s.heap.size ≤ q) U s.heap ∧ va_OF strC "coder" "B" (.int 0) (entR f t q b (16 + k)) (fun q => s.heap.size ≤ q) U s.heap ∧ va_OF strC "value" "[B" (.ref (entR f t q b (32 + k))) (entR f t q b (16 + k)) (fun q => s.heap.size ≤ q) U s.heap ∧ va_T .byte (entR f t q b (32 + k)) (wln k) (fun j => .int (wby k j)) (fun q => s.heap.size ≤ q) U s.heap
      rw [entR_b hk, entR_t hk]
      exact ⟨va_O.moved hW.alike h1, va_OF.moved hW.alike h2, va_OF.moved hW.alike h3, va_T.moved hW.alike h4⟩
    · show Value.ref (f j).1 = Value.ref (entR f t q b j)
      rw [entR_a hj]
    · rcases hq with e | e
      · rw [e] at hZv
        exact Or.inl (va_Z.moved hW.alike hZv)
      · rw [e] at hZv
        exact Or.inr (va_Z.moved hW.alike hZv)
  · intro U hW
    have hW : s.WarmedH U.vm := hW
    exact ⟨va_Nc.moved hW.alike n1, va_Ca.moved hW.alike n2, va_Ca.moved hW.alike n3⟩
  · exact ⟨hL, fun U hW => ⟨va_X.moved (State.WarmedH.alike hW) hX, hb, rfl⟩⟩
  · exact ⟨hK, fun U' hU => hU⟩
end EN5
