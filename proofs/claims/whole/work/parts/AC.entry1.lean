/-! THE LAW'S ENTRY: classes and arrays; a smaller room -/
theorem ent_cls {args : Array Value} {s : State} (ht : ∀ w ∈ lwG, w.before args s = true) : ∀ (c : Nat) (q : vw_C), vwCl[c]? = some q → ∃ (cC : ClassId) (iS : Nat → Nat), u_Kn s q.1 q.2.1 q.2.2 cC iS := by
  intro c q hq
  match c, hq with
  | 0, hq => cases hq; exact u_known ht (ci_X0).2.1 (ht _ (nc_X11_63).2.1)
  | 1, hq => cases hq; exact u_known ht (ci_X1).2.1 (ht _ (nc_X9_19).2.1)
  | 2, hq => cases hq; exact u_known ht (ci_X2).2.1 (ht _ (nc_X3_7).2.1)
  | 3, hq => cases hq; exact u_known ht (ci_X3).2.1 (ht _ (nc_X11_39).2.1)
  | 4, hq => cases hq; exact u_known ht (ci_X4).2.1 (ht _ (nc_X3_16).2.1)
  | 5, hq => cases hq; exact u_known ht (ci_X5).2.1 (ht _ (nc_X11_108).2.1)
  | 6, hq => cases hq; exact u_known ht (ci_X6).2.1 (ht _ (nc_X9_26).2.1)
  | 7, hq => cases hq; exact u_known ht (ci_X7).2.1 (ht _ (nc_X3_23).2.1)
  | 8, hq => cases hq; exact u_known ht (ci_X8).2.1 (ht _ (nc_X11_73).2.1)
  | 9, hq => cases hq; exact u_known ht (ci_X9).2.1 (ht _ (nc_X11_29).2.1)
  | 10, hq => cases hq; exact u_known ht (ci_X11).2.1 (ht _ (nc_L_8).2.1)
  | 11, hq => cases hq; exact u_known ht (ci_X12).2.1 (ht _ (nc_L_113).2.1)
  | k + 12, hq => cases hq
theorem ent_arr {args : Array Value} {s : State} {ty : FieldType} (h : (Cond.arrayClass ty).before args s = true) (hp : ∀ (U : State) (cA : ClassId), va_RA U cA ty ↔ U.vm.findClass ("[" ++ ty.toString) = some cA) (hn : ∀ C, ty ≠ .object C) : ∃ cA, ArrOfT s cA ty ∧ va_RA s cA ty := by
  obtain ⟨cA, kA, comp, hf, hk, hkind⟩ := Cond.arrayClass_spec h
  exact ⟨cA, fun n z => ⟨fun k h => (by cases h), kA, hk, comp, hkind⟩, (hp s cA).mpr hf⟩
theorem ent_K {args : Array Value} {s : State} (ht : ∀ w ∈ lwG, w.before args s = true) : ∃ (D : va_G) (A : Nat → ClassId), va_K D vwCl [(A 0, .int), (A 1, .byte), (A 2, .long), (A 3, .boolean)] s := by
  have h1 : ∀ c : Nat, ∃ (cC : ClassId) (iS : Nat → Nat), ∀ q : vw_C, vwCl[c]? = some q → u_Kn s q.1 q.2.1 q.2.2 cC iS := by
    intro c
    cases e : vwCl[c]? with
    | none => exact ⟨0, fun _ => 0, fun q hq => by cases hq⟩
    | some q =>
      obtain ⟨cC, iS, k⟩ := ent_cls ht c q e
      exact ⟨cC, iS, fun q' hq => by cases hq; exact k⟩
  obtain ⟨a0, x0, y0⟩ := ent_arr (ht _ ar_int) (fun _ _ => Iff.rfl) (fun _ => by simp)
  obtain ⟨a1, x1, y1⟩ := ent_arr (ht _ ar_byte) (fun _ _ => Iff.rfl) (fun _ => by simp)
  obtain ⟨a2, x2, y2⟩ := ent_arr (ht _ ar_long) (fun _ _ => Iff.rfl) (fun _ => by simp)
  obtain ⟨a3, x3, y3⟩ := ent_arr (ht _ ar_boolean) (fun _ _ => Iff.rfl) (fun _ => by simp)
  refine ⟨(fun c => Classical.choose (h1 c), fun c => Classical.choose (Classical.choose_spec (h1 c))), fun k => [a0, a1, a2, a3].getD k a0, fun c q hq => Classical.choose_spec (Classical.choose_spec (h1 c)) q hq, fun k q hk => ?_⟩
  match k, hk with
  | 0, hk => cases hk; exact ⟨x0, y0⟩
  | 1, hk => cases hk; exact ⟨x1, y1⟩
  | 2, hk => cases hk; exact ⟨x2, y2⟩
  | 3, hk => cases hk; exact ⟨x3, y3⟩
  | k + 4, hk => cases hk
/-- writes into what is new are none -/
theorem W_fresh {p : Program} {l : Launch} {e : Env} {R : Room} {s : State} {m : MethodId} {args : Array Value} {below : List Frame} {meth : Method} {c : Code} {H : Heap} {locs : List Loc} {cells slots : Nat} {Q : State → Prop} {f : JFrame} (hL : ∀ q ∈ locs, s.heap.size ≤ q.base) (k : W p l e R s m args below meth c H [] cells slots Q f) : W p l e R s m args below meth c H locs cells slots Q f := by
  intro T hT X
  exact k T hT ⟨X.admits, X.cas, X.clock, X.frames, X.room, X.hears, X.method, X.code, X.here, X.tail, X.warmed, X.limits, X.bytes, State.sameButNew.drop_fresh (L := []) (J := locs) X.same hL⟩
