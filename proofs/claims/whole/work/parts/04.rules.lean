/-! RULES of the instructions that touch no heap, over VV (by program) -/
section RU
variable {g : GG} {p : Program} {e : Env} {R : Room} {s : State} {m : MethodId} {args : Array Value} {below : List Frame} {meth : Method} {c : Code} {nL : Nat} {Q : State → Prop} {kc ks pc : Nat} {ls : List (Option Value)} {st : List Value} {h : Hp} {cc : ByteArray} {y : MethodName} {ret : Option FieldType} {xt : List ExceptionTableEntry}
abbrev VVn (g : GG) (p : Program) (e : Env) (R : Room) (s : State) (m : MethodId) (args : Array Value) (below : List Frame) (meth : Method) (c : Code) (nL : Nat) (Q : State → Prop) (kc ks : Nat) : Nat → List (Option Value) → List Value → Hp → Prop := VV g p e R s m args below meth c nL Q kc ks
theorem CX.ex (X : CX g p s m args meth c cc nL y ret xt) : p.tables.exec = Jvm.exec := X.1
theorem CX.by (X : CX g p s m args meth c cc nL y ret xt) : c.code = cc := X.2.1
theorem CX.ml (X : CX g p s m args meth c cc nL y ret xt) : c.maxLocals = nL := X.2.2.1
theorem CX.ow (X : CX g p s m args meth c cc nL y ret xt) : s.vm.findClass y.cls = some m.cls := X.2.2.2.1
theorem CX.ts (X : CX g p s m args meth c cc nL y ret xt) : ∀ w ∈ lwG, w.before args s = true := X.2.2.2.2.1
theorem CX.gk (X : CX g p s m args meth c cc nL y ret xt) : GK g s := X.2.2.2.2.2.1
theorem CX.rt (X : CX g p s m args meth c cc nL y ret xt) : meth.sig.returnType = ret := X.2.2.2.2.2.2.1
theorem CX.lk (X : CX g p s m args meth c cc nL y ret xt) : meth.locks = false := X.2.2.2.2.2.2.2.1
theorem CX.xx (X : CX g p s m args meth c cc nL y ret xt) : c.exceptionTable.toList = xt := X.2.2.2.2.2.2.2.2.1
theorem CX.nm (X : CX g p s m args meth c cc nL y ret xt) : meth.name = y.name := X.2.2.2.2.2.2.2.2.2.1
theorem CX.h0 (X : CX g p s m args meth c cc nL y ret xt) : (∀ q : Nat, q < gn g → s.heap[q]? = (gH g)[q]?) ∧ gn g ≤ s.heap.size := X.2.2.2.2.2.2.2.2.2.2
theorem r_iconst (X : CX g p s m args meth c cc nL y ret xt) {n : Int} {v : Int32} (d : decode cc pc = .ok (.iconst n, 1)) (hv : Int32.ofInt n = v) (k : VV g p e R s m args below meth c nL Q kc ks (pc + 1) ls (.int v :: st) h) : VV g p e R s m args below meth c nL Q kc ks pc ls st h := fun H locs la hW hL hM => lv_iconst X.ex X.by d hv (k H locs la hW hL hM)
theorem r_bipush (X : CX g p s m args meth c cc nL y ret xt) {n : Int} {v : Int32} (d : decode cc pc = .ok (.bipush n, 2)) (hv : (Int8.ofInt n).toInt32 = v) (k : VV g p e R s m args below meth c nL Q kc ks (pc + 2) ls (.int v :: st) h) : VV g p e R s m args below meth c nL Q kc ks pc ls st h := fun H locs la hW hL hM => lv_bipush X.ex X.by d hv (k H locs la hW hL hM)
theorem r_sipush (X : CX g p s m args meth c cc nL y ret xt) {n : Int} {v : Int32} (d : decode cc pc = .ok (.sipush n, 3)) (hv : (Int16.ofInt n).toInt32 = v) (k : VV g p e R s m args below meth c nL Q kc ks (pc + 3) ls (.int v :: st) h) : VV g p e R s m args below meth c nL Q kc ks pc ls st h := fun H locs la hW hL hM => lv_sipush X.ex X.by d hv (k H locs la hW hL hM)
theorem r_lconst (X : CX g p s m args meth c cc nL y ret xt) {n : Fin 2} {v : Int64} (d : decode cc pc = .ok (.lconst n, 1)) (hv : Int64.ofNat (n : Nat) = v) (k : VV g p e R s m args below meth c nL Q kc ks (pc + 1) ls (.long v :: st) h) : VV g p e R s m args below meth c nL Q kc ks pc ls st h := fun H locs la hW hL hM => lv_lconst X.ex X.by d hv (k H locs la hW hL hM)
theorem r_ldc (X : CX g p s m args meth c cc nL y ret xt) {i : Nat} {v : Int32} (d : decode cc pc = .ok (.ldc i, 2)) (hw : Cond.constant y.cls i v ∈ lwG) (k : VV g p e R s m args below meth c nL Q kc ks (pc + 2) ls (.int v :: st) h) : VV g p e R s m args below meth c nL Q kc ks pc ls st h := fun H locs la hW hL hM => lv_ldc X.ex X.by X.ow (X.ts _ hw) d (k H locs la hW hL hM)
theorem r_iload_n (X : CX g p s m args meth c cc nL y ret xt) {j : Fin 4} {x : Int32} (d : decode cc pc = .ok (.iload_n j, 1)) (hl : ls[(j : Nat)]? = some (some (.int x))) (k : VV g p e R s m args below meth c nL Q kc ks (pc + 1) ls (.int x :: st) h) : VV g p e R s m args below meth c nL Q kc ks pc ls st h := fun H locs la hW hL hM => lv_iload_n X.ex X.by d rfl (hM.2.2 _ _ hl) (k H locs la hW hL hM)
theorem r_iload (X : CX g p s m args meth c cc nL y ret xt) {i : Nat} {x : Int32} (d : decode cc pc = .ok (.iload i, 2)) (hl : ls[i]? = some (some (.int x))) (k : VV g p e R s m args below meth c nL Q kc ks (pc + 2) ls (.int x :: st) h) : VV g p e R s m args below meth c nL Q kc ks pc ls st h := fun H locs la hW hL hM => lv_iload X.ex X.by d (hM.2.2 _ _ hl) (k H locs la hW hL hM)
theorem r_lload_n (X : CX g p s m args meth c cc nL y ret xt) {j : Fin 4} {x : Int64} (d : decode cc pc = .ok (.lload_n j, 1)) (hl : ls[(j : Nat)]? = some (some (.long x))) (k : VV g p e R s m args below meth c nL Q kc ks (pc + 1) ls (.long x :: st) h) : VV g p e R s m args below meth c nL Q kc ks pc ls st h := fun H locs la hW hL hM => lv_lload_n X.ex X.by d rfl (hM.2.2 _ _ hl) (k H locs la hW hL hM)
theorem r_lload (X : CX g p s m args meth c cc nL y ret xt) {i : Nat} {x : Int64} (d : decode cc pc = .ok (.lload i, 2)) (hl : ls[i]? = some (some (.long x))) (k : VV g p e R s m args below meth c nL Q kc ks (pc + 2) ls (.long x :: st) h) : VV g p e R s m args below meth c nL Q kc ks pc ls st h := fun H locs la hW hL hM => lv_lload X.ex X.by d (hM.2.2 _ _ hl) (k H locs la hW hL hM)
theorem r_aload_n (X : CX g p s m args meth c cc nL y ret xt) {j : Fin 4} {x : Nat} (d : decode cc pc = .ok (.aload_n j, 1)) (hl : ls[(j : Nat)]? = some (some (.ref x))) (k : VV g p e R s m args below meth c nL Q kc ks (pc + 1) ls (.ref x :: st) h) : VV g p e R s m args below meth c nL Q kc ks pc ls st h := fun H locs la hW hL hM => lv_aload_n X.ex X.by d rfl (hM.2.2 _ _ hl) (k H locs la hW hL hM)
theorem r_aload_nR (X : CX g p s m args meth c cc nL y ret xt) {j : Fin 4} {x : Nat} (d : decode cc pc = .ok (.aload_n j, 1)) (hl : ls[(j : Nat)]? = some (some (.retAddr x))) (k : VV g p e R s m args below meth c nL Q kc ks (pc + 1) ls (.retAddr x :: st) h) : VV g p e R s m args below meth c nL Q kc ks pc ls st h := fun H locs la hW hL hM => lv_aload_n X.ex X.by d rfl (hM.2.2 _ _ hl) (k H locs la hW hL hM)
theorem r_aload (X : CX g p s m args meth c cc nL y ret xt) {i : Nat} {x : Nat} (d : decode cc pc = .ok (.aload i, 2)) (hl : ls[i]? = some (some (.ref x))) (k : VV g p e R s m args below meth c nL Q kc ks (pc + 2) ls (.ref x :: st) h) : VV g p e R s m args below meth c nL Q kc ks pc ls st h := fun H locs la hW hL hM => lv_aload X.ex X.by d (hM.2.2 _ _ hl) (k H locs la hW hL hM)
theorem r_aloadR (X : CX g p s m args meth c cc nL y ret xt) {i : Nat} {x : Nat} (d : decode cc pc = .ok (.aload i, 2)) (hl : ls[i]? = some (some (.retAddr x))) (k : VV g p e R s m args below meth c nL Q kc ks (pc + 2) ls (.retAddr x :: st) h) : VV g p e R s m args below meth c nL Q kc ks pc ls st h := fun H locs la hW hL hM => lv_aload X.ex X.by d (hM.2.2 _ _ hl) (k H locs la hW hL hM)
theorem r_istore_n (X : CX g p s m args meth c cc nL y ret xt) {j : Fin 4} {x : Int32} (d : decode cc pc = .ok (.istore_n j, 1)) (hi : (j : Nat) < nL) (ho : stOK ls (j : Nat) = true) (k : VV g p e R s m args below meth c nL Q kc ks (pc + 1) (ls.set (j : Nat) (some (.int x))) st h) : VV g p e R s m args below meth c nL Q kc ks pc ls (.int x :: st) h := by
  intro H locs la hW hL hM
  obtain ⟨la', e1, hM'⟩ := LM_set1 (v := .int x) hM hi rfl ho
  intro T hT Y
  obtain ⟨t, a, b⟩ := k H locs la' hW hL hM' T hT Y
  refine ⟨t, ?_, b⟩
  have e2 : storeLocals la (j : Nat) (.int x) = some la' := e1
  have hb := X.by
  have hx := X.ex
  show Steps p.tables e below (T.setTop (F0 m pc la (.int x :: st.map (tr g)))) t
  jvm_step Y.here [Y.here.top, ↓top_set Y.here.top, hx, hb, d, e2, Value.isRef]
  exact a
theorem r_istore (X : CX g p s m args meth c cc nL y ret xt) {i : Nat} {x : Int32} (d : decode cc pc = .ok (.istore i, 2)) (hi : i < nL) (ho : stOK ls i = true) (k : VV g p e R s m args below meth c nL Q kc ks (pc + 2) (ls.set i (some (.int x))) st h) : VV g p e R s m args below meth c nL Q kc ks pc ls (.int x :: st) h := by
  intro H locs la hW hL hM
  obtain ⟨la', e1, hM'⟩ := LM_set1 (v := .int x) hM hi rfl ho
  intro T hT Y
  obtain ⟨t, a, b⟩ := k H locs la' hW hL hM' T hT Y
  refine ⟨t, ?_, b⟩
  have e2 : storeLocals la i (.int x) = some la' := e1
  have hb := X.by
  have hx := X.ex
  show Steps p.tables e below (T.setTop (F0 m pc la (.int x :: st.map (tr g)))) t
  jvm_step Y.here [Y.here.top, ↓top_set Y.here.top, hx, hb, d, e2, Value.isRef]
  exact a
theorem r_lstore_n (X : CX g p s m args meth c cc nL y ret xt) {j : Fin 4} {x : Int64} (d : decode cc pc = .ok (.lstore_n j, 1)) (hi : (j : Nat) + 1 < nL) (ho : stOK ls (j : Nat) = true) (k : VV g p e R s m args below meth c nL Q kc ks (pc + 1) ((ls.set (j : Nat) (some (.long x))).set ((j : Nat) + 1) none) st h) : VV g p e R s m args below meth c nL Q kc ks pc ls (.long x :: st) h := by
  intro H locs la hW hL hM
  obtain ⟨la', e1, hM'⟩ := LM_set2 (v := .long x) hM hi rfl ho
  intro T hT Y
  obtain ⟨t, a, b⟩ := k H locs la' hW hL hM' T hT Y
  refine ⟨t, ?_, b⟩
  have e2 : storeLocals la (j : Nat) (.long x) = some la' := e1
  have hb := X.by
  have hx := X.ex
  show Steps p.tables e below (T.setTop (F0 m pc la (.long x :: st.map (tr g)))) t
  jvm_step Y.here [Y.here.top, ↓top_set Y.here.top, hx, hb, d, e2, Value.isRef]
  exact a
theorem r_lstore (X : CX g p s m args meth c cc nL y ret xt) {i : Nat} {x : Int64} (d : decode cc pc = .ok (.lstore i, 2)) (hi : i + 1 < nL) (ho : stOK ls i = true) (k : VV g p e R s m args below meth c nL Q kc ks (pc + 2) ((ls.set i (some (.long x))).set (i + 1) none) st h) : VV g p e R s m args below meth c nL Q kc ks pc ls (.long x :: st) h := by
  intro H locs la hW hL hM
  obtain ⟨la', e1, hM'⟩ := LM_set2 (v := .long x) hM hi rfl ho
  intro T hT Y
  obtain ⟨t, a, b⟩ := k H locs la' hW hL hM' T hT Y
  refine ⟨t, ?_, b⟩
  have e2 : storeLocals la i (.long x) = some la' := e1
  have hb := X.by
  have hx := X.ex
  show Steps p.tables e below (T.setTop (F0 m pc la (.long x :: st.map (tr g)))) t
  jvm_step Y.here [Y.here.top, ↓top_set Y.here.top, hx, hb, d, e2, Value.isRef]
  exact a
theorem r_astore_n (X : CX g p s m args meth c cc nL y ret xt) {j : Fin 4} {x : Nat} (d : decode cc pc = .ok (.astore_n j, 1)) (hi : (j : Nat) < nL) (ho : stOK ls (j : Nat) = true) (k : VV g p e R s m args below meth c nL Q kc ks (pc + 1) (ls.set (j : Nat) (some (.ref x))) st h) : VV g p e R s m args below meth c nL Q kc ks pc ls (.ref x :: st) h := by
  intro H locs la hW hL hM
  obtain ⟨la', e1, hM'⟩ := LM_set1 (v := .ref x) hM hi rfl ho
  intro T hT Y
  obtain ⟨t, a, b⟩ := k H locs la' hW hL hM' T hT Y
  refine ⟨t, ?_, b⟩
  have e2 : storeLocals la (j : Nat) (.ref (gn g + x)) = some la' := e1
  have hb := X.by
  have hx := X.ex
  show Steps p.tables e below (T.setTop (F0 m pc la (.ref (gn g + x) :: st.map (tr g)))) t
  jvm_step Y.here [Y.here.top, ↓top_set Y.here.top, hx, hb, d, e2, Value.isRef]
  exact a
theorem r_astore (X : CX g p s m args meth c cc nL y ret xt) {i : Nat} {x : Nat} (d : decode cc pc = .ok (.astore i, 2)) (hi : i < nL) (ho : stOK ls i = true) (k : VV g p e R s m args below meth c nL Q kc ks (pc + 2) (ls.set i (some (.ref x))) st h) : VV g p e R s m args below meth c nL Q kc ks pc ls (.ref x :: st) h := by
  intro H locs la hW hL hM
  obtain ⟨la', e1, hM'⟩ := LM_set1 (v := .ref x) hM hi rfl ho
  intro T hT Y
  obtain ⟨t, a, b⟩ := k H locs la' hW hL hM' T hT Y
  refine ⟨t, ?_, b⟩
  have e2 : storeLocals la i (.ref (gn g + x)) = some la' := e1
  have hb := X.by
  have hx := X.ex
  show Steps p.tables e below (T.setTop (F0 m pc la (.ref (gn g + x) :: st.map (tr g)))) t
  jvm_step Y.here [Y.here.top, ↓top_set Y.here.top, hx, hb, d, e2, Value.isRef]
  exact a
theorem r_astore_nR (X : CX g p s m args meth c cc nL y ret xt) {j : Fin 4} {x : Nat} (d : decode cc pc = .ok (.astore_n j, 1)) (hi : (j : Nat) < nL) (ho : stOK ls (j : Nat) = true) (k : VV g p e R s m args below meth c nL Q kc ks (pc + 1) (ls.set (j : Nat) (some (.retAddr x))) st h) : VV g p e R s m args below meth c nL Q kc ks pc ls (.retAddr x :: st) h := by
  intro H locs la hW hL hM
  obtain ⟨la', e1, hM'⟩ := LM_set1 (v := .retAddr x) hM hi rfl ho
  intro T hT Y
  obtain ⟨t, a, b⟩ := k H locs la' hW hL hM' T hT Y
  refine ⟨t, ?_, b⟩
  have e2 : storeLocals la (j : Nat) (.ref (gR g x)) = some la' := e1
  have hb := X.by
  have hx := X.ex
  show Steps p.tables e below (T.setTop (F0 m pc la (.ref (gR g x) :: st.map (tr g)))) t
  jvm_step Y.here [Y.here.top, ↓top_set Y.here.top, hx, hb, d, e2, Value.isRef]
  exact a
theorem r_astoreR (X : CX g p s m args meth c cc nL y ret xt) {i : Nat} {x : Nat} (d : decode cc pc = .ok (.astore i, 2)) (hi : i < nL) (ho : stOK ls i = true) (k : VV g p e R s m args below meth c nL Q kc ks (pc + 2) (ls.set i (some (.retAddr x))) st h) : VV g p e R s m args below meth c nL Q kc ks pc ls (.retAddr x :: st) h := by
  intro H locs la hW hL hM
  obtain ⟨la', e1, hM'⟩ := LM_set1 (v := .retAddr x) hM hi rfl ho
  intro T hT Y
  obtain ⟨t, a, b⟩ := k H locs la' hW hL hM' T hT Y
  refine ⟨t, ?_, b⟩
  have e2 : storeLocals la i (.ref (gR g x)) = some la' := e1
  have hb := X.by
  have hx := X.ex
  show Steps p.tables e below (T.setTop (F0 m pc la (.ref (gR g x) :: st.map (tr g)))) t
  jvm_step Y.here [Y.here.top, ↓top_set Y.here.top, hx, hb, d, e2, Value.isRef]
  exact a
theorem r_iinc (X : CX g p s m args meth c cc nL y ret xt) {i : Nat} {n : Int} {x v : Int32} (d : decode cc pc = .ok (.iinc i n, 3)) (hl : ls[i]? = some (some (.int x))) (hv : x + Int32.ofInt n = v) (hi : i < nL) (ho : stOK ls i = true) (k : VV g p e R s m args below meth c nL Q kc ks (pc + 3) (ls.set i (some (.int v))) st h) : VV g p e R s m args below meth c nL Q kc ks pc ls st h := by
  intro H locs la hW hL hM
  subst hv
  have hg := hM.2.2 _ _ hl
  obtain ⟨la', e1, hM'⟩ := LM_set1 (v := .int (x + Int32.ofInt n)) hM hi rfl ho
  intro T hT Y
  obtain ⟨t, a, b⟩ := k H locs la' hW hL hM' T hT Y
  refine ⟨t, ?_, b⟩
  have e2 : storeLocals la i (.int (x + Int32.ofInt n)) = some la' := e1
  have hg2 : la[i]? = some (.val (.int x)) := hg
  have hb := X.by
  have hx := X.ex
  jvm_step Y.here [Y.here.top, ↓top_set Y.here.top, hx, hb, d, hg2, e2]
  exact a
theorem r_iadd (X : CX g p s m args meth c cc nL y ret xt) {x z : Int32} (d : decode cc pc = .ok (.iadd, 1)) (k : VV g p e R s m args below meth c nL Q kc ks (pc + 1) ls (.int (x + z) :: st) h) : VV g p e R s m args below meth c nL Q kc ks pc ls (.int z :: .int x :: st) h := fun H locs la hW hL hM => lv_iadd X.ex X.by d (k H locs la hW hL hM)
theorem r_isub (X : CX g p s m args meth c cc nL y ret xt) {x z : Int32} (d : decode cc pc = .ok (.isub, 1)) (k : VV g p e R s m args below meth c nL Q kc ks (pc + 1) ls (.int (x - z) :: st) h) : VV g p e R s m args below meth c nL Q kc ks pc ls (.int z :: .int x :: st) h := fun H locs la hW hL hM => lv_isub X.ex X.by d (k H locs la hW hL hM)
theorem r_imul (X : CX g p s m args meth c cc nL y ret xt) {x z : Int32} (d : decode cc pc = .ok (.imul, 1)) (k : VV g p e R s m args below meth c nL Q kc ks (pc + 1) ls (.int (x * z) :: st) h) : VV g p e R s m args below meth c nL Q kc ks pc ls (.int z :: .int x :: st) h := fun H locs la hW hL hM => lv_imul X.ex X.by d (k H locs la hW hL hM)
theorem r_iand (X : CX g p s m args meth c cc nL y ret xt) {x z : Int32} (d : decode cc pc = .ok (.iand, 1)) (k : VV g p e R s m args below meth c nL Q kc ks (pc + 1) ls (.int (x &&& z) :: st) h) : VV g p e R s m args below meth c nL Q kc ks pc ls (.int z :: .int x :: st) h := fun H locs la hW hL hM => lv_iand X.ex X.by d (k H locs la hW hL hM)
theorem r_ior (X : CX g p s m args meth c cc nL y ret xt) {x z : Int32} (d : decode cc pc = .ok (.ior, 1)) (k : VV g p e R s m args below meth c nL Q kc ks (pc + 1) ls (.int (x ||| z) :: st) h) : VV g p e R s m args below meth c nL Q kc ks pc ls (.int z :: .int x :: st) h := fun H locs la hW hL hM => lv_ior X.ex X.by d (k H locs la hW hL hM)
theorem r_ixor (X : CX g p s m args meth c cc nL y ret xt) {x z : Int32} (d : decode cc pc = .ok (.ixor, 1)) (k : VV g p e R s m args below meth c nL Q kc ks (pc + 1) ls (.int (x ^^^ z) :: st) h) : VV g p e R s m args below meth c nL Q kc ks pc ls (.int z :: .int x :: st) h := fun H locs la hW hL hM => lv_ixor X.ex X.by d (k H locs la hW hL hM)
theorem r_ishl (X : CX g p s m args meth c cc nL y ret xt) {x z : Int32} (d : decode cc pc = .ok (.ishl, 1)) (k : VV g p e R s m args below meth c nL Q kc ks (pc + 1) ls (.int (x <<< (z &&& 31)) :: st) h) : VV g p e R s m args below meth c nL Q kc ks pc ls (.int z :: .int x :: st) h := fun H locs la hW hL hM => lv_ishl X.ex X.by d (k H locs la hW hL hM)
theorem r_ishr (X : CX g p s m args meth c cc nL y ret xt) {x z : Int32} (d : decode cc pc = .ok (.ishr, 1)) (k : VV g p e R s m args below meth c nL Q kc ks (pc + 1) ls (.int (x >>> (z &&& 31)) :: st) h) : VV g p e R s m args below meth c nL Q kc ks pc ls (.int z :: .int x :: st) h := fun H locs la hW hL hM => lv_ishr X.ex X.by d (k H locs la hW hL hM)
theorem r_idiv (X : CX g p s m args meth c cc nL y ret xt) {x z : Int32} (d : decode cc pc = .ok (.idiv, 1)) (hz : ¬ z = 0) (k : VV g p e R s m args below meth c nL Q kc ks (pc + 1) ls (.int (x / z) :: st) h) : VV g p e R s m args below meth c nL Q kc ks pc ls (.int z :: .int x :: st) h := fun H locs la hW hL hM => lv_idiv X.ex X.by d hz (k H locs la hW hL hM)
theorem r_irem (X : CX g p s m args meth c cc nL y ret xt) {x z : Int32} (d : decode cc pc = .ok (.irem, 1)) (hz : ¬ z = 0) (k : VV g p e R s m args below meth c nL Q kc ks (pc + 1) ls (.int (x - x / z * z) :: st) h) : VV g p e R s m args below meth c nL Q kc ks pc ls (.int z :: .int x :: st) h := fun H locs la hW hL hM => lv_irem X.ex X.by d hz (k H locs la hW hL hM)
theorem r_ladd (X : CX g p s m args meth c cc nL y ret xt) {x z : Int64} (d : decode cc pc = .ok (.ladd, 1)) (k : VV g p e R s m args below meth c nL Q kc ks (pc + 1) ls (.long (x + z) :: st) h) : VV g p e R s m args below meth c nL Q kc ks pc ls (.long z :: .long x :: st) h := fun H locs la hW hL hM => lv_ladd X.ex X.by d (k H locs la hW hL hM)
theorem r_lsub (X : CX g p s m args meth c cc nL y ret xt) {x z : Int64} (d : decode cc pc = .ok (.lsub, 1)) (k : VV g p e R s m args below meth c nL Q kc ks (pc + 1) ls (.long (x - z) :: st) h) : VV g p e R s m args below meth c nL Q kc ks pc ls (.long z :: .long x :: st) h := fun H locs la hW hL hM => lv_lsub X.ex X.by d (k H locs la hW hL hM)
theorem r_land (X : CX g p s m args meth c cc nL y ret xt) {x z : Int64} (d : decode cc pc = .ok (.land, 1)) (k : VV g p e R s m args below meth c nL Q kc ks (pc + 1) ls (.long (x &&& z) :: st) h) : VV g p e R s m args below meth c nL Q kc ks pc ls (.long z :: .long x :: st) h := fun H locs la hW hL hM => lv_land X.ex X.by d (k H locs la hW hL hM)
theorem r_lor (X : CX g p s m args meth c cc nL y ret xt) {x z : Int64} (d : decode cc pc = .ok (.lor, 1)) (k : VV g p e R s m args below meth c nL Q kc ks (pc + 1) ls (.long (x ||| z) :: st) h) : VV g p e R s m args below meth c nL Q kc ks pc ls (.long z :: .long x :: st) h := fun H locs la hW hL hM => lv_lor X.ex X.by d (k H locs la hW hL hM)
theorem r_i2l (X : CX g p s m args meth c cc nL y ret xt) {x : Int32} (d : decode cc pc = .ok (.i2l, 1)) (k : VV g p e R s m args below meth c nL Q kc ks (pc + 1) ls (.long x.toInt64 :: st) h) : VV g p e R s m args below meth c nL Q kc ks pc ls (.int x :: st) h := fun H locs la hW hL hM => lv_i2l X.ex X.by d rfl (k H locs la hW hL hM)
theorem r_l2i (X : CX g p s m args meth c cc nL y ret xt) {x : Int64} (d : decode cc pc = .ok (.l2i, 1)) (k : VV g p e R s m args below meth c nL Q kc ks (pc + 1) ls (.int x.toInt32 :: st) h) : VV g p e R s m args below meth c nL Q kc ks pc ls (.long x :: st) h := fun H locs la hW hL hM => lv_l2i X.ex X.by d rfl (k H locs la hW hL hM)
theorem r_i2b (X : CX g p s m args meth c cc nL y ret xt) {x : Int32} (d : decode cc pc = .ok (.i2b, 1)) (k : VV g p e R s m args below meth c nL Q kc ks (pc + 1) ls (.int x.toInt8.toInt32 :: st) h) : VV g p e R s m args below meth c nL Q kc ks pc ls (.int x :: st) h := fun H locs la hW hL hM => lv_i2b X.ex X.by d rfl (k H locs la hW hL hM)
theorem r_iushr (X : CX g p s m args meth c cc nL y ret xt) {x z : Int32} (d : decode cc pc = .ok (.iushr, 1)) (k : VV g p e R s m args below meth c nL Q kc ks (pc + 1) ls (.int (x.toUInt32 >>> (z.toUInt32 &&& Int32.toUInt32 31)).toInt32 :: st) h) : VV g p e R s m args below meth c nL Q kc ks pc ls (.int z :: .int x :: st) h := fun H locs la hW hL hM => lv_iushr X.ex X.by d rfl (k H locs la hW hL hM)
theorem r_lushr (X : CX g p s m args meth c cc nL y ret xt) {x : Int64} {z : Int32} (d : decode cc pc = .ok (.lushr, 1)) (k : VV g p e R s m args below meth c nL Q kc ks (pc + 1) ls (.long (x.toUInt64 >>> (z.toInt64.toUInt64 &&& Int64.toUInt64 63)).toInt64 :: st) h) : VV g p e R s m args below meth c nL Q kc ks pc ls (.int z :: .long x :: st) h := fun H locs la hW hL hM => lv_lushr X.ex X.by d rfl (k H locs la hW hL hM)
theorem r_lshl (X : CX g p s m args meth c cc nL y ret xt) {x : Int64} {z : Int32} (d : decode cc pc = .ok (.lshl, 1)) (k : VV g p e R s m args below meth c nL Q kc ks (pc + 1) ls (.long (x <<< (z.toInt64 &&& 63)) :: st) h) : VV g p e R s m args below meth c nL Q kc ks pc ls (.int z :: .long x :: st) h := fun H locs la hW hL hM => lv_lshl X.ex X.by d rfl (k H locs la hW hL hM)
theorem r_dup (X : CX g p s m args meth c cc nL y ret xt) {v : Value} (d : decode cc pc = .ok (.dup, 1)) (hv : v.category = 1) (k : VV g p e R s m args below meth c nL Q kc ks (pc + 1) ls (v :: v :: st) h) : VV g p e R s m args below meth c nL Q kc ks pc ls (v :: st) h := fun H locs la hW hL hM => lv_dup X.ex X.by d (by rw [tr_cat]; exact hv) (k H locs la hW hL hM)
theorem r_pop (X : CX g p s m args meth c cc nL y ret xt) {v : Value} (d : decode cc pc = .ok (.pop, 1)) (hv : v.category = 1) (k : VV g p e R s m args below meth c nL Q kc ks (pc + 1) ls st h) : VV g p e R s m args below meth c nL Q kc ks pc ls (v :: st) h := fun H locs la hW hL hM => lv_pop X.ex X.by d (by rw [tr_cat]; exact hv) (k H locs la hW hL hM)
theorem r_dup2 (X : CX g p s m args meth c cc nL y ret xt) {v w : Value} (d : decode cc pc = .ok (.dup2, 1)) (hv : v.category = 1) (hw : w.category = 1) (k : VV g p e R s m args below meth c nL Q kc ks (pc + 1) ls (v :: w :: v :: w :: st) h) : VV g p e R s m args below meth c nL Q kc ks pc ls (v :: w :: st) h := fun H locs la hW hL hM => lv_dup2_11 X.ex X.by d (by rw [tr_cat]; exact hv) (by rw [tr_cat]; exact hw) (k H locs la hW hL hM)
theorem r_if_eq (X : CX g p s m args meth c cc nL y ret xt) {x : Int32} {off : Int} {tgt : Nat} (d : decode cc pc = .ok (.ifCond .eq off, 3)) (ht : (pc : Int) + off = (tgt : Int)) (kt : x = 0 → VV g p e R s m args below meth c nL Q kc ks tgt ls st h) (kf : ¬ x = 0 → VV g p e R s m args below meth c nL Q kc ks (pc + 3) ls st h) : VV g p e R s m args below meth c nL Q kc ks pc ls (.int x :: st) h := fun H locs la hW hL hM => lv_if_eq X.ex X.by d ht (fun q => kt q H locs la hW hL hM) (fun q => kf q H locs la hW hL hM)
theorem r_if_ne (X : CX g p s m args meth c cc nL y ret xt) {x : Int32} {off : Int} {tgt : Nat} (d : decode cc pc = .ok (.ifCond .ne off, 3)) (ht : (pc : Int) + off = (tgt : Int)) (kt : ¬ x = 0 → VV g p e R s m args below meth c nL Q kc ks tgt ls st h) (kf : x = 0 → VV g p e R s m args below meth c nL Q kc ks (pc + 3) ls st h) : VV g p e R s m args below meth c nL Q kc ks pc ls (.int x :: st) h := fun H locs la hW hL hM => lv_if_ne X.ex X.by d ht (fun q => kt q H locs la hW hL hM) (fun q => kf q H locs la hW hL hM)
theorem r_if_lt (X : CX g p s m args meth c cc nL y ret xt) {x : Int32} {off : Int} {tgt : Nat} (d : decode cc pc = .ok (.ifCond .lt off, 3)) (ht : (pc : Int) + off = (tgt : Int)) (kt : x < 0 → VV g p e R s m args below meth c nL Q kc ks tgt ls st h) (kf : ¬ x < 0 → VV g p e R s m args below meth c nL Q kc ks (pc + 3) ls st h) : VV g p e R s m args below meth c nL Q kc ks pc ls (.int x :: st) h := fun H locs la hW hL hM => lv_if_lt X.ex X.by d ht (fun q => kt q H locs la hW hL hM) (fun q => kf q H locs la hW hL hM)
theorem r_if_ge (X : CX g p s m args meth c cc nL y ret xt) {x : Int32} {off : Int} {tgt : Nat} (d : decode cc pc = .ok (.ifCond .ge off, 3)) (ht : (pc : Int) + off = (tgt : Int)) (kt : 0 ≤ x → VV g p e R s m args below meth c nL Q kc ks tgt ls st h) (kf : ¬ 0 ≤ x → VV g p e R s m args below meth c nL Q kc ks (pc + 3) ls st h) : VV g p e R s m args below meth c nL Q kc ks pc ls (.int x :: st) h := fun H locs la hW hL hM => lv_if_ge X.ex X.by d ht (fun q => kt q H locs la hW hL hM) (fun q => kf q H locs la hW hL hM)
theorem r_if_gt (X : CX g p s m args meth c cc nL y ret xt) {x : Int32} {off : Int} {tgt : Nat} (d : decode cc pc = .ok (.ifCond .gt off, 3)) (ht : (pc : Int) + off = (tgt : Int)) (kt : 0 < x → VV g p e R s m args below meth c nL Q kc ks tgt ls st h) (kf : ¬ 0 < x → VV g p e R s m args below meth c nL Q kc ks (pc + 3) ls st h) : VV g p e R s m args below meth c nL Q kc ks pc ls (.int x :: st) h := fun H locs la hW hL hM => lv_if_gt X.ex X.by d ht (fun q => kt q H locs la hW hL hM) (fun q => kf q H locs la hW hL hM)
theorem r_if_le (X : CX g p s m args meth c cc nL y ret xt) {x : Int32} {off : Int} {tgt : Nat} (d : decode cc pc = .ok (.ifCond .le off, 3)) (ht : (pc : Int) + off = (tgt : Int)) (kt : x ≤ 0 → VV g p e R s m args below meth c nL Q kc ks tgt ls st h) (kf : ¬ x ≤ 0 → VV g p e R s m args below meth c nL Q kc ks (pc + 3) ls st h) : VV g p e R s m args below meth c nL Q kc ks pc ls (.int x :: st) h := fun H locs la hW hL hM => lv_if_le X.ex X.by d ht (fun q => kt q H locs la hW hL hM) (fun q => kf q H locs la hW hL hM)
theorem r_icmp_eq (X : CX g p s m args meth c cc nL y ret xt) {x z : Int32} {off : Int} {tgt : Nat} (d : decode cc pc = .ok (.if_icmp .eq off, 3)) (ht : (pc : Int) + off = (tgt : Int)) (kt : x = z → VV g p e R s m args below meth c nL Q kc ks tgt ls st h) (kf : ¬ x = z → VV g p e R s m args below meth c nL Q kc ks (pc + 3) ls st h) : VV g p e R s m args below meth c nL Q kc ks pc ls (.int z :: .int x :: st) h := fun H locs la hW hL hM => lv_icmp_eq X.ex X.by d ht (fun q => kt q H locs la hW hL hM) (fun q => kf q H locs la hW hL hM)
theorem r_icmp_ne (X : CX g p s m args meth c cc nL y ret xt) {x z : Int32} {off : Int} {tgt : Nat} (d : decode cc pc = .ok (.if_icmp .ne off, 3)) (ht : (pc : Int) + off = (tgt : Int)) (kt : ¬ x = z → VV g p e R s m args below meth c nL Q kc ks tgt ls st h) (kf : x = z → VV g p e R s m args below meth c nL Q kc ks (pc + 3) ls st h) : VV g p e R s m args below meth c nL Q kc ks pc ls (.int z :: .int x :: st) h := fun H locs la hW hL hM => lv_icmp_ne X.ex X.by d ht (fun q => kt q H locs la hW hL hM) (fun q => kf q H locs la hW hL hM)
theorem r_icmp_lt (X : CX g p s m args meth c cc nL y ret xt) {x z : Int32} {off : Int} {tgt : Nat} (d : decode cc pc = .ok (.if_icmp .lt off, 3)) (ht : (pc : Int) + off = (tgt : Int)) (kt : x < z → VV g p e R s m args below meth c nL Q kc ks tgt ls st h) (kf : ¬ x < z → VV g p e R s m args below meth c nL Q kc ks (pc + 3) ls st h) : VV g p e R s m args below meth c nL Q kc ks pc ls (.int z :: .int x :: st) h := fun H locs la hW hL hM => lv_icmp_lt X.ex X.by d ht (fun q => kt q H locs la hW hL hM) (fun q => kf q H locs la hW hL hM)
theorem r_icmp_ge (X : CX g p s m args meth c cc nL y ret xt) {x z : Int32} {off : Int} {tgt : Nat} (d : decode cc pc = .ok (.if_icmp .ge off, 3)) (ht : (pc : Int) + off = (tgt : Int)) (kt : z ≤ x → VV g p e R s m args below meth c nL Q kc ks tgt ls st h) (kf : ¬ z ≤ x → VV g p e R s m args below meth c nL Q kc ks (pc + 3) ls st h) : VV g p e R s m args below meth c nL Q kc ks pc ls (.int z :: .int x :: st) h := fun H locs la hW hL hM => lv_icmp_ge X.ex X.by d ht (fun q => kt q H locs la hW hL hM) (fun q => kf q H locs la hW hL hM)
theorem r_icmp_gt (X : CX g p s m args meth c cc nL y ret xt) {x z : Int32} {off : Int} {tgt : Nat} (d : decode cc pc = .ok (.if_icmp .gt off, 3)) (ht : (pc : Int) + off = (tgt : Int)) (kt : z < x → VV g p e R s m args below meth c nL Q kc ks tgt ls st h) (kf : ¬ z < x → VV g p e R s m args below meth c nL Q kc ks (pc + 3) ls st h) : VV g p e R s m args below meth c nL Q kc ks pc ls (.int z :: .int x :: st) h := fun H locs la hW hL hM => lv_icmp_gt X.ex X.by d ht (fun q => kt q H locs la hW hL hM) (fun q => kf q H locs la hW hL hM)
theorem r_icmp_le (X : CX g p s m args meth c cc nL y ret xt) {x z : Int32} {off : Int} {tgt : Nat} (d : decode cc pc = .ok (.if_icmp .le off, 3)) (ht : (pc : Int) + off = (tgt : Int)) (kt : x ≤ z → VV g p e R s m args below meth c nL Q kc ks tgt ls st h) (kf : ¬ x ≤ z → VV g p e R s m args below meth c nL Q kc ks (pc + 3) ls st h) : VV g p e R s m args below meth c nL Q kc ks pc ls (.int z :: .int x :: st) h := fun H locs la hW hL hM => lv_icmp_le X.ex X.by d ht (fun q => kt q H locs la hW hL hM) (fun q => kf q H locs la hW hL hM)
theorem r_goto (X : CX g p s m args meth c cc nL y ret xt) {off : Int} {tgt : Nat} (d : decode cc pc = .ok (.goto off, 3)) (ht : (pc : Int) + off = (tgt : Int)) (k : VV g p e R s m args below meth c nL Q kc ks tgt ls st h) : VV g p e R s m args below meth c nL Q kc ks pc ls st h := fun H locs la hW hL hM => lv_goto X.ex X.by d ht (k H locs la hW hL hM)
theorem r_table (X : CX g p s m args meth c cc nL y ret xt) {dflt lo hi : Int} {offs : Array Int} {len : Nat} {x : Int32} (d : decode cc pc = .ok (.tableswitch dflt lo hi offs, len)) {tgt : Nat} (tg : Nat → Nat) (ho : (x.toInt < lo ∨ hi < x.toInt) → (pc : Int) + dflt = (tgt : Int)) (hi2 : ∀ k : Nat, lo ≤ x.toInt → x.toInt ≤ hi → (x.toInt - lo).toNat = k → ∃ off, offs[k]? = some off ∧ (pc : Int) + off = (tg k : Int))
    (kd : (x.toInt < lo ∨ hi < x.toInt) → VV g p e R s m args below meth c nL Q kc ks tgt ls st h) (kk : ∀ k : Nat, lo ≤ x.toInt → x.toInt ≤ hi → (x.toInt - lo).toNat = k → VV g p e R s m args below meth c nL Q kc ks (tg k) ls st h) : VV g p e R s m args below meth c nL Q kc ks pc ls (.int x :: st) h := by
  intro H locs la hW hL hM
  by_cases q : x.toInt < lo ∨ hi < x.toInt
  · exact lv_tableOut X.ex X.by d q (ho q) (kd q H locs la hW hL hM)
  · have q1 : ¬ x.toInt < lo := fun z => q (Or.inl z)
    have q2 : ¬ hi < x.toInt := fun z => q (Or.inr z)
    obtain ⟨off, o1, o2⟩ := hi2 _ (by omega) (by omega) rfl
    exact lv_tableIn X.ex X.by d q1 q2 o1 o2 (kk _ (by omega) (by omega) rfl H locs la hW hL hM)
theorem r_lookup (X : CX g p s m args meth c cc nL y ret xt) {dflt : Int} {ps : Array (Int × Int)} {len : Nat} {x : Int32} {off : Int} {tgt : Nat} (d : decode cc pc = .ok (.lookupswitch dflt ps, len)) (hp : (ps.toList.zip (ps.toList.drop 1)).all (fun (a, next) => a.1 < next.1) = true) (ho : Op.lookupswitch.offset ps.toList dflt x.toInt = off) (ht : (pc : Int) + off = (tgt : Int)) (k : VV g p e R s m args below meth c nL Q kc ks tgt ls st h) : VV g p e R s m args below meth c nL Q kc ks pc ls (.int x :: st) h := fun H locs la hW hL hM => lv_lookup X.ex X.by d hp ho ht (k H locs la hW hL hM)
end RU
