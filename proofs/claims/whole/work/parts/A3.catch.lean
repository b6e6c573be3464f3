/-! HANDLERS: a call whose throw is caught here; a method that has handlers -/
abbrev mkE (q : Nat × Nat × Nat × Nat) : ExceptionTableEntry := ⟨q.1, q.2.1, q.2.2.1, q.2.2.2⟩
abbrev wsH (y : MethodName) (cc : ByteArray) (nL : Nat) (ret : Option FieldType) (hh : List (Nat × Nat × Nat × Nat)) : List Cond := .codeWith y cc nL ret hh :: lwG
theorem LM_drop {g : GG} {nL i : Nat} {ls : List (Option Value)} {la : Array Slot} {w : Value} (hM : LM g nL ls la) (hi : i < nL) (hc : w.category = 1) (hok : stOK ls i = true) :
    ∃ la', storeLocals la i w = some la' ∧ LM g nL (ls.set i none) la' := by
  obtain ⟨la', e1, h1, h2, h3⟩ := lv_store1 (v := w) (LM_has hM) hi hc
  refine ⟨la', e1, h1, h2, fun k v hk => ?_⟩
  by_cases hki : k = i
  · subst hki
    rw [List.getElem?_set] at hk
    simp only [if_true] at hk
    split at hk <;> cases hk
  · rw [List.getElem?_set_ne (fun q => hki q.symm)] at hk
    refine h3 (k, tr g v) (List.mem_cons_of_mem _ (List.mem_filter.mpr ⟨prs_mem.mpr ⟨v, hk, rfl⟩, ?_⟩))
    simp only [Bool.and_eq_true, Bool.not_eq_true', beq_eq_false_iff_ne, ne_eq, Bool.and_eq_false_iff]
    refine ⟨hki, ?_⟩
    by_cases hk1 : k + 1 = i
    · right
      subst hk1
      have : v.category = 1 := by
        simp only [stOK, hk] at hok
        simpa using hok
      rw [tr_cat, this]
      decide
    · left
      exact hk1
section RH
variable {g : GG} {p : Program} {e : Env} {R : Room} {s : State} {m : MethodId} {args : Array Value} {below : List Frame} {meth : Method} {c : Code} {nL : Nat} {Q : State → Prop} {kc ks pc : Nat} {ls : List (Option Value)} {st : List Value} {h : Hp} {cc : ByteArray} {y : MethodName} {ret : Option FieldType} {xt : List ExceptionTableEntry}
variable {mc ms : Nat} {Pr : Option Value → Hp → Prop} {Pt : String → Hp → Prop}
theorem CT_ofH {d : Nat} {As : List Value} {ls0 : List (Option Value)} {hh : List (Nat × Nat × Nat × Nat)} (hy : plainName y.cls = true) (hl : (entL As).length ≤ nL) (he : ent As nL = ls0)
    (body : ∀ (p : Program) (e : Env) (s : State) (m : MethodId) (args : Array Value) (below : List Frame) (meth : Method) (c : Code), CX g p s m args meth c cc nL y ret (hh.map mkE) →
      VV g p e (rmm d mc ms) s m args below meth c nL (QQ g below args s mc ms Pr Pt) 0 0 0 ls0 [] h) : CT g d y (wsH y cc nL ret hh) As h mc ms Pr Pt := by
  refine vx_ofWH (cc := cc) (maxL := nL) (ret := ret) (hh := hh) hy rfl ?_
  intro p e s m args below meth c s₁ B hml hP
  obtain ⟨rfl, hW, hG⟩ := hP
  have hts := atoms_spec (ws := wsH y cc nL ret hh) B.pre
  have hxt : c.exceptionTable.toList = hh.map mkE := by
    obtain ⟨m9, meth9, c9, hn9, h1, h2, h3, h4, h5, -⟩ := Cond.codeWith_spec (hts _ List.mem_cons_self)
    have em : m9 = m := Option.some.inj (hn9.symm.trans B.named)
    subst em
    have e1 : meth9 = meth := Option.some.inj (h1.symm.trans B.method)
    subst e1
    have hcode : meth9.code = some c := by
      have h := B.here.code
      rw [State.code?_eq, B.method₁] at h
      exact h
    have e2 : c9 = c := Option.some.inj (h2.symm.trans hcode)
    subst e2
    rw [← h5, List.map_map]
    have : (mkE ∘ fun h : ExceptionTableEntry => (h.startPc, h.endPc, h.handlerPc, h.catchType)) = id := funext fun _ => rfl
    rw [this, List.map_id]
  have X : CX g p s m (As.map (tr g)).toArray meth c cc nL y ret (hh.map mkE) := ⟨B.exec, B.bytes, hml, findClass_of_methodNamed B.named, fun w hw => hts w (List.mem_cons_of_mem _ hw), hG, B.returns, B.notSynchronized, hxt, (name_of_methodNamed B.named B.method).1, hW.2.1, by rw [hW.1]; exact Nat.le_add_right _ _⟩
  rw [lg_entry_eq]
  have hM := LM_ent (g := g) (As := As) hl
  rw [he] at hM
  exact body p e s m _ below meth c X s.heap [] _ hW (fun q hq => nomatch hq) hM
/-- the handler's first step: the throwable is laid by -/
theorem r_drop (X : CX g p s m args meth c cc nL y ret xt) {i n : Nat} {w : Addr} {H : Heap} {locs : List Loc} {la : Array Slot} (hd : (∃ j : Fin 4, i = (j : Nat) ∧ n = 1 ∧ decode cc pc = .ok (.astore_n j, 1)) ∨ (n = 2 ∧ decode cc pc = .ok (.astore i, 2))) (hi : i < nL) (ho : stOK ls i = true) (hW : WH g h H) (hL : ∀ q ∈ locs, gn g ≤ q.base) (hM : LM g nL ls la)
    (k : VV g p e R s m args below meth c nL Q kc ks (pc + n) (ls.set i none) [] h) : W p g.1 e R s m args below meth c H locs kc ks Q (F0 m pc la [.ref w]) := by
  obtain ⟨la', e1, hM'⟩ := LM_drop (w := .ref w) hM hi rfl ho
  intro T hT Y
  obtain ⟨t, a, b⟩ := k H locs la' hW hL hM' T hT Y
  refine ⟨t, ?_, b⟩
  have hb := X.by
  have hx := X.ex
  rcases hd with ⟨j, rfl, rfl, d⟩ | ⟨rfl, d⟩
  · show Steps p.tables e below (T.setTop (F0 m pc la [.ref w])) t
    jvm_step Y.here [Y.here.top, ↓top_set Y.here.top, hx, hb, d, e1, Value.isRef]
    exact a
  · show Steps p.tables e below (T.setTop (F0 m pc la [.ref w])) t
    jvm_step Y.here [Y.here.top, ↓top_set Y.here.top, hx, hb, d, e1, Value.isRef]
    exact a
/-- E is caught here -/
def CaH (cc : ByteArray) (y : MethodName) (nL : Nat) (xt : List ExceptionTableEntry) (s : State) (pc : Nat) (ls : List (Option Value)) (E : String) (V : Nat → List (Option Value) → Prop) : Prop :=
  ∃ (pre suf : List ExceptionTableEntry) (x : ExceptionTableEntry) (name : String) (i n : Nat), xt = pre ++ x :: suf ∧ (∀ z ∈ pre, covers z pc = false ∨ (z.catchType ≠ 0 ∧ ∃ nm, Cond.classLink y.cls z.catchType nm ∈ lwG ∧ va_Nc E nm s)) ∧ covers x pc = true ∧ x.catchType ≠ 0 ∧ Cond.classLink y.cls x.catchType name ∈ lwG ∧ Cond.castable E name ∈ lwG ∧
    ((∃ j : Fin 4, i = (j : Nat) ∧ n = 1 ∧ decode cc x.handlerPc = .ok (.astore_n j, 1)) ∨ (n = 2 ∧ decode cc x.handlerPc = .ok (.astore i, 2))) ∧ i < nL ∧ stOK ls i = true ∧ V (x.handlerPc + n) (ls.set i none)
theorem run_endC {mc' ms' : Nat} {Pr2 : Option Value → Hp → Prop} {Pt2 : String → Hp → Prop} {a : Array Value} {H : Heap} {locs : List Loc} {la : Array Slot} {rest st0 : List Value} (X : CX g p s m args meth c cc nL y ret xt) (hL : ∀ q ∈ locs, gn g ≤ q.base) (hM : LM g nL ls la)
    (hr : vx_Run p g.1 e R s m args below meth c H locs kc ks mc' ms' (F0 m pc la st0) (rest.map (tr g)) (Qr g Pr2 a) (Qt g Pt2) (fun q => gn g ≤ q))
    (kk : ∀ v h', Pr2 v h' → VV g p e R s m args below meth c nL Q (kc + mc') (ks + ms') (pc + 3) ls (v.toList ++ rest) h')
    (kx : ∀ E h', Pt2 E h' → CaH cc y nL xt s pc ls E (fun pc' ls' => VV g p e R s m args below meth c nL Q (kc + mc') (ks + ms') pc' ls' [] h')) : W p g.1 e R s m args below meth c H locs kc ks Q (F0 m pc la st0) := by
  intro T hT Y
  rcases hr T hT Y with ⟨v, st₀, t, T', L, h0, Y', hL', e1, e2, ⟨v', h', hv, hp, hw⟩, stp⟩ | ⟨q, st₀, t, T', L, E, ce, h0, Y', hL', e1, e2, ⟨h', hp, hw⟩, hce, hcv, hcl, stp⟩
  · cases hv
    obtain ⟨t2, a1, b1⟩ := kk v' h' hp T'.heap (locs ++ L) la (by rw [e1]; exact hw) (fun q hq => by
      rcases List.mem_append.mp hq with q1 | q1
      · exact hL _ q1
      · exact hL' _ q1) hM T' rfl Y'
    refine ⟨t2, stp t2 ?_, b1⟩
    have : ({ F0 m pc la st0 with pc := (F0 m pc la st0).pc + 3, stack := (v'.map (tr g)).toList ++ rest.map (tr g) } : JFrame) = F0 m (pc + 3) la ((v'.toList ++ rest).map (tr g)) := by
      cases v' <;> simp
    rw [this]
    exact a1
  · obtain ⟨pre, suf, x, name, i, n, hx1, hx2, hx3, hx4, hx5, hx6, hx7, hx8, hx9, hv⟩ := kx E h' hp
    have hLL : ∀ z ∈ locs ++ L, gn g ≤ z.base := fun z hz => by
      rcases List.mem_append.mp hz with q1 | q1
      · exact hL _ q1
      · exact hL' _ q1
    have hout := vx_catch (p := p) (l := g.1) (e := e) (R := R) (s := s) (m := m) (args := args) (below := below) (meth := meth) (c := c) (H := T'.heap) (locs := locs ++ L) (cells := kc + mc') (slots := ks + ms') (Q := Q) (ls := la) (rest := rest.map (tr g)) (pc := pc) (E := E) (ce := ce) (q := q) (own := y.cls) (name := name)
      X.ow pre x suf (X.xx.trans hx1) (fun z hz => (hx2 z hz).imp id fun ⟨k1, nm, k2, k3⟩ => ⟨k1, nm, X.ts _ k2, k3⟩) hx3 hx4 (X.ts _ hx5) (X.ts _ hx6) (by rw [e1]; exact hce) hcv hcl (r_drop X hx7 hx8 hx9 (by rw [e1]; exact hw) hLL hM hv)
    obtain ⟨t2, a1, b1⟩ := hout T' rfl Y'
    exact ⟨t2, stp.trans a1, b1⟩
/-- an instance method called, its throws caught -/
theorem r_callVC (X : CX g p s m args meth c cc nL y ret xt) {y2 : MethodName} {c2 : ByteArray} {n2 na d idx b ci N mc' ms' : Nat} {r2 : Option FieldType} {T : u_T} {fs As : List Value} {Pr2 : Option Value → Hp → Prop} {Pt2 : String → Hp → Prop} {st0 : List Value}
    (dd : decode cc pc = .ok (.invokevirtual idx, 3)) (hk : MK y2 c2 n2 r2 na) (hw : Cond.methodLink y.cls idx y2 ∈ lwG ∧ Cond.instanceMethod y2 ∈ lwG ∧ Cond.selects y2.cls y2 y2 ∈ lwG) (hc : h[b]? = some (.inr (ci, fs))) (hC : vwCl[ci]? = some (y2.cls, T, N)) (h99 : (ci != 99) = true)
    (hs : st0 = As.reverse ++ .ref b :: st) (hn : As.length = na) (hcat : (st.map fun v => v.category).sum ≤ 8) (hR : d + 1 ≤ R.frames ∧ 60 * (d + 1) + 200 ≤ R.locals) (hce : kc + mc' ≤ R.cells ∧ ks + ms' ≤ R.slots)
    (hM2 : CT g d y2 (wsC y2 c2 n2 r2) (.ref b :: As) h mc' ms' Pr2 Pt2)
    (kx : ∀ E h', Pt2 E h' → CaH cc y nL xt s pc ls E (fun pc' ls' => VV g p e R s m args below meth c nL Q (kc + mc') (ks + ms') pc' ls' [] h'))
    (kk : ∀ v h', Pr2 v h' → VV g p e R s m args below meth c nL Q (kc + mc') (ks + ms') (pc + 3) ls (v.toList ++ st) h') : VV g p e R s m args below meth c nL Q kc ks pc ls st0 h := by
  subst hs
  intro H locs la hW hL hM
  refine run_endC X hL hM (a := (Value.ref (gn g + b) :: As.map (tr g)).toArray) (vx_runV (C := y2.cls) (bytes := c2) (maxL := n2) (ret := r2) (n := na) (index := idx) (As := As.map (tr g)) ⟨X.ex, X.by, X.ml, X.ow, X.ts⟩ hM2 ⟨hk.B X.ts hw.1 hR.1 hR.2, X.ts _ hw.2.1, X.ts _ hw.2.2⟩ ⟨Pin_blind, WH.recv X.gk hW hc hC h99, fun U hU hWm => ⟨rfl, by rw [hU]; exact hW, GK.moved hWm X.gk⟩⟩ rfl (by rw [List.length_map]; exact hn) hM.1 ?_ ?_ dd hce) kk kx
  · show List.map (tr g) (As.reverse ++ .ref b :: st) = _
    rw [List.map_append, List.map_reverse]
    rfl
  · show 2 * 0 + _ ≤ 8
    rw [tr_cats]
    omega
/-- a static method that has handlers, called -/
theorem r_callSH (X : CX g p s m args meth c cc nL y ret xt) {y2 : MethodName} {c2 : ByteArray} {n2 na d idx mc' ms' : Nat} {r2 : Option FieldType} {hh : List (Nat × Nat × Nat × Nat)} {As : List Value} {Pr2 : Option Value → Hp → Prop} {st0 : List Value}
    (dd : decode cc pc = .ok (.invokestatic idx, 3)) (hk : Cond.codeWith y2 c2 n2 r2 hh ∈ lwG ∧ Cond.initialized y2.cls ∈ lwG ∧ (y2.cls ≠ "java/lang/invoke/MethodHandle" ∧ y2.cls ≠ "java/lang/invoke/VarHandle" ∧ (parseMethodDescriptor y2.desc).map (fun d => d.parameters.length) = some na) ∧ n2 ≤ 40) (hw : Cond.methodLink y.cls idx y2 ∈ lwG ∧ Cond.static y2 ∈ lwG)
    (hs : st0 = As.reverse ++ st) (hn : As.length = na) (hcat : (st.map fun v => v.category).sum ≤ 8) (hR : d + 1 ≤ R.frames ∧ 60 * (d + 1) + 200 ≤ R.locals) (hce : kc + mc' ≤ R.cells ∧ ks + ms' ≤ R.slots)
    (hM2 : CT g d y2 (wsH y2 c2 n2 r2 hh) As h mc' ms' Pr2 noT)
    (kk : ∀ v h', Pr2 v h' → VV g p e R s m args below meth c nL Q (kc + mc') (ks + ms') (pc + 3) ls (v.toList ++ st) h') : VV g p e R s m args below meth c nL Q kc ks pc ls st0 h := by
  subst hs
  intro H locs la hW hL hM
  have hgd : GoodIn lwG (va_wsS y.cls idx y2 (wsH y2 c2 n2 r2 hh)) := by
    intro w hw'
    have h1 : w ∈ lwG := by
      rcases List.mem_append.mp hw' with h1 | h1
      · simp only [List.mem_cons, List.not_mem_nil, or_false] at h1
        rcases h1 with rfl | rfl | rfl
        · exact hw.1
        · exact hw.2
        · exact hk.2.1
      · rcases List.mem_cons.mp h1 with rfl | h1
        · exact hk.1
        · exact h1
    exact ⟨h1, good_of_word (good_lwG w h1)⟩
  have hcw : vx_CSW R s args y.cls idx y2 c2 n2 r2 hh (wsH y2 c2 n2 r2 hh) (rmm d mc' ms') mc' ms' na := vx_cwSW (ws' := lwG) na X.ts hgd rfl rfl rfl hk.2.2.1 ⟨hR.1, by show 8 + (n2 + 11) + (60 * d + 200) ≤ _; have := hk.2.2.2; omega⟩
  refine run_endC X hL hM (Pt2 := noT) (a := (As.map (tr g)).toArray) (vx_runSX (hh := hh) (bytes := c2) (maxL := n2) (ret := r2) (n := na) (index := idx) (As := As.map (tr g)) ⟨X.ex, X.by, X.ml, X.ow, X.ts⟩ hM2 hcw ⟨Pin_blind, fun U hU hWm => ⟨rfl, by rw [hU]; exact hW, GK.moved hWm X.gk⟩⟩ rfl (by rw [List.length_map]; exact hn) hM.1 ?_ ?_ dd hce) kk (fun _ _ z => z.elim)
  · show List.map (tr g) (As.reverse ++ st) = _
    rw [List.map_append, List.map_reverse]
  · show 2 * 0 + _ ≤ 8
    rw [tr_cats]
    omega
end RH
