/-! HANDLERS, again: what can be cast, told beside the words -/
def va_Ca (C T : String) (U : State) : Prop := ∃ c t : ClassId, U.vm.findClass C = some c ∧ U.vm.findClass T = some t ∧ U.vm.assignable c t = true
theorem va_Ca.wd {C T : String} {s : State} {args : Array Value} (q : va_Ca C T s) : (Cond.castable C T).before args s = true := by
  obtain ⟨c, t, h1, h2, h3⟩ := q
  simp [Cond.before, Cond.holds, Cond.value, h1, h2, h3]
theorem va_Ca.of {C T : String} {s : State} {args : Array Value} (q : (Cond.castable C T).before args s = true) : va_Ca C T s := Cond.castable_spec q
theorem va_Ca.moved {C T : String} {u U : State} (hvm : u.vm.Alike U.vm) (h : va_Ca C T u) : va_Ca C T U := by
  obtain ⟨c, t, h1, h2, h3⟩ := h
  exact ⟨c, t, by rw [hvm.findClass]; exact h1, by rw [hvm.findClass]; exact h2, by rw [hvm.assignable]; exact h3⟩
def GOC (g : GG) : Prop := ∀ U, gZ g U → va_Nc "java/lang/IllegalArgumentException" "java/util/NoSuchElementException" U ∧ va_Ca "java/lang/IllegalArgumentException" "java/lang/IllegalArgumentException" U ∧ va_Ca "java/util/NoSuchElementException" "java/util/NoSuchElementException" U
section RH
variable {g : GG} {p : Program} {e : Env} {R : Room} {s : State} {m : MethodId} {args : Array Value} {below : List Frame} {meth : Method} {c : Code} {nL : Nat} {Q : State → Prop} {kc ks pc : Nat} {ls : List (Option Value)} {st : List Value} {h : Hp} {cc : ByteArray} {y : MethodName} {ret : Option FieldType} {xt : List ExceptionTableEntry}
variable {mc ms : Nat} {Pr : Option Value → Hp → Prop} {Pt : String → Hp → Prop}
/-- E is caught here -/
def CaD (cc : ByteArray) (y : MethodName) (nL : Nat) (xt : List ExceptionTableEntry) (s : State) (pc : Nat) (ls : List (Option Value)) (E : String) (V : Nat → List (Option Value) → Prop) : Prop :=
  ∃ (pre suf : List ExceptionTableEntry) (x : ExceptionTableEntry) (name : String) (i n : Nat), xt = pre ++ x :: suf ∧ (∀ z ∈ pre, covers z pc = false ∨ (z.catchType ≠ 0 ∧ ∃ nm, Cond.classLink y.cls z.catchType nm ∈ lwG ∧ va_Nc E nm s)) ∧ covers x pc = true ∧ x.catchType ≠ 0 ∧ Cond.classLink y.cls x.catchType name ∈ lwG ∧ va_Ca E name s ∧
    ((∃ j : Fin 4, i = (j : Nat) ∧ n = 1 ∧ decode cc x.handlerPc = .ok (.astore_n j, 1)) ∨ (n = 2 ∧ decode cc x.handlerPc = .ok (.astore i, 2))) ∧ i < nL ∧ stOK ls i = true ∧ V (x.handlerPc + n) (ls.set i none)
theorem CaD.mk {s : State} {cc : ByteArray} {y : MethodName} {nL pc : Nat} {xt : List ExceptionTableEntry} {ls : List (Option Value)} {E : String} {V : Nat → List (Option Value) → Prop} (pre suf : List ExceptionTableEntry) (x : ExceptionTableEntry) (name : String) (i n : Nat) (h1 : xt = pre ++ x :: suf) (h2 : ∀ z ∈ pre, covers z pc = false ∨ (z.catchType ≠ 0 ∧ ∃ nm, Cond.classLink y.cls z.catchType nm ∈ lwG ∧ va_Nc E nm s)) (h3 : covers x pc = true) (h4 : x.catchType ≠ 0) (h5 : Cond.classLink y.cls x.catchType name ∈ lwG) (h6 : va_Ca E name s) (h7 : (∃ j : Fin 4, i = (j : Nat) ∧ n = 1 ∧ decode cc x.handlerPc = .ok (.astore_n j, 1)) ∨ (n = 2 ∧ decode cc x.handlerPc = .ok (.astore i, 2))) (h8 : i < nL) (h9 : stOK ls i = true) (h10 : V (x.handlerPc + n) (ls.set i none)) : CaD cc y nL xt s pc ls E V := ⟨pre, suf, x, name, i, n, h1, h2, h3, h4, h5, h6, h7, h8, h9, h10⟩
theorem run_endD {mc' ms' : Nat} {Pr2 : Option Value → Hp → Prop} {Pt2 : String → Hp → Prop} {a : Array Value} {H : Heap} {locs : List Loc} {la : Array Slot} {rest st0 : List Value} (X : CX g p s m args meth c cc nL y ret xt) (hL : ∀ q ∈ locs, gn g ≤ q.base) (hM : LM g nL ls la)
    (hr : vx_Run p g.1 e R s m args below meth c H locs kc ks mc' ms' (F0 m pc la st0) (rest.map (tr g)) (Qr g Pr2 a) (Qt g Pt2) (fun q => gn g ≤ q))
    (kk : ∀ v h', Pr2 v h' → VV g p e R s m args below meth c nL Q (kc + mc') (ks + ms') (pc + 3) ls (v.toList ++ rest) h')
    (kx : ∀ E h', Pt2 E h' → CaD cc y nL xt s pc ls E (fun pc' ls' => VV g p e R s m args below meth c nL Q (kc + mc') (ks + ms') pc' ls' [] h')) : W p g.1 e R s m args below meth c H locs kc ks Q (F0 m pc la st0) := by
  intro T hT Y
  rcases hr T hT Y with ⟨v, st₀, t, T', L, h0, Y', hL', e1, e2, ⟨v', h', hv, hp, hw⟩, stp⟩ | ⟨q, st₀, t, T', L, E, ce, h0, Y', hL', e1, e2, ⟨h', hp, hw⟩, hce, hcv, hcl, stp⟩
  · cases hv
    obtain ⟨t2, a1, b1⟩ := kk v' h' hp T'.heap (locs ++ L) la (by rw [e1]; exact hw) (fun q hq => by
      rcases List.mem_append.mp hq with q1 | q1
      · exact hL _ q1
      · exact hL' _ q1) hM T' rfl Y'
    refine ⟨t2, stp t2 ?_, b1⟩
    have : ({ F0 m pc la st0 with pc := (F0 m pc la st0).pc + 3, stack := (v'.map (tr g)).toList ++ rest.map (tr g) } : JFrame) = F0 m (pc + 3) la ((v'.toList ++ rest).map (tr g)) := by
      cases v' <;> simp
    rw [this]
    exact a1
  · obtain ⟨pre, suf, x, name, i, n, hx1, hx2, hx3, hx4, hx5, hx6, hx7, hx8, hx9, hv⟩ := kx E h' hp
    have hLL : ∀ z ∈ locs ++ L, gn g ≤ z.base := fun z hz => by
      rcases List.mem_append.mp hz with q1 | q1
      · exact hL _ q1
      · exact hL' _ q1
    have hout := vx_catch (p := p) (l := g.1) (e := e) (R := R) (s := s) (m := m) (args := args) (below := below) (meth := meth) (c := c) (H := T'.heap) (locs := locs ++ L) (cells := kc + mc') (slots := ks + ms') (Q := Q) (ls := la) (rest := rest.map (tr g)) (pc := pc) (E := E) (ce := ce) (q := q) (own := y.cls) (name := name)
      X.ow pre x suf (X.xx.trans hx1) (fun z hz => (hx2 z hz).imp id fun ⟨k1, nm, k2, k3⟩ => ⟨k1, nm, X.ts _ k2, k3⟩) hx3 hx4 (X.ts _ hx5) hx6.wd (by rw [e1]; exact hce) hcv hcl (r_drop X hx7 hx8 hx9 (by rw [e1]; exact hw) hLL hM hv)
    obtain ⟨t2, a1, b1⟩ := hout T' rfl Y'
    exact ⟨t2, stp.trans a1, b1⟩
/-- an instance method called, its throws caught -/
theorem r_callVD (X : CX g p s m args meth c cc nL y ret xt) {y2 : MethodName} {c2 : ByteArray} {n2 na d idx b ci N mc' ms' : Nat} {r2 : Option FieldType} {T : u_T} {fs As : List Value} {Pr2 : Option Value → Hp → Prop} {Pt2 : String → Hp → Prop} {st0 : List Value}
    (dd : decode cc pc = .ok (.invokevirtual idx, 3)) (hk : MK y2 c2 n2 r2 na) (hw : Cond.methodLink y.cls idx y2 ∈ lwG ∧ Cond.instanceMethod y2 ∈ lwG ∧ Cond.selects y2.cls y2 y2 ∈ lwG) (hc : h[b]? = some (.inr (ci, fs))) (hC : vwCl[ci]? = some (y2.cls, T, N)) (h99 : (ci != 99) = true)
    (hs : st0 = As.reverse ++ .ref b :: st) (hn : As.length = na) (hcat : (st.map fun v => v.category).sum ≤ 8) (hR : d + 1 ≤ R.frames ∧ 60 * (d + 1) + 200 ≤ R.locals) (hce : kc + mc' ≤ R.cells ∧ ks + ms' ≤ R.slots)
    (hM2 : CT g d y2 (wsC y2 c2 n2 r2) (.ref b :: As) h mc' ms' Pr2 Pt2)
    (kx : ∀ E h', Pt2 E h' → CaD cc y nL xt s pc ls E (fun pc' ls' => VV g p e R s m args below meth c nL Q (kc + mc') (ks + ms') pc' ls' [] h'))
    (kk : ∀ v h', Pr2 v h' → VV g p e R s m args below meth c nL Q (kc + mc') (ks + ms') (pc + 3) ls (v.toList ++ st) h') : VV g p e R s m args below meth c nL Q kc ks pc ls st0 h := by
  subst hs
  intro H locs la hW hL hM
  refine run_endD X hL hM (a := (Value.ref (gn g + b) :: As.map (tr g)).toArray) (vx_runV (C := y2.cls) (bytes := c2) (maxL := n2) (ret := r2) (n := na) (index := idx) (As := As.map (tr g)) ⟨X.ex, X.by, X.ml, X.ow, X.ts⟩ hM2 ⟨hk.B X.ts hw.1 hR.1 hR.2, X.ts _ hw.2.1, X.ts _ hw.2.2⟩ ⟨Pin_blind, WH.recv X.gk hW hc hC h99, fun U hU hWm => ⟨rfl, by rw [hU]; exact hW, GK.moved hWm X.gk⟩⟩ rfl (by rw [List.length_map]; exact hn) hM.1 ?_ ?_ dd hce) kk kx
  · show List.map (tr g) (As.reverse ++ .ref b :: st) = _
    rw [List.map_append, List.map_reverse]
    rfl
  · show 2 * 0 + _ ≤ 8
    rw [tr_cats]
    omega
end RH
