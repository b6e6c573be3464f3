/-! RULES of calls, answers, throws, over VV; the contract out of a body's walk -/
section RC
variable {g : GG} {p : Program} {e : Env} {R : Room} {s : State} {m : MethodId} {args : Array Value} {below : List Frame} {meth : Method} {c : Code} {nL : Nat} {Q : State → Prop} {kc ks pc : Nat} {ls : List (Option Value)} {st : List Value} {h : Hp} {cc : ByteArray} {y : MethodName} {ret : Option FieldType} {xt : List ExceptionTableEntry}
variable {mc ms : Nat} {Pr : Option Value → Hp → Prop} {Pt : String → Hp → Prop}
/-- A CONTRACT OUT OF A WALK -/
theorem CT_of {d : Nat} {As : List Value} {ls0 : List (Option Value)} (hy : plainName y.cls = true) (hl : (entL As).length ≤ nL) (he : ent As nL = ls0)
    (body : ∀ (p : Program) (e : Env) (s : State) (m : MethodId) (args : Array Value) (below : List Frame) (meth : Method) (c : Code), CX g p s m args meth c cc nL y ret [] →
      VV g p e (rmm d mc ms) s m args below meth c nL (QQ g below args s mc ms Pr Pt) 0 0 0 ls0 [] h) : CT g d y (wsC y cc nL ret) As h mc ms Pr Pt := by
  refine vx_ofW (cc := cc) (maxL := nL) (ret := ret) hy rfl ?_
  intro p e s m args below meth c s₁ B hml htab hP
  obtain ⟨rfl, hW, hG⟩ := hP
  have hts := atoms_spec (ws := wsC y cc nL ret) B.pre
  have X : CX g p s m (As.map (tr g)).toArray meth c cc nL y ret [] := ⟨B.exec, B.bytes, hml, findClass_of_methodNamed B.named, fun w hw => hts w (List.mem_cons_of_mem _ hw), hG, B.returns, B.notSynchronized, by
    cases hx : c.exceptionTable.toList with
    | nil => rfl
    | cons a l => exact (htab a (by rw [hx]; exact List.mem_cons_self)).elim, (name_of_methodNamed B.named B.method).1, hW.2.1, by rw [hW.1]; exact Nat.le_add_right _ _⟩
  rw [lg_entry_eq]
  have hM := LM_ent (g := g) (As := As) hl
  rw [he] at hM
  exact body p e s m _ below meth c X s.heap [] _ hW (fun q hq => nomatch hq) hM
theorem W_mono {H : Heap} {locs : List Loc} {Q' : State → Prop} {f : JFrame} (k : W p g.1 e R s m args below meth c H locs kc ks Q f) (hq : ∀ t, Q t → Q' t) : W p g.1 e R s m args below meth c H locs kc ks Q' f := by
  intro T hT X
  obtain ⟨t, a, b⟩ := k T hT X
  exact ⟨t, a, hq t b⟩
theorem r_iret (X : CX g p s m args meth c cc nL y ret xt) {v : Int32} (d : decode cc pc = .ok (.ireturn, 1)) (hr : ret = some .int) (hP : Pr (some (.int v)) h) (h1 : kc ≤ mc) (h2 : ks ≤ ms) : VV g p e R s m args below meth c nL (QQ g below args s mc ms Pr Pt) kc ks pc ls [.int v] h := by
  intro H locs la hW hL hM
  refine W.widen h1 h2 (vx_ret (W.iret X.ex X.by (X.rt.trans hr) (fun t ht _ => ⟨some (.int v), h, rfl, hP, by rw [ht]; exact hW⟩) hL d X.lk))
theorem r_zret (X : CX g p s m args meth c cc nL y ret xt) {v : Int32} {ty : FieldType} (d : decode cc pc = .ok (.ireturn, 1)) (hr : ret = some ty) (hn : narrow ty (.int v) = .int v) (hP : Pr (some (.int v)) h) (h1 : kc ≤ mc) (h2 : ks ≤ ms) : VV g p e R s m args below meth c nL (QQ g below args s mc ms Pr Pt) kc ks pc ls [.int v] h := by
  intro H locs la hW hL hM
  refine W.widen h1 h2 (vx_ret (W.zret X.ex X.by (X.rt.trans hr) hn (fun t ht _ => ⟨some (.int v), h, rfl, hP, by rw [ht]; exact hW⟩) hL d X.lk))
theorem r_vret (X : CX g p s m args meth c cc nL y ret xt) (d : decode cc pc = .ok (.return_, 1)) (hr : ret = none) (hP : Pr none h) (h1 : kc ≤ mc) (h2 : ks ≤ ms) : VV g p e R s m args below meth c nL (QQ g below args s mc ms Pr Pt) kc ks pc ls [] h := by
  intro H locs la hW hL hM
  refine W.widen h1 h2 (vx_ret (W.vret X.ex X.by (X.rt.trans hr) (fun t ht _ => ⟨none, h, rfl, hP, by rw [ht]; exact hW⟩) hL d X.lk))
theorem r_lret (X : CX g p s m args meth c cc nL y ret xt) {v : Int64} (d : decode cc pc = .ok (.lreturn, 1)) (hr : ret = some .long) (hP : Pr (some (.long v)) h) (h1 : kc ≤ mc) (h2 : ks ≤ ms) : VV g p e R s m args below meth c nL (QQ g below args s mc ms Pr Pt) kc ks pc ls [.long v] h := by
  intro H locs la hW hL hM
  refine W.widen h1 h2 (vx_ret (W.lret X.ex X.by (X.rt.trans hr) (fun t ht _ => ⟨some (.long v), h, rfl, hP, by rw [ht]; exact hW⟩) hL d X.lk))
theorem r_aretR (X : CX g p s m args meth c cc nL y ret xt) {a : Nat} {rt : FieldType} (d : decode cc pc = .ok (.areturn, 1)) (hr : ret = some rt) (hrt : (∃ n, rt = .object n) ∨ ∃ t, rt = .array t) (hP : Pr (some (.retAddr a)) h) (h1 : kc ≤ mc) (h2 : ks ≤ ms) : VV g p e R s m args below meth c nL (QQ g below args s mc ms Pr Pt) kc ks pc ls [.retAddr a] h := by
  intro H locs la hW hL hM
  refine W.widen h1 h2 (vx_ret (W.aret X.ex X.by (X.rt.trans hr) hrt (Or.inr ⟨_, rfl⟩) (fun t ht _ => ⟨some (.retAddr a), h, rfl, hP, by rw [ht]; exact hW⟩) hL d X.lk))
/-- words on a call's method -/
def MK (y2 : MethodName) (c2 : ByteArray) (n2 : Nat) (r2 : Option FieldType) (na : Nat) : Prop :=
  Cond.code y2 c2 n2 r2 ∈ lwG ∧ Cond.initialized y2.cls ∈ lwG ∧ (y2.cls ≠ "java/lang/invoke/MethodHandle" ∧ y2.cls ≠ "java/lang/invoke/VarHandle" ∧ (parseMethodDescriptor y2.desc).map (fun d => d.parameters.length) = some na) ∧ n2 ≤ 40
theorem good_lwG : ∀ w ∈ lwG, goodWord w = true := fun w hw => (List.mem_filter.mp hw).2
theorem wsC_good {y2 : MethodName} {c2 : ByteArray} {n2 : Nat} {r2 : Option FieldType} (hc : Cond.code y2 c2 n2 r2 ∈ lwG) : GoodIn lwG (wsC y2 c2 n2 r2) := by
  intro w hw
  have h1 : w ∈ lwG := by
    rcases List.mem_cons.mp hw with rfl | h
    · exact hc
    · exact h
  exact ⟨h1, good_of_word (good_lwG w h1)⟩
theorem MK.B {y2 : MethodName} {c2 : ByteArray} {n2 : Nat} {r2 : Option FieldType} {na d mc' ms' idx : Nat} {own : String} (h : MK y2 c2 n2 r2 na) (ht : ∀ w ∈ lwG, w.before args s = true) (hl : Cond.methodLink own idx y2 ∈ lwG) (hd : d + 1 ≤ R.frames) (hR : 60 * (d + 1) + 200 ≤ R.locals) : CallB R s args own idx y2 c2 n2 r2 (wsC y2 c2 n2 r2) (rmm d mc' ms') mc' ms' na :=
  callB_of na ht (wsC_good h.1) rfl rfl rfl (ht _ h.2.1) (ht _ hl) h.2.2.1 ⟨hd, by show 8 + (n2 + 11) + (60 * d + 200) ≤ _; have := h.2.2.2; omega⟩
theorem run_end {mc' ms' : Nat} {Pr2 : Option Value → Hp → Prop} {Pt2 : String → Hp → Prop} {a : Array Value} {H : Heap} {locs : List Loc} {la : Array Slot} {rest st0 : List Value} (X : CX g p s m args meth c cc nL y ret xt) (hW : WH g h H) (hL : ∀ q ∈ locs, gn g ≤ q.base) (hM : LM g nL ls la)
    (hr : vx_Run p g.1 e R s m args below meth c H locs kc ks mc' ms' (F0 m pc la st0) (rest.map (tr g)) (Qr g Pr2 a) (Qt g Pt2) (fun q => gn g ≤ q))
    (kk : ∀ v h', Pr2 v h' → VV g p e R s m args below meth c nL (QQ g below args s mc ms Pr Pt) (kc + mc') (ks + ms') (pc + 3) ls (v.toList ++ rest) h')
    (kx : ∀ E h', Pt2 E h' → Pt E h') (hxt : ∀ x ∈ xt, covers x pc = false) (h1 : (∃ E h', Pt2 E h') → kc + mc' ≤ mc ∧ ks + ms' ≤ ms) : W p g.1 e R s m args below meth c H locs kc ks (QQ g below args s mc ms Pr Pt) (F0 m pc la st0) := by
  intro T hT Y
  rcases hr T hT Y with ⟨v, st₀, t, T', L, h0, Y', hL', e1, e2, ⟨v', h', hv, hp, hw⟩, stp⟩ | ⟨q, st₀, t, T', L, E, ce, h0, Y', hL', e1, e2, ⟨h', hp, hw⟩, hce, hcv, hcl, stp⟩
  · cases hv
    obtain ⟨t2, a1, b1⟩ := kk v' h' hp T'.heap (locs ++ L) la (by rw [e1]; exact hw) (fun q hq => by
      rcases List.mem_append.mp hq with q1 | q1
      · exact hL _ q1
      · exact hL' _ q1) hM T' rfl Y'
    refine ⟨t2, stp t2 ?_, b1⟩
    have : ({ F0 m pc la st0 with pc := (F0 m pc la st0).pc + 3, stack := (v'.map (tr g)).toList ++ rest.map (tr g) } : JFrame) = F0 m (pc + 3) la ((v'.toList ++ rest).map (tr g)) := by
      cases v' <;> simp
    rw [this]
    exact a1
  · obtain ⟨g1, g2⟩ := h1 ⟨E, h', hp⟩
    have hout := vx_out (p := p) (l := g.1) (e := e) (R := R) (s := s) (m := m) (args := args) (below := below) (meth := meth) (c := c) (H := T'.heap) (locs := locs ++ L) (cells := kc + mc') (slots := ks + ms') (free := fun q => gn g ≤ q) (ls := la) (rest := rest.map (tr g)) (Qc := Qr g Pr) (XC := Qt g Pt) (pc := pc) (E := E) (ce := ce) (q := q) (mc := mc) (ms := ms)
      (fun x hx => hxt x (by rw [X.xx] at hx; exact hx)) X.lk (by rw [e1]; exact hce) hcv hcl (fun t' ht' _ => ⟨h', kx E h' hp, by rw [ht', e1]; exact hw⟩) (fun z hz => by
        rcases List.mem_append.mp hz with q1 | q1
        · exact hL _ q1
        · exact hL' _ q1) g1 g2
    obtain ⟨t2, a1, b1⟩ := hout T' rfl Y'
    exact ⟨t2, stp.trans a1, b1⟩
theorem WH.recv {H : Heap} {ci b N : Nat} {C : String} {T : u_T} {fs : List Value} (hG : GK g s) (hW : WH g h H) (hc : h[b]? = some (.inr (ci, fs))) (hC : vwCl[ci]? = some (C, T, N)) (h99 : (ci != 99) = true) : ∃ cellB : Cell, H[gn g + b]? = some cellB ∧ cellB.vm.isStatics = false ∧ s.vm.findClass C = some cellB.cls :=
  va_recv (q := (C, T, N)) (q0 := 0) hG.1 (hW.at hc h99) hC rfl
/-- an instance method called by invokevirtual -/
theorem r_callV (X : CX g p s m args meth c cc nL y ret xt) {y2 : MethodName} {c2 : ByteArray} {n2 na d idx b ci N mc' ms' : Nat} {r2 : Option FieldType} {T : u_T} {fs As : List Value} {Pr2 : Option Value → Hp → Prop} {Pt2 : String → Hp → Prop} {st0 : List Value}
    (dd : decode cc pc = .ok (.invokevirtual idx, 3)) (hk : MK y2 c2 n2 r2 na) (hw : Cond.methodLink y.cls idx y2 ∈ lwG ∧ Cond.instanceMethod y2 ∈ lwG ∧ Cond.selects y2.cls y2 y2 ∈ lwG) (hc : h[b]? = some (.inr (ci, fs))) (hC : vwCl[ci]? = some (y2.cls, T, N)) (h99 : (ci != 99) = true)
    (hs : st0 = As.reverse ++ .ref b :: st) (hn : As.length = na) (hcat : (st.map fun v => v.category).sum ≤ 8) (hR : d + 1 ≤ R.frames ∧ 60 * (d + 1) + 200 ≤ R.locals) (hce : kc + mc' ≤ R.cells ∧ ks + ms' ≤ R.slots)
    (hM2 : CT g d y2 (wsC y2 c2 n2 r2) (.ref b :: As) h mc' ms' Pr2 Pt2)
    (kx : ∀ E h', Pt2 E h' → Pt E h') (hxt : ∀ x ∈ xt, covers x pc = false) (h1 : (∃ E h', Pt2 E h') → kc + mc' ≤ mc ∧ ks + ms' ≤ ms)
    (kk : ∀ v h', Pr2 v h' → VV g p e R s m args below meth c nL (QQ g below args s mc ms Pr Pt) (kc + mc') (ks + ms') (pc + 3) ls (v.toList ++ st) h') : VV g p e R s m args below meth c nL (QQ g below args s mc ms Pr Pt) kc ks pc ls st0 h := by
  subst hs
  intro H locs la hW hL hM
  refine run_end X hW hL hM (a := (Value.ref (gn g + b) :: As.map (tr g)).toArray) (vx_runV (C := y2.cls) (bytes := c2) (maxL := n2) (ret := r2) (n := na) (index := idx) (As := As.map (tr g)) ⟨X.ex, X.by, X.ml, X.ow, X.ts⟩ hM2 ⟨hk.B X.ts hw.1 hR.1 hR.2, X.ts _ hw.2.1, X.ts _ hw.2.2⟩ ⟨Pin_blind, WH.recv X.gk hW hc hC h99, fun U hU hWm => ⟨rfl, by rw [hU]; exact hW, GK.moved hWm X.gk⟩⟩ rfl (by rw [List.length_map]; exact hn) hM.1 ?_ ?_ dd hce) kk kx hxt h1
  · show List.map (tr g) (As.reverse ++ .ref b :: st) = _
    rw [List.map_append, List.map_reverse]
    rfl
  · show 2 * 0 + _ ≤ 8
    rw [tr_cats]
    omega
/-- a static method called by invokestatic -/
theorem r_callS (X : CX g p s m args meth c cc nL y ret xt) {y2 : MethodName} {c2 : ByteArray} {n2 na d idx mc' ms' : Nat} {r2 : Option FieldType} {As : List Value} {Pr2 : Option Value → Hp → Prop} {Pt2 : String → Hp → Prop} {st0 : List Value}
    (dd : decode cc pc = .ok (.invokestatic idx, 3)) (hk : MK y2 c2 n2 r2 na) (hw : Cond.methodLink y.cls idx y2 ∈ lwG ∧ Cond.static y2 ∈ lwG)
    (hs : st0 = As.reverse ++ st) (hn : As.length = na) (hcat : (st.map fun v => v.category).sum ≤ 8) (hR : d + 1 ≤ R.frames ∧ 60 * (d + 1) + 200 ≤ R.locals) (hce : kc + mc' ≤ R.cells ∧ ks + ms' ≤ R.slots)
    (hM2 : CT g d y2 (wsC y2 c2 n2 r2) As h mc' ms' Pr2 Pt2)
    (kx : ∀ E h', Pt2 E h' → Pt E h') (hxt : ∀ x ∈ xt, covers x pc = false) (h1 : (∃ E h', Pt2 E h') → kc + mc' ≤ mc ∧ ks + ms' ≤ ms)
    (kk : ∀ v h', Pr2 v h' → VV g p e R s m args below meth c nL (QQ g below args s mc ms Pr Pt) (kc + mc') (ks + ms') (pc + 3) ls (v.toList ++ st) h') : VV g p e R s m args below meth c nL (QQ g below args s mc ms Pr Pt) kc ks pc ls st0 h := by
  subst hs
  intro H locs la hW hL hM
  refine run_end X hW hL hM (a := (As.map (tr g)).toArray) (vx_runS (bytes := c2) (maxL := n2) (ret := r2) (n := na) (index := idx) (As := As.map (tr g)) ⟨X.ex, X.by, X.ml, X.ow, X.ts⟩ hM2 ⟨hk.B X.ts hw.1 hR.1 hR.2, X.ts _ hw.2⟩ ⟨Pin_blind, fun U hU hWm => ⟨rfl, by rw [hU]; exact hW, GK.moved hWm X.gk⟩⟩ rfl (by rw [List.length_map]; exact hn) hM.1 ?_ ?_ dd hce) kk kx hxt h1
  · show List.map (tr g) (As.reverse ++ st) = _
    rw [List.map_append, List.map_reverse]
  · show 2 * 0 + _ ≤ 8
    rw [tr_cats]
    omega
/-- what returns, returns by the narrower contract -/
theorem CT.met {d : Nat} {y2 : MethodName} {ws : List Cond} {As : List Value} {Pr2 : Option Value → Hp → Prop} (hM : CT g d y2 ws As h mc ms Pr2 noT) : Met g.1 y2 ws (rmm d mc ms) (Pin g As h) (Qr g Pr2) mc ms (fun q => gn g ≤ q) := by
  intro p e ha hc hk s m args below hf happ hP hK
  obtain ⟨n, o, h1, h2, h3, h4⟩ := hM p e ha hc hk s m args below hf happ hP hK
  refine ⟨n, o, h1, h2, h3, ?_⟩
  rcases h4 with h4 | ⟨q, -, E, ce, L, ⟨h', hx, -⟩, -⟩
  · exact h4
  · exact hx.elim
theorem run_end2 {mc' ms' : Nat} {Pr2 : Option Value → Hp → Prop} {a : Array Value} {H : Heap} {locs : List Loc} {la : Array Slot} {rest st0 : List Value} (hL : ∀ q ∈ locs, gn g ≤ q.base) (hM : LM g nL ls la)
    (hr : va_Run p g.1 e R s m args below meth c H locs kc ks mc' ms' (F0 m pc la st0) (rest.map (tr g)) (Qr g Pr2 a) (fun q => gn g ≤ q))
    (kk : ∀ v h', Pr2 v h' → VV g p e R s m args below meth c nL Q (kc + mc') (ks + ms') (pc + 3) ls (v.toList ++ rest) h') : W p g.1 e R s m args below meth c H locs kc ks Q (F0 m pc la st0) := by
  intro T hT Y
  obtain ⟨v, st₀, t, T', L, h0, Y', hL', e1, e2, ⟨v', h', hv, hp, hw⟩, stp⟩ := hr T hT Y
  cases hv
  obtain ⟨t2, a1, b1⟩ := kk v' h' hp T'.heap (locs ++ L) la (by rw [e1]; exact hw) (fun q hq => by
    rcases List.mem_append.mp hq with q1 | q1
    · exact hL _ q1
    · exact hL' _ q1) hM T' rfl Y'
  refine ⟨t2, stp t2 ?_, b1⟩
  have : ({ F0 m pc la st0 with pc := (F0 m pc la st0).pc + 3, stack := (v'.map (tr g)).toList ++ rest.map (tr g) } : JFrame) = F0 m (pc + 3) la ((v'.toList ++ rest).map (tr g)) := by
    cases v' <;> simp
  rw [this]
  exact a1
/-- a constructor -/
theorem r_callI (X : CX g p s m args meth c cc nL y ret xt) {y2 : MethodName} {c2 : ByteArray} {n2 na d idx b mc' ms' : Nat} {As : List Value} {Pr2 : Option Value → Hp → Prop} {st0 : List Value}
    (dd : decode cc pc = .ok (.invokespecial idx, 3)) (hk : MK y2 c2 n2 none na) (hw : Cond.methodLink y.cls idx y2 ∈ lwG ∧ Cond.instanceMethod y2 ∈ lwG) (hi : y2.name = "<init>")
    (hs : st0 = As.reverse ++ .ref b :: st) (hn : As.length = na) (hcat : (st.map fun v => v.category).sum ≤ 8) (hR : d + 1 ≤ R.frames ∧ 60 * (d + 1) + 200 ≤ R.locals) (hce : kc + mc' ≤ R.cells ∧ ks + ms' ≤ R.slots)
    (hM2 : CT g d y2 (wsC y2 c2 n2 none) (.ref b :: As) h mc' ms' Pr2 noT)
    (kk : ∀ v h', Pr2 v h' → VV g p e R s m args below meth c nL Q (kc + mc') (ks + ms') (pc + 3) ls (v.toList ++ st) h') : VV g p e R s m args below meth c nL Q kc ks pc ls st0 h := by
  subst hs
  intro H locs la hW hL hM
  refine run_end2 hL hM (a := (Value.ref (gn g + b) :: As.map (tr g)).toArray) (va_runI (bytes := c2) (maxL := n2) (n := na) (index := idx) (As := As.map (tr g)) ⟨X.ex, X.by, X.ml, X.ow, X.ts⟩ hM2.met ⟨hk.B X.ts hw.1 hR.1 hR.2, hi, X.ts _ hw.2⟩ ⟨Pin_blind, fun U hU hWm => ⟨rfl, by rw [hU]; exact hW, GK.moved hWm X.gk⟩⟩ rfl (by rw [List.length_map]; exact hn) hM.1 ?_ ?_ dd hce) kk
  · show List.map (tr g) (As.reverse ++ .ref b :: st) = _
    rw [List.map_append, List.map_reverse]
    rfl
  · show 2 * 0 + _ ≤ 8
    rw [tr_cats]
    omega
/-- a constructor of a nest mate -/
theorem r_callIN (X : CX g p s m args meth c cc nL y ret xt) {y2 : MethodName} {c2 : ByteArray} {n2 na d idx b mc' ms' : Nat} {As : List Value} {Pr2 : Option Value → Hp → Prop} {st0 : List Value} {host : String}
    (dd : decode cc pc = .ok (.invokespecial idx, 3)) (hk : MK y2 c2 n2 none na) (hw : Cond.instanceMethod y2 ∈ lwG) (hz : va_Nw (.methodLinkNest y.cls idx y2 host) s) (hi : y2.name = "<init>")
    (hs : st0 = As.reverse ++ .ref b :: st) (hn : As.length = na) (hcat : (st.map fun v => v.category).sum ≤ 8) (hR : d + 1 ≤ R.frames ∧ 60 * (d + 1) + 200 ≤ R.locals) (hce : kc + mc' ≤ R.cells ∧ ks + ms' ≤ R.slots)
    (hM2 : CT g d y2 (wsC y2 c2 n2 none) (.ref b :: As) h mc' ms' Pr2 noT)
    (kk : ∀ v h', Pr2 v h' → VV g p e R s m args below meth c nL Q (kc + mc') (ks + ms') (pc + 3) ls (v.toList ++ st) h') : VV g p e R s m args below meth c nL Q kc ks pc ls st0 h := by
  subst hs
  intro H locs la hW hL hM
  refine run_end2 hL hM (a := (Value.ref (gn g + b) :: As.map (tr g)).toArray) (va_runIN (host := host) (bytes := c2) (maxL := n2) (n := na) (index := idx) (As := As.map (tr g)) ⟨X.ex, X.by, X.ml, X.ow, X.ts⟩ hM2.met ⟨va_cnB na X.ts (wsC_good hk.1) rfl rfl rfl hz (X.ts _ hk.2.1) hk.2.2.1 ⟨hR.1, by show 8 + (n2 + 11) + (60 * d + 200) ≤ _; have := hk.2.2.2; omega⟩, hi, X.ts _ hw⟩ ⟨Pin_blind, fun U hU hWm => ⟨rfl, by rw [hU]; exact hW, GK.moved hWm X.gk⟩⟩ rfl (by rw [List.length_map]; exact hn) hM.1 ?_ ?_ dd hce) kk
  · show List.map (tr g) (As.reverse ++ .ref b :: st) = _
    rw [List.map_append, List.map_reverse]
    rfl
  · show 2 * 0 + _ ≤ 8
    rw [tr_cats]
    omega
/-- a static method of a nest mate -/
theorem r_callSN (X : CX g p s m args meth c cc nL y ret xt) {y2 : MethodName} {c2 : ByteArray} {n2 na d idx mc' ms' : Nat} {r2 : Option FieldType} {As : List Value} {Pr2 : Option Value → Hp → Prop} {st0 : List Value} {host : String}
    (dd : decode cc pc = .ok (.invokestatic idx, 3)) (hk : MK y2 c2 n2 r2 na) (hw : Cond.static y2 ∈ lwG) (hz : va_Nw (.methodLinkNest y.cls idx y2 host) s)
    (hs : st0 = As.reverse ++ st) (hn : As.length = na) (hcat : (st.map fun v => v.category).sum ≤ 8) (hR : d + 1 ≤ R.frames ∧ 60 * (d + 1) + 200 ≤ R.locals) (hce : kc + mc' ≤ R.cells ∧ ks + ms' ≤ R.slots)
    (hM2 : CT g d y2 (wsC y2 c2 n2 r2) As h mc' ms' Pr2 noT)
    (kk : ∀ v h', Pr2 v h' → VV g p e R s m args below meth c nL Q (kc + mc') (ks + ms') (pc + 3) ls (v.toList ++ st) h') : VV g p e R s m args below meth c nL Q kc ks pc ls st0 h := by
  subst hs
  intro H locs la hW hL hM
  refine run_end2 hL hM (a := (As.map (tr g)).toArray) (va_runSN (host := host) (bytes := c2) (maxL := n2) (ret := r2) (n := na) (index := idx) (As := As.map (tr g)) ⟨X.ex, X.by, X.ml, X.ow, X.ts⟩ hM2.met ⟨va_cnB na X.ts (wsC_good hk.1) rfl rfl rfl hz (X.ts _ hk.2.1) hk.2.2.1 ⟨hR.1, by show 8 + (n2 + 11) + (60 * d + 200) ≤ _; have := hk.2.2.2; omega⟩, X.ts _ hw, trivial⟩ ⟨Pin_blind, fun U hU hWm => ⟨rfl, by rw [hU]; exact hW, GK.moved hWm X.gk⟩⟩ rfl (by rw [List.length_map]; exact hn) hM.1 ?_ ?_ dd hce) kk
  · show List.map (tr g) (As.reverse ++ st) = _
    rw [List.map_append, List.map_reverse]
  · show 2 * 0 + _ ≤ 8
    rw [tr_cats]
    omega
end RC
