/-! A THROW whose class's own <init>(String) calls its super by any pool index j (traces off) -/
def tw_head (X : String) (names : List String) (j : Nat) (bt : ByteArray) : List Cond := match names with
  | [] => Bundle.passSAtoms X Bundle.tN j bt
  | Y :: r => Bundle.passSAtoms X Y j bt ++ Bundle.chainSAtoms Y r
/-- the words behind the chain's, as the library's own list has them -/
def tw_rest (own : String) (ic : Nat) (X : String) : List Cond := (Bundle.ownAtoms own ic X []).drop (Bundle.throwableAtoms ++ Bundle.throwableSAtoms ++ Bundle.chainSAtoms X []).length
def tw_own (own : String) (ic : Nat) (X : String) (names : List String) (j : Nat) (bt : ByteArray) : List Cond := Bundle.throwableAtoms ++ (Bundle.throwableSAtoms ++ (tw_head X names j bt ++ tw_rest own ic X))
/-- what such an <init>'s bytes are -/
def tw_six (j : Nat) (bt : ByteArray) : Prop := decode bt 0 = .ok (.aload_n 0, 1) ∧ decode bt 1 = .ok (.aload_n 1, 1) ∧ decode bt 2 = .ok (.invokespecial j, 3) ∧ decode bt 5 = .ok (.return_, 1)
/-- one link of the chain: X's <init>(String) hands the message up to Y's -/
theorem tw_link {args : Array Value} {s : State} {pl : Platform} (hpl : pl.magicAccessors = ({} : Platform).magicAccessors) {X Y : String} {j : Nat} {bt : ByteArray} (h6 : tw_six j bt) (hX : Bundle.fit X = true) (hY : Y ≠ "java/lang/invoke/MethodHandle" ∧ Y ≠ "java/lang/invoke/VarHandle")
    (h : ∀ w ∈ Bundle.passSAtoms X Y j bt, w.before args s = true) {my : MethodId} (hy : s.methodNamed? (Bundle.initS Y) = some my) : ∃ P : PassC, P.LinksS pl s ∧ s.methodNamed? (Bundle.initS X) = some P.m ∧ P.sup = my := by
  obtain ⟨P, q1, q2, q3⟩ := PassC.ofS_atoms (args := args) hpl (Bundle.fit_spec hX).1 hY h6.1 h6.2.1 h6.2.2.1 h6.2.2.2 h
  exact ⟨P, q1, q2, Option.some.inj (q3.symm.trans hy)⟩
theorem tw_chain {args : Array Value} {s : State} {pl : Platform} (hpl : pl.magicAccessors = ({} : Platform).magicAccessors) {top : MethodId} (htop : s.methodNamed? (Bundle.initS Bundle.tN) = some top) (names : List String) (X : String) {j : Nat} {bt : ByteArray} (h6 : tw_six j bt) (hX : Bundle.fit X = true) (hn : ∀ n ∈ names, Bundle.fit n = true) (h : ∀ c ∈ tw_head X names j bt, c.before args s = true) :
      ∃ (P1 : PassC) (Ps : List PassC), Ps.length = names.length ∧ P1.LinksS pl s ∧ (∀ P, P ∈ Ps → P.LinksS pl s) ∧ s.methodNamed? (Bundle.initS X) = some P1.m ∧
        P1.sup = firstOf top (Ps.map (·.toPassT)) ∧ PassesOn top (Ps.map (·.toPassT)) := by
  rcases names with - | ⟨Y, r⟩
  · obtain ⟨P, a1, a2, a3⟩ := tw_link hpl h6 hX (by decide) h htop
    exact ⟨P, [], rfl, a1, (fun _ q => nomatch q), a2, a3, trivial⟩
  · obtain ⟨hY, hr⟩ := List.forall_mem_cons.mp hn
    obtain ⟨P', Ps, b0, b1, b2, b3, b4, b5⟩ := Bundle.chainS (args := args) hpl htop r Y hY hr (fun w hw => h w (List.mem_append_right _ hw))
    obtain ⟨P, a1, a2, a3⟩ := tw_link hpl h6 hX (Bundle.fit_spec hY).2 (fun w hw => h w (List.mem_append_left _ hw)) b3
    exact ⟨P, P' :: Ps, congrArg (· + 1) b0, a1, List.forall_mem_cons.mpr ⟨b1, b2⟩, a2, a3, b4, b5⟩
theorem tw_in_rest {own : String} {ic : Nat} {X : String} {names : List String} {j : Nat} {bt : ByteArray} {w : Cond} (h : w ∈ tw_rest own ic X) : w ∈ tw_own own ic X names j bt := List.mem_append_right _ (List.mem_append_right _ (List.mem_append_right _ h))
theorem tw_in_head {own : String} {ic : Nat} {X : String} {names : List String} {j : Nat} {bt : ByteArray} {w : Cond} (h : w ∈ tw_head X names j bt) : w ∈ tw_own own ic X names j bt := List.mem_append_right _ (List.mem_append_right _ (List.mem_append_left _ h))
theorem tw_h1 {X : String} {names : List String} {j : Nat} {bt : ByteArray} : Cond.instanceMethod (Bundle.initS X) ∈ tw_head X names j bt := by
  cases names <;> simp [tw_head, Bundle.passSAtoms]
theorem tw_h2 {X : String} {names : List String} {j : Nat} {bt : ByteArray} : Cond.code (Bundle.initS X) bt 2 none ∈ tw_head X names j bt := by
  cases names <;> simp [tw_head, Bundle.passSAtoms]
def tw_at (own : String) (ic : Nat) (X : String) (names : List String) (j : Nat) (bt : ByteArray) : List Cond := (tw_own own ic X names j bt).filter vx_no
section TWM
variable {p : Program} {l : Launch} {e : Env} {R : Room} {s : State} {m : MethodId} {args : Array Value} {below : List Frame} {meth : Method} {c : Code} {V : State} {locs : List Loc} {cells slots : Nat}
/-- what the words behind the chain's say, each by itself -/
theorem tw_says {own : String} {ic : Nat} {X : String} {names : List String} {j : Nat} {bt : ByteArray} (h : ∀ w ∈ tw_own own ic X names j bt, w.before args s = true) :
    ((Cond.methodLink own ic (Bundle.initS X)).before args s = true ∧ (Cond.instantiable X 6).before args s = true) ∧
    ((Cond.selects X Bundle.tFill0 Bundle.tFill0).before args s = true ∧ (Cond.selects X Bundle.tFill Bundle.tFill).before args s = true) ∧
    (∀ f ∈ [("cause", "Ljava/lang/Throwable;"), ("stackTrace", Bundle.steD), ("suppressedExceptions", Bundle.listD), ("detailMessage", "Ljava/lang/String;"), ("backtrace", "Ljava/lang/Object;")], (Cond.lays X Bundle.tN f.1 f.2).before args s = true) ∧
    (∀ f ∈ [("UNASSIGNED_STACK", Bundle.steD), ("SUPPRESSED_SENTINEL", Bundle.listD)], (Cond.isRef (.static Bundle.tN f.1 f.2)).before args s = true) ∧
    (Cond.fieldLink Bundle.tN 198 Bundle.tN "backtrace" "Ljava/lang/Object;").before args s = true ∧ (Cond.lays Bundle.tN Bundle.tN "backtrace" "Ljava/lang/Object;").before args s = true := by
  have hr : ∀ w ∈ tw_rest own ic X, w.before args s = true := fun w hw => h w (tw_in_rest hw)
  unfold tw_rest Bundle.ownAtoms at hr
  rw [List.drop_left] at hr
  refine ⟨⟨hr _ (by simp), hr _ (by simp)⟩, ⟨hr _ (by simp), hr _ (by simp)⟩, fun f hf => ?_, fun f hf => ?_, hr _ (by simp), hr _ (by simp)⟩
  · simp only [List.mem_cons, List.not_mem_nil, or_false] at hf
    rcases hf with e1 | e1 | e1 | e1 | e1 <;> rw [e1] <;> exact hr _ (by simp)
  · simp only [List.mem_cons, List.not_mem_nil, or_false] at hf
    rcases hf with e1 | e1 <;> rw [e1] <;> exact hr _ (by simp)
/-- objects of class number n bear the field f: its place has its type, and a class declares it there -/
def tw_has (s : State) (n : Nat) (k : Class) (f : Field) : Prop := k.instanceTypes[f.slot]? = some f.type ∧ ∃ d, Jmm.declares? s.vm f.slot (n + 1) n = some d ∧ d.2.name = f.name
theorem tw_apart {n : Nat} {k : Class} {f f' : Field} (h : tw_has s n k f) (h' : tw_has s n k f') (hn : f.name ≠ f'.name) : f'.slot ≠ f.slot :=
  h.2.elim fun _ q => h'.2.elim fun _ q' => (Cond.laysApart q.1 q'.1 q.2 q'.2 hn).symm
/-- which method an object of X answers by, where the words say it -/
theorem tw_sel (hA : l.admits e) {X : String} {n : Nat} {y : MethodName} {my : MethodId} (hX : s.vm.findClass X = some n) (hy : s.methodNamed? y = some my) (hh : y.cls ≠ "java/lang/invoke/MethodHandle" ∧ y.cls ≠ "java/lang/invoke/VarHandle")
    (hw : (Cond.selects X y y).before args s = true) : selectMethod e.platform s.vm n my = .method my := by
  obtain ⟨n1, r, m1, hn1, hr, hm1, hs, -⟩ := Cond.selects_spec hw
  have e1 : n1 = n := Option.some.inj (hn1.symm.trans hX)
  have e2 : r = my := Option.some.inj (hr.symm.trans (State.methodFound?_of_named hy hh))
  have e3 : m1 = my := Option.some.inj (hm1.symm.trans hy)
  rw [e1, e2, e3] at hs
  exact (Launch.admits_selectMethod hA _ _ _).trans hs
/-- a cell of statics is at V as it was at s, where nothing of such a cell was written -/
theorem tw_stat (X : Stand p l e R s m args below meth c V locs cells slots) (hlocs : ∀ x ∈ locs, ∀ cell, s.heap[x.base]? = some cell → cell.vm.isStatics = false) {q : Addr} {c0 : Cell} (h0 : s.heap[q]? = some c0) (hi : c0.vm.isStatics = true) :
    ∃ c1 : Cell, V.heap[q]? = some c1 ∧ c1.vm ≠ .unknown ∧ ∀ i : Nat, c1.slots[i]? = c0.slots[i]? := by
  obtain ⟨c1, h1, hv, -, hk⟩ := X.same.2.2.2.2.2 q c0 h0
  have hvm : c1.vm = c0.vm := by rw [hv]
  refine ⟨c1, h1, fun hu => ?_, fun i => hk i (fun hm => ?_)⟩
  · rw [hvm] at hu
    rw [hu] at hi
    exact absurd hi (by decide)
  · exact absurd ((hlocs _ hm c0 h0).symm.trans hi) (by decide)
/-- the place of 'backtrace' is still null when the trace would be filled in -/
theorem tw_back {T : ThrowableC} {Z0 : Init0T} (hpl : e.platform.magicAccessors = ({} : Platform).magicAccessors) (L : T.Links e.platform s) (Y : Bundle.Ties T Z0 s) {X : String} {n : Nat} {k : Class} (hX : s.vm.findClass X = some n) (hk : s.vm.classes[n]? = some k)
    (w1 : (Cond.fieldLink Bundle.tN 198 Bundle.tN "backtrace" "Ljava/lang/Object;").before args s = true) (w2 : (Cond.lays Bundle.tN Bundle.tN "backtrace" "Ljava/lang/Object;").before args s = true) (w3 : (Cond.lays X Bundle.tN "backtrace" "Ljava/lang/Object;").before args s = true)
    (hC : tw_has s n k T.fCause) (hS : tw_has s n k T.fStack) (hP : tw_has s n k T.fSupp) (a : Addr) (u0 sen : RefV) (t : ThreadId) :
    SkipFacts T e.platform s (fun u => u) u0 ((preparedCellV T.toThrowableT (freshCell n k) a u0 sen).withEntry t) := by
  obtain ⟨ci, i, f, l1, l2, l3, l4, -, hnm, hty, hff⟩ := Cond.ownField (t := .object "java/lang/Object") Y.found L.cls (by decide +kernel) w1 w2 e.platform hpl
  have hB : tw_has s n k f := Cond.laysAt hX hk hff w3
  have n1 := tw_apart hB hC (by rw [hnm, Y.causeName]; decide)
  have n2 := tw_apart hB hS (by rw [hnm, Y.stackName]; decide)
  have n3 := tw_apart hB hP (by rw [hnm, Y.suppName]; decide)
  have h0 : (freshCell n k).slots[f.slot]? = some Value.null := (fresh_default hB.1).trans (by rw [hty]; rfl)
  refine ⟨⟨ci, i, f⟩, ⟨l1, l2, l3, l4⟩, ?_, fun _ _ => rfl⟩
  show ((((freshCell n k).slots.setIfInBounds _ _).setIfInBounds _ _).setIfInBounds _ _)[f.slot]? = _
  rw [Array.getElem?_setIfInBounds_ne n3, Array.getElem?_setIfInBounds_ne n2, Array.getElem?_setIfInBounds_ne n1]
  exact h0
set_option maxHeartbeats 1000000 in
/-- the constructor alone: from its call up to the instruction behind it; what it writes lies in the new cell -/
theorem tw_made (X : Stand p l e R s m args below meth c V locs cells slots) (hexec : p.tables.exec = Jvm.exec) (htr : e.platform.stackTraces = false) {own cls : String} {names : List String} {ic j : Nat} {bt : ByteArray} (h6 : tw_six j bt)
    (hown : s.vm.findClass own = some m.cls) (hfits : ∀ n ∈ cls :: names, Bundle.fit n = true) (h : ∀ w ∈ tw_own own ic cls names j bt, w.before args s = true)
    (hlocs : ∀ x ∈ locs, ∀ cell, s.heap[x.base]? = some cell → cell.vm.isStatics = false) {a : Addr} {n : ClassId} {k : Class} (hn : s.vm.findClass cls = some n) (hk : s.vm.classes[n]? = some k) (ha : V.heap[a]? = some (freshCell n k)) (hnew : s.heap.size ≤ a)
    {g : JFrame} (hg : g.method = m) (hsz : g.locals.size = c.maxLocals) {b : Addr} {st : List Value} (hst : g.stack = .ref b :: .ref a :: st) (hd : decode c.code g.pc = .ok (.invokespecial ic, 3))
    (hfr : names.length + 3 < R.frames) (hlo : 2 * g.monitorRoom + (st.map fun v => v.category).sum + (13 * (names.length + 1) + 42) ≤ R.locals) :
    ∃ (U : State) (K : List Loc), Stand p l e R s m args below meth c U (locs ++ K) cells slots ∧ (∀ y ∈ K, y.base = a) ∧ (∃ ce, U.heap[a]? = some ce ∧ ce.vm = .none ∧ ce.cls = n) ∧
      ∀ t, Steps p.tables e below (U.setTop { g with stack := st, pc := g.pc + 3 }) t → Steps p.tables e below (V.setTop g) t := by
  have hpl : e.platform.magicAccessors = ({} : Platform).magicAccessors := by rw [X.admits.platform]
  have hcls := hfits cls List.mem_cons_self
  obtain ⟨⟨wM, wI⟩, ⟨wF0, wF⟩, wL, wS, w198, wB⟩ := tw_says h
  obtain ⟨T, Z0, L, -, Y⟩ := ThrowableC.of_atoms (args := args) (s := s) (pl := e.platform) (by rw [X.admits.platform]) (by rw [X.admits.platform]) hpl (fun w hw => h w (List.mem_append_left _ hw))
  obtain ⟨Z, M, LZ, LM, hZ⟩ := Init0T.ofS_atoms (args := args) hpl L Y (fun w hw => h w (List.mem_append_right _ (List.mem_append_left _ hw)))
  obtain ⟨P, Ps, hlen, LP, LPs, hP, hsup, hpass⟩ := tw_chain (args := args) hpl hZ names cls h6 hcls (fun y hy => hfits y (List.mem_cons_of_mem _ hy)) (fun w hw => h w (tw_in_head hw))
  have hord : k.kind = .ordinary := by
    obtain ⟨n1, k1, q1, q2, q3, -⟩ := Cond.instantiable_spec wI
    rw [← Option.some.inj (hn.symm.trans q1)] at q2
    rw [Option.some.inj (hk.symm.trans q2)]
    exact q3
  obtain ⟨iM, hfM⟩ := Y.msg
  have hC : tw_has s n k T.fCause := Cond.laysAt hn hk Y.cause (wL _ (List.mem_cons_self))
  have hS : tw_has s n k T.fStack := Cond.laysAt hn hk Y.stack (wL ("stackTrace", Bundle.steD) (by simp))
  have hQ : tw_has s n k T.fSupp := Cond.laysAt hn hk Y.supp (wL ("suppressedExceptions", Bundle.listD) (by simp))
  have hM : tw_has s n k T.fMsg := Cond.laysAt hn hk hfM (wL ("detailMessage", "Ljava/lang/String;") (by simp))
  obtain ⟨c0, hc0, hi0⟩ := Y.statics
  obtain ⟨u, hu⟩ := Cond.staticRefV Y.unassigned L.unassignedStatic L.statics hc0 hi0 (wS _ (List.mem_cons_self))
  obtain ⟨z, hz⟩ := Cond.staticRefV Y.sentinel L.sentinelStatic L.statics hc0 hi0 (wS ("SUPPRESSED_SENTINEL", Bundle.listD) (by simp))
  obtain ⟨c1, hc1, hkn, hsl⟩ := tw_stat X hlocs hc0 hi0
  have hlt : T.aS < a := Nat.lt_of_lt_of_le (Array.getElem?_eq_some_iff.mp hc0).1 hnew
  obtain ⟨tm, _, _, _, v1, htm, -, -, -, -, -, -, -, hW1, go1⟩ := Steps.initColdS (tb := p.tables) (e := e) (below := below) (s := s) (U := V) X.here hexec X.warmed hpl hown (t := Bundle.initS cls) rfl rfl (Bundle.fit_spec hcls).2 wM
    (h _ (tw_in_head tw_h1)) (bytes := bt) (maxL := 2) (h _ (tw_in_head tw_h2)) hg hst hd
  have etm : tm = P.m := Option.some.inj (htm.symm.trans hP)
  obtain ⟨v2, X2, go2⟩ := (X.noted hW1).ctorMessageOffV hexec (g := { g with stack := st }) hg hsz T L Z LZ M LM (P :: Ps) (List.forall_mem_cons.mpr ⟨LP, LPs⟩) ⟨hsup, hpass⟩
    (u0 := u) (sen := z) (self := a) (msg := .ref b) rfl (cell := freshCell n k) (cellS := c1) ha (fun _ q => nomatch q) (fun q => nomatch q) rfl rfl (tw_sel X.admits hn Y.fill0 (by decide) wF0) (tw_sel X.admits hn Y.fill (by decide) wF)
    hc1 (Nat.ne_of_lt hlt) hkn ((hsl _).trans hu) ((hsl _).trans hz) (Takes.of_laid hk hord hC.1 (by rw [Y.causeType]; rfl)) (Takes.of_laid hk hord hS.1 (by rw [Y.stackType]; exact fits_refV_array _ u))
    (Takes.of_laid hk hord hQ.1 (by rw [Y.suppType]; exact fits_refV_object _ z)) (Takes.of_laid hk hord hM.1 (by rw [Y.msgType]; rfl)) Y.objLocals
    (tw_back hpl L Y hn hk w198 wB (wL ("backtrace", "Ljava/lang/Object;") (by simp)) hC hS hQ a u z _) htr [] hd (by rw [List.length_cons, hlen]; omega) (by rw [List.length_cons, hlen]; exact hlo)
  have hsz2 : a < ((V.setVm v1).setVm v2).heap.size := (Array.getElem?_eq_some_iff.mp ha).1
  refine ⟨_, _, X2, fun y hy => ?_, ⟨_, heapAt_setCell_self _ hsz2, rfl, rfl⟩, fun t ht => go1 t (fun acts => ?_)⟩
  · simp only [List.mem_cons, List.not_mem_nil, or_false] at hy
    rcases hy with e1 | e1 | e1 | e1 | e1 <;> rw [e1]
  · rw [doInvoke_state, etm]
    exact go2 t ht
/-- the constructor, and the throw behind it -/
theorem tw_ctor (X : Stand p l e R s m args below meth c V locs cells slots) (hexec : p.tables.exec = Jvm.exec) (htr : e.platform.stackTraces = false) {own cls : String} {names : List String} {ic j : Nat} {bt : ByteArray} (h6 : tw_six j bt)
    (hown : s.vm.findClass own = some m.cls) (hfits : ∀ n ∈ cls :: names, Bundle.fit n = true) (h : ∀ w ∈ tw_own own ic cls names j bt, w.before args s = true)
    (hlocs : ∀ x ∈ locs, ∀ cell, s.heap[x.base]? = some cell → cell.vm.isStatics = false) {a : Addr} {n : ClassId} {k : Class} (hn : s.vm.findClass cls = some n) (hk : s.vm.classes[n]? = some k) (ha : V.heap[a]? = some (freshCell n k)) (hnew : s.heap.size ≤ a)
    {g : JFrame} (hg : g.method = m) (hsz : g.locals.size = c.maxLocals) (hlk : g.locked = none) (hen : g.entered = []) {b : Addr} {rest : List Value} (hst : g.stack = .ref b :: .ref a :: .ref a :: rest) (hd : decode c.code g.pc = .ok (.invokespecial ic, 3))
    (ht : decode c.code (g.pc + 3) = .ok (.athrow, 1)) (hout : ∀ x ∈ c.exceptionTable.toList, covers x (g.pc + 3) = false) (hlocks : meth.locks = false)
    (hfr : names.length + 3 < R.frames) (hlo : 2 * g.monitorRoom + ((Value.ref a :: rest).map fun v => v.category).sum + (13 * (names.length + 1) + 42) ≤ R.locals) :
    ∃ U : State, (Steps p.tables e below (V.setTop g) U ∧ U.status = .running ∧ Ended U below (.threw a)) ∧ (s.WarmedH U.vm ∧ s.sameButNew ({ U with vm := s.vm } : State) locs cells slots) ∧
      ∃ ce, U.heap[a]? = some ce ∧ ce.vm = .none ∧ s.vm.findClass cls = some ce.cls := by
  obtain ⟨U, K, X2, hK, ⟨ce, h1, h2, h3⟩, go⟩ := tw_made X hexec htr h6 hown hfits h hlocs hn hk ha hnew hg hsz hst hd hfr hlo
  obtain ⟨go2, hrun, hend, hW, hsame⟩ := X2.athrowLeaves hexec (g := { g with stack := .ref a :: rest, pc := g.pc + 3 }) hg hlk hen hout (a := a) (rest := rest) rfl ht hlocks
  refine ⟨_, ⟨go _ go2, hrun, hend⟩, ⟨hW, hsame.weaken (fun y hy hy' => (List.mem_append.mp hy).resolve_right (fun hm => ?_)) (Nat.le_refl _) (Nat.le_refl _)⟩, ce, h1, h2, by rw [h3]; exact hn⟩
  rw [hK y hm] at hy'
  exact Nat.not_lt.mpr hnew hy'
end TWM
section TW
variable {p : Program} {l : Launch} {e : Env} {R : Room} {s : State} {m : MethodId} {args : Array Value} {below : List Frame} {meth : Method} {c : Code} {H : Heap} {locs : List Loc} {cells slots : Nat} {Q : State → Prop}
variable {mc ms : Nat} {free : Addr → Prop} {a : Array Value} {ls : Array Slot} {rest : List Value}
variable {Qc : Array Value → State → Outcome → State → Prop} {XC : String → State → State → Prop}
theorem tw_throw {cc : ByteArray} {pc : Nat} (hexec : p.tables.exec = Jvm.exec) (hb : c.code = cc) (hl : l.stackTraces = false) {own cls text : String} {names : List String} {ik is ic mc ms sa j : Nat} {bt : ByteArray} (h6 : tw_six j bt) {A : Nat → Prop}
    (hown : s.vm.findClass own = some m.cls) (hcls : Bundle.fit cls = true) (hnames : ∀ n ∈ names, Bundle.fit n = true)
    (hk : (Cond.classLink own ik cls).before args s = true) (hini : (Cond.initialized cls).before args s = true) (hstr : vk_R own is text sa s) (hat : ∀ w ∈ tw_at own ic cls names j bt, w.before args s = true)
    (hgood : ∀ w ∈ Cond.classLink own ik cls :: Cond.initialized cls :: tw_at own ic cls names j bt, vx_ot w = true)
    (hU : vx_Zq Bundle.tN "UNASSIGNED_STACK" Bundle.steD A s s.heap) (hN : vx_Zq Bundle.tN "SUPPRESSED_SENTINEL" Bundle.listD A s s.heap) (hS : va_S A s.heap H locs) (hsize : ls.size = c.maxLocals)
    (d0 : decode cc pc = .ok (.new ik, 3)) (d3 : decode cc (pc + 3) = .ok (.dup, 1)) (d4 : decode cc (pc + 4) = .ok (.ldc is, 2)) (d6 : decode cc (pc + 6) = .ok (.invokespecial ic, 3)) (d9 : decode cc (pc + 9) = .ok (.athrow, 1))
    (hout : ∀ x ∈ c.exceptionTable.toList, covers x (pc + 9) = false)
    (hRframes : names.length + 3 < R.frames) (hRlocals : (rest.map fun v => v.category).sum + (13 * (names.length + 1) + 43) ≤ R.locals) (hRcells : cells + 1 ≤ R.cells) (hRslots : slots + 6 ≤ R.slots) (hlocks : meth.locks = false)
    (hx : ∀ t : State, s.vm.Alike t.vm → t.heap.size = H.size + 1 → (∀ q : Nat, q < H.size → t.heap[q]? = H[q]?) → XC cls s t)
    (hf : ∀ z ∈ locs, free z.base) (hc : cells + 1 ≤ mc) (hs : slots + 6 ≤ ms) :
    W p l e R s m args below meth c H locs cells slots (vx_MQ below Qc XC args s mc ms free) (F0 m pc ls rest) := by
  intro T hT X
  have htr : e.platform.stackTraces = false := (show e.platform.stackTraces = l.stackTraces by rw [X.admits.platform]).trans hl
  have Y := vx_rebase X (R' := { frames := R.frames, locals := R.locals, cells := 1, slots := 6 }) (Nat.le_refl _) (Nat.le_refl _) hRcells hRslots
  obtain ⟨s', hA⟩ : ∃ z, z = (T.setVm s.vm).setFrames (.invoking m args :: below) := ⟨_, rfl⟩
  rw [← hA] at Y
  have hvm : s'.vm = s.vm := by rw [hA]; rfl
  have hhp : s'.heap = H := by rw [hA]; exact hT
  have hW0 : s.WarmedH s'.vm := by rw [hvm]; exact State.WarmedH.refl s
  have hat' : ∀ w ∈ tw_at own ic cls names j bt, w.before args s' = true := fun w hw => vx_ot_at hW0 hvm.symm (hgood w (List.mem_cons_of_mem _ (List.mem_cons_of_mem _ hw))) (hat w hw)
  have hk' : (Cond.classLink own ik cls).before args s' = true := vx_ot_at hW0 hvm.symm (hgood _ List.mem_cons_self) hk
  have hini' : (Cond.initialized cls).before args s' = true := vx_ot_at hW0 hvm.symm (hgood _ (List.mem_cons_of_mem _ List.mem_cons_self)) hini
  have hU' : vx_Zq Bundle.tN "UNASSIGNED_STACK" Bundle.steD A s' s'.heap := by rw [hhp]; exact vx_Zq.moved hW0.alike (hU.kept hS.2.1)
  have hN' : vx_Zq Bundle.tN "SUPPRESSED_SENTINEL" Bundle.listD A s' s'.heap := by rw [hhp]; exact vx_Zq.moved hW0.alike (hN.kept hS.2.1)
  have h : ∀ w ∈ tw_own own ic cls names j bt, w.before args s' = true := vx_own hat' (vx_isRefq hU'.1) (vx_isRefq hN'.1) hU'.2.word hN'.2.word
  have hown' : s'.vm.findClass own = some m.cls := by rw [hvm]; exact hown
  have hins : (Cond.instantiable cls 6).before args s' = true := h _ (tw_in_rest (by unfold tw_rest Bundle.ownAtoms; rw [List.drop_left]; simp))
  obtain ⟨vm₁, cX, kX, hfX, hkX, -, -, X₁, st1⟩ := Y.newCold hexec (own := own) (C := cls) (index := ik) (n := 6) hown' hk' hins hini'
    (g := F0 m pc ls rest) rfl (by rw [hb]; exact d0) (Nat.le_refl _) (Nat.le_refl _)
  generalize hT1 : (T.setVm vm₁).pushCell { cls := cX, slots := kX.instanceTypes.map defaultValue, vm := .none } = T1 at X₁ st1
  have hcat : (Value.ref T.heap.size).category = 1 := rfl
  have hcellA : T1.heap[T.heap.size]? = some (freshCell cX kX) := by rw [← hT1]; exact State.heap_pushCell_size _ _
  have d3' : decode c.code (pc + 3) = .ok (.dup, 1) := by rw [hb]; exact d3
  have d4' : decode c.code (pc + 4) = .ok (.ldc is, 2) := by rw [hb]; exact d4
  have hstr' : vk_R own is text sa s' := vk_R.warm hW0 hstr
  obtain ⟨U, ⟨hsteps, hrun, hend⟩, ⟨hW, hsame⟩, ce, hce, hO, hO2⟩ := tw_ctor X₁ hexec htr h6 (own := own) (cls := cls) (names := names) (ic := ic) hown' (List.forall_mem_cons.mpr ⟨hcls, hnames⟩) h (fun x hx => nomatch hx) hfX hkX hcellA (by rw [hhp, hT]; exact Nat.le_refl _)
    (g := { method := m, pc := pc + 6, locals := ls, stack := .ref sa :: .ref T.heap.size :: .ref T.heap.size :: rest, locked := none }) rfl hsize rfl rfl (rest := rest) rfl
    (by rw [hb]; exact d6) (by rw [hb]; exact d9) hout hlocks hRframes (by simp only [List.map_cons, List.sum_cons, hcat]; omega)
  obtain ⟨f1, f2⟩ := vx_frame hsame
  rw [hhp] at f1 f2
  have fsz : U.heap.size = H.size + 1 := by
    have u1 : U.heap.size ≤ s'.heap.size + (0 + 1) := hsame.2.2.1
    have u2 := (Array.getElem?_eq_some_iff.mp hce).1
    rw [hhp] at u1
    rw [hT] at u2
    omega
  have hWs : s.WarmedH U.vm := State.WarmedH.trans hW0 hW
  have hcl : s.vm.findClass cls = some ce.cls := by
    have h9 := hO2
    rw [hvm] at h9
    exact h9
  have hall : s.sameButNew ({ U with vm := s.vm } : State) locs mc ms := by
    subst hA
    obtain ⟨e1, e2⟩ := hsame
    rw [State.setFrames_setFrames] at e1
    have h2 : (T.setVm s.vm).sameButNew ({ U with vm := s.vm } : State) [] (0 + 1) (0 + 6) := ⟨e1, e2⟩
    have h3 := X.same.trans h2
    rw [List.append_nil] at h3
    exact h3.mono hc hs
  refine ⟨U, ?_, .threw T.heap.size, hrun, hend, Or.inr ⟨T.heap.size, rfl, cls, ce, locs, hx U hWs.alike fsz (fun q hq => f2 q hq (fun z hz => nomatch hz)), hce, hO, hcl, hWs, hall, hf⟩⟩
  refine st1 _ ?_
  show Steps p.tables e below (T1.setTop { method := m, pc := pc + 3, locals := ls, stack := .ref T.heap.size :: rest, locked := none }) _
  jvm_step X₁.here [X₁.here.top, hexec, d3', Value.category]
  exact X₁.ldcString hexec (own := own) (text := text) (index := is) (a := sa) hown' hstr'.1 hstr'.2
    (g := { method := m, pc := pc + 4, locals := ls, stack := .ref T.heap.size :: .ref T.heap.size :: rest, locked := none }) rfl d4' _ hsteps
theorem tw_throwW {cc : ByteArray} {pc : Nat} (hexec : p.tables.exec = Jvm.exec) (hb : c.code = cc) (hl : l.stackTraces = false) {own cls text : String} {names : List String} {ik is ic mc ms sa j : Nat} {bt : ByteArray} (h6 : tw_six j bt) {A : Nat → Prop}
    (hown : s.vm.findClass own = some m.cls) (hcls : Bundle.fit cls = true) (hnames : ∀ n ∈ names, Bundle.fit n = true)
    (hk : (Cond.classLink own ik cls).before args s = true) (hini : (Cond.initialized cls).before args s = true) (hstr : vk_R own is text sa s) (hat : ∀ w ∈ tw_at own ic cls names j bt, w.before args s = true)
    (hgood : ∀ w ∈ Cond.classLink own ik cls :: Cond.initialized cls :: tw_at own ic cls names j bt, vx_ot w = true)
    (hU : vx_Zq Bundle.tN "UNASSIGNED_STACK" Bundle.steD A s s.heap) (hN : vx_Zq Bundle.tN "SUPPRESSED_SENTINEL" Bundle.listD A s s.heap) (hS : va_S A s.heap H locs) (hsize : ls.size = c.maxLocals)
    (d0 : decode cc pc = .ok (.new ik, 3)) (d3 : decode cc (pc + 3) = .ok (.dup, 1)) (d4 : decode cc (pc + 4) = .ok (.ldc_w is, 3)) (d7 : decode cc (pc + 7) = .ok (.invokespecial ic, 3)) (d10 : decode cc (pc + 10) = .ok (.athrow, 1))
    (hout : ∀ x ∈ c.exceptionTable.toList, covers x (pc + 10) = false)
    (hRframes : names.length + 3 < R.frames) (hRlocals : (rest.map fun v => v.category).sum + (13 * (names.length + 1) + 43) ≤ R.locals) (hRcells : cells + 1 ≤ R.cells) (hRslots : slots + 6 ≤ R.slots) (hlocks : meth.locks = false)
    (hx : ∀ t : State, s.vm.Alike t.vm → t.heap.size = H.size + 1 → (∀ q : Nat, q < H.size → t.heap[q]? = H[q]?) → XC cls s t)
    (hf : ∀ z ∈ locs, free z.base) (hc : cells + 1 ≤ mc) (hs : slots + 6 ≤ ms) :
    W p l e R s m args below meth c H locs cells slots (vx_MQ below Qc XC args s mc ms free) (F0 m pc ls rest) := by
  intro T hT X
  have htr : e.platform.stackTraces = false := (show e.platform.stackTraces = l.stackTraces by rw [X.admits.platform]).trans hl
  have Y := vx_rebase X (R' := { frames := R.frames, locals := R.locals, cells := 1, slots := 6 }) (Nat.le_refl _) (Nat.le_refl _) hRcells hRslots
  obtain ⟨s', hA⟩ : ∃ z, z = (T.setVm s.vm).setFrames (.invoking m args :: below) := ⟨_, rfl⟩
  rw [← hA] at Y
  have hvm : s'.vm = s.vm := by rw [hA]; rfl
  have hhp : s'.heap = H := by rw [hA]; exact hT
  have hW0 : s.WarmedH s'.vm := by rw [hvm]; exact State.WarmedH.refl s
  have hat' : ∀ w ∈ tw_at own ic cls names j bt, w.before args s' = true := fun w hw => vx_ot_at hW0 hvm.symm (hgood w (List.mem_cons_of_mem _ (List.mem_cons_of_mem _ hw))) (hat w hw)
  have hk' : (Cond.classLink own ik cls).before args s' = true := vx_ot_at hW0 hvm.symm (hgood _ List.mem_cons_self) hk
  have hini' : (Cond.initialized cls).before args s' = true := vx_ot_at hW0 hvm.symm (hgood _ (List.mem_cons_of_mem _ List.mem_cons_self)) hini
  have hU' : vx_Zq Bundle.tN "UNASSIGNED_STACK" Bundle.steD A s' s'.heap := by rw [hhp]; exact vx_Zq.moved hW0.alike (hU.kept hS.2.1)
  have hN' : vx_Zq Bundle.tN "SUPPRESSED_SENTINEL" Bundle.listD A s' s'.heap := by rw [hhp]; exact vx_Zq.moved hW0.alike (hN.kept hS.2.1)
  have h : ∀ w ∈ tw_own own ic cls names j bt, w.before args s' = true := vx_own hat' (vx_isRefq hU'.1) (vx_isRefq hN'.1) hU'.2.word hN'.2.word
  have hown' : s'.vm.findClass own = some m.cls := by rw [hvm]; exact hown
  have hins : (Cond.instantiable cls 6).before args s' = true := h _ (tw_in_rest (by unfold tw_rest Bundle.ownAtoms; rw [List.drop_left]; simp))
  obtain ⟨vm₁, cX, kX, hfX, hkX, -, -, X₁, st1⟩ := Y.newCold hexec (own := own) (C := cls) (index := ik) (n := 6) hown' hk' hins hini'
    (g := F0 m pc ls rest) rfl (by rw [hb]; exact d0) (Nat.le_refl _) (Nat.le_refl _)
  generalize hT1 : (T.setVm vm₁).pushCell { cls := cX, slots := kX.instanceTypes.map defaultValue, vm := .none } = T1 at X₁ st1
  have hcat : (Value.ref T.heap.size).category = 1 := rfl
  have hcellA : T1.heap[T.heap.size]? = some (freshCell cX kX) := by rw [← hT1]; exact State.heap_pushCell_size _ _
  have d3' : decode c.code (pc + 3) = .ok (.dup, 1) := by rw [hb]; exact d3
  have d4' : decode c.code (pc + 4) = .ok (.ldc_w is, 3) := by rw [hb]; exact d4
  have hstr' : vk_R own is text sa s' := vk_R.warm hW0 hstr
  obtain ⟨U, ⟨hsteps, hrun, hend⟩, ⟨hW, hsame⟩, ce, hce, hO, hO2⟩ := tw_ctor X₁ hexec htr h6 (own := own) (cls := cls) (names := names) (ic := ic) hown' (List.forall_mem_cons.mpr ⟨hcls, hnames⟩) h (fun x hx => nomatch hx) hfX hkX hcellA (by rw [hhp, hT]; exact Nat.le_refl _)
    (g := { method := m, pc := pc + 7, locals := ls, stack := .ref sa :: .ref T.heap.size :: .ref T.heap.size :: rest, locked := none }) rfl hsize rfl rfl (rest := rest) rfl
    (by rw [hb]; exact d7) (by rw [hb]; exact d10) hout hlocks hRframes (by simp only [List.map_cons, List.sum_cons, hcat]; omega)
  obtain ⟨f1, f2⟩ := vx_frame hsame
  rw [hhp] at f1 f2
  have fsz : U.heap.size = H.size + 1 := by
    have u1 : U.heap.size ≤ s'.heap.size + (0 + 1) := hsame.2.2.1
    have u2 := (Array.getElem?_eq_some_iff.mp hce).1
    rw [hhp] at u1
    rw [hT] at u2
    omega
  have hWs : s.WarmedH U.vm := State.WarmedH.trans hW0 hW
  have hcl : s.vm.findClass cls = some ce.cls := by
    have h9 := hO2
    rw [hvm] at h9
    exact h9
  have hall : s.sameButNew ({ U with vm := s.vm } : State) locs mc ms := by
    subst hA
    obtain ⟨e1, e2⟩ := hsame
    rw [State.setFrames_setFrames] at e1
    have h2 : (T.setVm s.vm).sameButNew ({ U with vm := s.vm } : State) [] (0 + 1) (0 + 6) := ⟨e1, e2⟩
    have h3 := X.same.trans h2
    rw [List.append_nil] at h3
    exact h3.mono hc hs
  refine ⟨U, ?_, .threw T.heap.size, hrun, hend, Or.inr ⟨T.heap.size, rfl, cls, ce, locs, hx U hWs.alike fsz (fun q hq => f2 q hq (fun z hz => nomatch hz)), hce, hO, hcl, hWs, hall, hf⟩⟩
  refine st1 _ ?_
  show Steps p.tables e below (T1.setTop { method := m, pc := pc + 3, locals := ls, stack := .ref T.heap.size :: rest, locked := none }) _
  jvm_step X₁.here [X₁.here.top, hexec, d3', Value.category]
  exact X₁.ldcStringW hexec (own := own) (text := text) (index := is) (a := sa) hown' hstr'.1 hstr'.2
    (g := { method := m, pc := pc + 4, locals := ls, stack := .ref T.heap.size :: .ref T.heap.size :: rest, locked := none }) rfl d4' _ hsteps
end TW
