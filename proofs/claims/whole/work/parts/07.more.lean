/-! RULES: Math, arraycopy, throws -/
section RM
variable {g : GG} {p : Program} {e : Env} {R : Room} {s : State} {m : MethodId} {args : Array Value} {below : List Frame} {meth : Method} {c : Code} {nL : Nat} {Q : State → Prop} {kc ks pc : Nat} {ls : List (Option Value)} {st : List Value} {h : Hp} {cc : ByteArray} {y : MethodName} {ret : Option FieldType} {xt : List ExceptionTableEntry}
variable {mc ms : Nat} {Pr : Option Value → Hp → Prop} {Pt : String → Hp → Prop}
theorem r_mmin (X : CX g p s m args meth c cc nL y ret xt) {idx : Nat} {x z : Int32} (d : decode cc pc = .ok (.invokestatic idx, 3)) (hw : Cond.methodLink y.cls idx Lib.Math.min.name ∈ lwG ∧ Cond.static Lib.Math.min.name ∈ lwG ∧ Cond.initialized "java/lang/Math" ∈ lwG ∧ Cond.code Lib.Math.min.name Lib.Math.min.code 2 (some .int) ∈ lwG) (hR : 1 ≤ R.frames ∧ (st.map fun v => v.category).sum + 13 ≤ R.locals ∧ kc ≤ R.cells ∧ ks ≤ R.slots) (kk : VV g p e R s m args below meth c nL Q kc ks (pc + 3) ls (.int (if z < x then z else x) :: st) h) : VV g p e R s m args below meth c nL Q kc ks pc ls (.int z :: .int x :: st) h :=
  fun H locs la hW hL hM => va_mmin X.ex X.by (X.ml.trans hM.1.symm) X.ow (X.ts _ hw.1) (X.ts _ hw.2.1) (X.ts _ hw.2.2.1) (X.ts _ hw.2.2.2) hR.1 (by rw [tr_cats]; exact hR.2.1) hR.2.2.1 hR.2.2.2 d (kk H locs la hW hL hM)
theorem r_mmax (X : CX g p s m args meth c cc nL y ret xt) {idx : Nat} {x z : Int32} (d : decode cc pc = .ok (.invokestatic idx, 3)) (hw : Cond.methodLink y.cls idx Lib.Math.max.name ∈ lwG ∧ Cond.static Lib.Math.max.name ∈ lwG ∧ Cond.initialized "java/lang/Math" ∈ lwG ∧ Cond.code Lib.Math.max.name Lib.Math.max.code 2 (some .int) ∈ lwG) (hR : 1 ≤ R.frames ∧ (st.map fun v => v.category).sum + 13 ≤ R.locals ∧ kc ≤ R.cells ∧ ks ≤ R.slots) (kk : VV g p e R s m args below meth c nL Q kc ks (pc + 3) ls (.int (if x < z then z else x) :: st) h) : VV g p e R s m args below meth c nL Q kc ks pc ls (.int z :: .int x :: st) h :=
  fun H locs la hW hL hM => va_mmax X.ex X.by (X.ml.trans hM.1.symm) X.ow (X.ts _ hw.1) (X.ts _ hw.2.1) (X.ts _ hw.2.2.1) (X.ts _ hw.2.2.2) hR.1 (by rw [tr_cats]; exact hR.2.1) hR.2.2.1 hR.2.2.2 d (kk H locs la hW hL hM)
theorem r_mabs (X : CX g p s m args meth c cc nL y ret xt) {idx : Nat} {x : Int32} (d : decode cc pc = .ok (.invokestatic idx, 3)) (hw : Cond.methodLink y.cls idx Lib.Math.abs.name ∈ lwG ∧ Cond.static Lib.Math.abs.name ∈ lwG ∧ Cond.initialized "java/lang/Math" ∈ lwG ∧ Cond.code Lib.Math.abs.name Lib.Math.abs.code 1 (some .int) ∈ lwG) (hR : 1 ≤ R.frames ∧ (st.map fun v => v.category).sum + 13 ≤ R.locals ∧ kc ≤ R.cells ∧ ks ≤ R.slots) (kk : VV g p e R s m args below meth c nL Q kc ks (pc + 3) ls (.int (if 0 ≤ x then x else 0 - x) :: st) h) : VV g p e R s m args below meth c nL Q kc ks pc ls (.int x :: st) h :=
  fun H locs la hW hL hM => va_mabs X.ex X.by (X.ml.trans hM.1.symm) X.ow (X.ts _ hw.1) (X.ts _ hw.2.1) (X.ts _ hw.2.2.1) (X.ts _ hw.2.2.2) hR.1 (by rw [tr_cats]; exact hR.2.1) hR.2.2.1 hR.2.2.2 d (kk H locs la hW hL hM)
theorem pos_toInt (z : Int32) (hz : ¬ z < 0) : z.toInt = (z.toNatClampNeg : Int) := by
  have hz0 : (0 : Int) ≤ z.toInt := by
    have := Int32.not_lt.mp hz
    simpa using Int32.le_iff_toInt_le.mp this
  show z.toInt = ((z.toInt.toNat : Nat) : Int)
  omega
/-- what a row holds behind a copy; a whole row copied is the other's own function -/
def cpyF (f f1 : Nat → Int32) (sp dp n n1 : Nat) : Nat → Int32 := if sp = 0 ∧ dp = 0 ∧ n = n1 then f else va_cpy f f1 sp dp n
theorem cpyF_in {f f1 : Nat → Int32} {sp dp n n1 k : Nat} (hk : k < n1) : va_cpy f f1 sp dp n k = cpyF f f1 sp dp n n1 k := by
  unfold cpyF
  split
  · rename_i q
    obtain ⟨rfl, rfl, rfl⟩ := q
    simp [va_cpy, hk]
  · rfl
theorem cell_congr {cA : ClassId} {n : Nat} {f f' : Nat → Int32} (q : ∀ k, k < n → f k = f' k) : vp_cell cA (n, .inl f) = vp_cell cA (n, .inl f') := by
  rw [vp_cell_i, vp_cell_i]
  unfold arrV
  congr 1
  apply Array.ext
  · simp
  · intro i h1 h2
    simp at h1
    simp [q i h1]
/-- System.arraycopy of ints -/
theorem r_copy (X : CX g p s m args meth c cc nL y ret xt) {idx a0 a n0 n1 : Nat} {f f1 : Nat → Int32} {sp dp n : Int32} (d : decode cc pc = .ok (.invokestatic idx, 3)) (hw : Cond.methodLink y.cls idx arraycopyName ∈ lwG ∧ Cond.native arraycopyName ∈ lwG ∧ Cond.static arraycopyName ∈ lwG ∧ Cond.initialized "java/lang/System" ∈ lwG)
    (hc0 : h[a0]? = some (.inl (0, n0, .inl f))) (hc1 : h[a]? = some (.inl (0, n1, .inl f1))) (h1 : ¬ sp < 0) (h2 : ¬ dp < 0) (h3 : ¬ n < 0) (h4 : sp.toNatClampNeg + n.toNatClampNeg ≤ n0) (h5 : dp.toNatClampNeg + n.toNatClampNeg ≤ n1)
    (hR : 1 ≤ R.frames ∧ (st.map fun v => v.category).sum + (nativeFrameWords "java/lang/System" "arraycopy" 5 + 11) ≤ R.locals) (kk : VV g p e R s m args below meth c nL Q kc ks (pc + 3) ls st (h.set a (.inl (0, n1, .inl (cpyF f f1 sp.toNatClampNeg dp.toNatClampNeg n.toNatClampNeg n1))))) : VV g p e R s m args below meth c nL Q kc ks pc ls (.int n :: .int dp :: .ref a :: .int sp :: .ref a0 :: st) h := by
  intro H locs la hW hL hM T hT Y
  have hd0 : H[gn g + a0]? = some (vp_cell (gA g 0) (n0, .inl f)) := hW.2.2 a0 _ hc0 rfl
  have hd1 : H[gn g + a]? = some (vp_cell (gA g 0) (n1, .inl f1)) := hW.2.2 a _ hc1 rfl
  obtain ⟨-, k0, hk0, cm0, hkk0⟩ := (X.gk.1.2 0 _ rfl).1 n0 (fun j => .int (f j))
  obtain ⟨-, k1, hk1, cm1, hkk1⟩ := (X.gk.1.2 0 _ rfl).1 n1 (fun j => .int (f1 j))
  obtain ⟨vm', X', step⟩ := Y.arraycopy X.ex X.ow (X.ts _ hw.1) (X.ts _ hw.2.1) (X.ts _ hw.2.2.1) (X.ts _ hw.2.2.2) (src := gn g + a0) (dst := gn g + a) (cs := vp_cell (gA g 0) (n0, .inl f)) (cd := vp_cell (gA g 0) (n1, .inl f1)) (srcPos := sp) (destPos := dp) (n := n) (by rw [hT]; exact hd0) (by rw [hT]; exact hd1)
    (fun _ h => by cases h) (fun _ h => by cases h) (fun h => by cases h) (fun h => by cases h) hk0 hk1 hkk0 hkk1 (by simp [refKind]) h1 h2 h3
    (by rw [pos_toInt sp h1, pos_toInt n h3]; show ¬ _ > ((arrV (gA g 0) n0 (fun j => .int (f j))).slots.size : Int); rw [arrV_size]; omega)
    (by rw [pos_toInt dp h2, pos_toInt n h3]; show ¬ _ > ((arrV (gA g 0) n1 (fun j => .int (f1 j))).slots.size : Int); rw [arrV_size]; omega)
    (fun vm₁ _ i hi => by
      have ee : (vp_cell (gA g 0) (n0, .inl f)).slots.getD (sp.toNatClampNeg + i) .null = .int (f (sp.toNatClampNeg + i)) := by
        show (arrV (gA g 0) n0 (fun j => .int (f j))).slots.getD _ _ = _
        rw [Array.getD_eq_getD_getElem?, arrV_read _ _ (by omega)]
        rfl
      refine ⟨?_, ?_⟩
      · rw [ee]
        rfl
      · rw [ee]
        exact trivial)
    (g := F0 m pc la (.int n :: .int dp :: .ref (gn g + a) :: .int sp :: .ref (gn g + a0) :: st.map (tr g))) rfl (hM.1.trans X.ml.symm) (rest := st.map (tr g)) rfl (by rw [X.by]; exact d) hR.1 (by show 2 * 0 + _ + _ ≤ _; rw [tr_cats]; have := hR.2; omega)
  have e1 : copied (vp_cell (gA g 0) (n0, .inl f)) (vp_cell (gA g 0) (n1, .inl f1)) sp dp n = vp_cell (gA g 0) (n1, .inl (va_cpy f f1 sp.toNatClampNeg dp.toNatClampNeg n.toNatClampNeg)) := va_copied (fun z => .int z) (gA g 0) (gA g 0) f f1 h4
  rw [e1] at X' step
  have hl : gn g + a < H.size := (Array.getElem?_eq_some_iff.mp hd1).1
  have hheap : ((T.setVm vm').setCell (gn g + a) (vp_cell (gA g 0) (n1, .inl (va_cpy f f1 sp.toNatClampNeg dp.toNatClampNeg n.toNatClampNeg)))).heap = H.setIfInBounds (gn g + a) (vp_cell (gA g 0) (n1, .inl (va_cpy f f1 sp.toNatClampNeg dp.toNatClampNeg n.toNatClampNeg))) := by rw [← hT]; rfl
  obtain ⟨t, a1, b1⟩ := kk _ _ la (hW.set (H' := H.setIfInBounds (gn g + a) (vp_cell (gA g 0) (n1, .inl (va_cpy f f1 sp.toNatClampNeg dp.toNatClampNeg n.toNatClampNeg)))) (by simp) (fun q hq => by simp [Array.getElem?_setIfInBounds, Ne.symm hq]) (fun _ => by
      show (H.setIfInBounds (gn g + a) _)[gn g + a]? = some (vp_cell (gA g 0) (n1, .inl (cpyF f f1 sp.toNatClampNeg dp.toNatClampNeg n.toNatClampNeg n1)))
      rw [← cell_congr (f := va_cpy f f1 sp.toNatClampNeg dp.toNatClampNeg n.toNatClampNeg) (fun k hk => cpyF_in hk)]
      simp [Array.getElem?_setIfInBounds, hl])) (fun q hq => by
      rcases List.mem_append.mp hq with h | h
      · exact hL _ h
      · obtain ⟨z, -, hz⟩ := List.mem_map.mp h
        rw [← hz]
        exact Nat.le_add_right _ _) hM _ hheap X'
  exact ⟨t, step t a1, b1⟩
/-- what the tables give a throw: of the launch, of Throwable's statics -/
def ZT (g : GG) (U : State) : Prop := g.1.stackTraces = false ∧ vx_Zq Bundle.tN "UNASSIGNED_STACK" Bundle.steD (fun q => gn g ≤ q) U (gH g) ∧ vx_Zq Bundle.tN "SUPPRESSED_SENTINEL" Bundle.listD (fun q => gn g ≤ q) U (gH g) ∧ gn g = (gH g).size
/-- .. and of the place -/
def THr (own : String) (ik is ic : Nat) (cls text : String) (names : List String) (U : State) : Prop := Bundle.fit cls = true ∧ (∀ n ∈ names, Bundle.fit n = true) ∧ ∃ (j : Nat) (bt : ByteArray), tw_six j bt ∧ (∀ A : Array Value, (Cond.classLink own ik cls).before A U = true ∧ (Cond.initialized cls).before A U = true ∧ ∀ w ∈ tw_at own ic cls names j bt, w.before A U = true) ∧ (∀ w ∈ Cond.classLink own ik cls :: Cond.initialized cls :: tw_at own ic cls names j bt, vx_ot w = true) ∧ ∃ sa : Nat, vk_R own is text sa U
abbrev dead : va_E := .inr (99, [])
theorem WH.dead {H t : Heap} (hW : WH g h H) (hz : t.size = H.size + 1) (ho : ∀ q : Nat, q < H.size → t[q]? = H[q]?) : WH g (h ++ [dead]) t :=
  hW.push hz ho (fun hl => by cases hl)
theorem zq_at (X : CX g p s m args meth c cc nL y ret xt) {C n d : String} (hz : gn g = (gH g).size) (hq : vx_Zq C n d (fun q => gn g ≤ q) s (gH g)) : vx_Zq C n d (fun q => gn g ≤ q) s s.heap :=
  vx_Zq.kept hq (fun a ha _ => X.h0.1 a (by rw [hz]; exact ha))
theorem sS_of {T : State} {H : Heap} {locs : List Loc} (X : CX g p s m args meth c cc nL y ret xt) (hW : WH g h H) (hL : ∀ q ∈ locs, gn g ≤ q.base) (hT : T.heap = H) (Y : Stand p g.1 e R s m args below meth c T locs kc ks) : va_S (fun q => gn g ≤ q) s.heap H locs := by
  refine ⟨?_, fun q hq hA => ?_, hL⟩
  · have h2 : s.heap.size ≤ T.heap.size := Y.same.2.1
    rw [hT] at h2
    exact h2
  · have hlt : q < gn g := Nat.not_le.mp hA
    rw [hW.2.1 q hlt, X.h0.1 q hlt]
/-- throw new E("text") -/
theorem r_throwS (X : CX g p s m args meth c cc nL y ret xt) {ik is ic : Nat} {cls text : String} {names : List String} (hZ : ZT g s) (hH : THr y.cls ik is ic cls text names s)
    (d0 : decode cc pc = .ok (.new ik, 3)) (d3 : decode cc (pc + 3) = .ok (.dup, 1)) (d4 : decode cc (pc + 4) = .ok (.ldc is, 2)) (d6 : decode cc (pc + 6) = .ok (.invokespecial ic, 3)) (d9 : decode cc (pc + 9) = .ok (.athrow, 1))
    (hout : ∀ x ∈ xt, covers x (pc + 9) = false) (hR : names.length + 3 < R.frames ∧ (st.map fun v => v.category).sum + (13 * (names.length + 1) + 43) ≤ R.locals ∧ kc + 1 ≤ R.cells ∧ ks + 6 ≤ R.slots) (h1 : kc + 1 ≤ mc) (h2 : ks + 6 ≤ ms)
    (hP : Pt cls (h ++ [dead])) : VV g p e R s m args below meth c nL (QQ g below args s mc ms Pr Pt) kc ks pc ls st h := by
  intro H locs la hW hL hM T hT Y
  obtain ⟨z1, z2, z3, z4⟩ := hZ
  obtain ⟨q1, q2, j, bt, q6, q3, q4, sa, q5⟩ := hH
  exact tw_throw X.ex X.by z1 q6 X.ow q1 q2 (q3 args).1 (q3 args).2.1 q5 (q3 args).2.2 q4 (zq_at X z4 z2) (zq_at X z4 z3) (sS_of X hW hL hT Y) (hM.1.trans X.ml.symm) d0 d3 d4 d6 d9 (fun x hx => hout x (by rw [X.xx] at hx; exact hx)) hR.1 (by rw [tr_cats]; exact hR.2.1) hR.2.2.1 hR.2.2.2 X.lk (fun t _ hz ho => ⟨_, hP, hW.dead hz ho⟩) hL h1 h2 T hT Y
/-- .. the text by a wide index -/
theorem r_throwSW (X : CX g p s m args meth c cc nL y ret xt) {ik is ic : Nat} {cls text : String} {names : List String} (hZ : ZT g s) (hH : THr y.cls ik is ic cls text names s)
    (d0 : decode cc pc = .ok (.new ik, 3)) (d3 : decode cc (pc + 3) = .ok (.dup, 1)) (d4 : decode cc (pc + 4) = .ok (.ldc_w is, 3)) (d7 : decode cc (pc + 7) = .ok (.invokespecial ic, 3)) (d10 : decode cc (pc + 10) = .ok (.athrow, 1))
    (hout : ∀ x ∈ xt, covers x (pc + 10) = false) (hR : names.length + 3 < R.frames ∧ (st.map fun v => v.category).sum + (13 * (names.length + 1) + 43) ≤ R.locals ∧ kc + 1 ≤ R.cells ∧ ks + 6 ≤ R.slots) (h1 : kc + 1 ≤ mc) (h2 : ks + 6 ≤ ms)
    (hP : Pt cls (h ++ [dead])) : VV g p e R s m args below meth c nL (QQ g below args s mc ms Pr Pt) kc ks pc ls st h := by
  intro H locs la hW hL hM T hT Y
  obtain ⟨z1, z2, z3, z4⟩ := hZ
  obtain ⟨q1, q2, j, bt, q6, q3, q4, sa, q5⟩ := hH
  exact tw_throwW X.ex X.by z1 q6 X.ow q1 q2 (q3 args).1 (q3 args).2.1 q5 (q3 args).2.2 q4 (zq_at X z4 z2) (zq_at X z4 z3) (sS_of X hW hL hT Y) (hM.1.trans X.ml.symm) d0 d3 d4 d7 d10 (fun x hx => hout x (by rw [X.xx] at hx; exact hx)) hR.1 (by rw [tr_cats]; exact hR.2.1) hR.2.2.1 hR.2.2.2 X.lk (fun t _ hz ho => ⟨_, hP, hW.dead hz ho⟩) hL h1 h2 T hT Y
end RM
