/-! RULES of the instructions that touch the heap, over VV -/
section RH
variable {g : GG} {p : Program} {e : Env} {R : Room} {s : State} {m : MethodId} {args : Array Value} {below : List Frame} {meth : Method} {c : Code} {nL : Nat} {Q : State → Prop} {kc ks pc : Nat} {ls : List (Option Value)} {st : List Value} {h : Hp} {cc : ByteArray} {y : MethodName} {ret : Option FieldType} {xt : List ExceptionTableEntry}
/-- the class ci of vwCl, its tables' words -/
def CI (ci : Nat) (C : String) (T : u_T) (N : Nat) (ty : Nat → FieldType) : Prop :=
  vwCl[ci]? = some (C, T, N) ∧ (∀ w ∈ u_ws C T N, w ∈ lwG) ∧ (∀ k, k < N → parseFieldDescriptor (T k).2.2.1 = some (ty k)) ∧ (∀ a, a < N → ∀ b, b < N → a ≠ b → (T a).2.1 ≠ (T b).2.1) ∧ (ci != 99) = true
/-- the pool entry idx of the class own is the field k of the class ci -/
def FL (own : String) (idx ci k : Nat) : Prop := ∃ (C : String) (T : u_T) (N : Nat) (ty : Nat → FieldType), CI ci C T N ty ∧ k < N ∧ Cond.fieldLink own idx (T k).1 (T k).2.1 (T k).2.2.1 ∈ lwG
/-- .. and may be written: its type, whether it is final -/
def FW (own : String) (idx ci k : Nat) (fin : Bool) (t : FieldType) : Prop := ∃ (C : String) (T : u_T) (N : Nat) (ty : Nat → FieldType), CI ci C T N ty ∧ k < N ∧ Cond.fieldLink own idx (T k).1 (T k).2.1 (T k).2.2.1 ∈ lwG ∧ (T k).2.2.2 = fin ∧ ty k = t ∧ (fin = true → (T k).1 = own)
theorem r_getf (X : CX g p s m args meth c cc nL y ret xt) {ci k idx a : Nat} {fs : List Value} {v : Value} (d : decode cc pc = .ok (.getfield idx, 3)) (hF : FL y.cls idx ci k) (hc : h[a]? = some (.inr (ci, fs))) (hv : fs[k]? = some v) (kk : VV g p e R s m args below meth c nL Q kc ks (pc + 3) ls (v :: st) h) : VV g p e R s m args below meth c nL Q kc ks pc ls (.ref a :: st) h := by
  intro H locs la hW hL hM
  obtain ⟨C, T, N, ty, ⟨hcl, hin, -, -, h99⟩, hk, hlk⟩ := hF
  exact va_get X.ex X.by X.ts hin X.ow X.gk.1 (hW.at hc h99) 0 rfl hcl k hk (X.ts _ hlk) (fun _ q => q) (v := tr g v) (by rw [List.getElem?_map, hv]; rfl) d (kk H locs la hW hL hM)
/-- an object whose field k is written: its cell, the field as the tables have it, and what the heap holds behind the writing -/
theorem fw_cell (X : CX g p s m args meth c cc nL y ret xt) {H : Heap} (hW : WH g h H) {ci k a N : Nat} {C : String} {T : u_T} {ty : Nat → FieldType} (hI : CI ci C T N ty) (hk : k < N) {fs : List Value} (hc : h[a]? = some (.inr (ci, fs))) :
    ∃ (cell : Cell) (kC : Class) (cf fi : Nat) (kf : Class) (f : Field), (H[gn g + a]? = some cell ∧ cell.cls = (gD g).1 ci ∧ cell.vm = .none ∧ f.slot < cell.slots.size) ∧
      (s.vm.findClass C = some ((gD g).1 ci) ∧ s.vm.classes[(gD g).1 ci]? = some kC ∧ kC.kind = .ordinary) ∧ (s.fieldFound? (T k).1 (T k).2.1 (T k).2.2.1 = some (cf, kf, fi, f) ∧ f.isStatic = false) ∧
      ∀ (H' : Heap) (v : Value), k < fs.length → H'[gn g + a]? = some (cell.setSlot f.slot (tr g v)) → H'.size = H.size → (∀ q, q ≠ gn g + a → H'[q]? = H[q]?) → WH g (h.set a (.inr (ci, fs.set k v))) H' := by
  obtain ⟨hcl, hin, hty, hnm, h99⟩ := hI
  obtain ⟨r, hr, cell, hat, hcc, hvm, hsl⟩ := hW.2.2 a _ hc h99
  obtain rfl : r = (C, T, N) := Option.some.inj (hr.symm.trans hcl)
  have hKn := X.gk.1.1 ci _ hcl
  obtain ⟨cf, kf, fi, f, hf, hs⟩ := hKn.1 k hk
  obtain ⟨hC, kC, hkC, hkd⟩ := hKn.2
  have hap := va_apart (own := C) X.ts hin ty hty hnm X.gk.1 hcl
  refine ⟨cell, kC, cf, fi, kf, f, ⟨hat, hcc, hvm, ?_⟩, ⟨hC, hkC, hkd⟩, ⟨hf, (u_facts hC hkC (u_lays X.ts hin hk) hf).1⟩, fun H' v hl e1 e2 e3 => hW.set e2 e3 (fun _ => ⟨_, hcl, cell.setSlot f.slot (tr g v), e1, hcc, hvm, fun j hj => ?_⟩)⟩
  · rw [hs]
    exact k2_hasslot (hsl k hk)
  · show _ = some (vp_V ((fs.set k v).map (tr g)) j)
    rw [hs, List.map_set, ← vp_updV_set (by rw [List.length_map]; exact hl) (tr g v) j]
    exact t_set hsl hap hk (tr g v) j hj
theorem fw_loc {locs : List Loc} {a i : Nat} (hL : ∀ q ∈ locs, gn g ≤ q.base) : ∀ q ∈ locs ++ [(⟨gn g + a, i⟩ : Loc)], gn g ≤ q.base := by
  intro q hq
  simp only [List.mem_append, List.mem_singleton] at hq
  rcases hq with q1 | q1
  · exact hL q q1
  · rw [q1]
    exact Nat.le_add_right _ _
/-- a final field's class is the one that its table names -/
theorem lf_own {C O nm ds : String} {cf fi : Nat} {kf : Class} {f : Field} (hw : (Cond.laysFinal C O nm ds).before args s = true) (hi : s.fieldFound? O nm ds = some (cf, kf, fi, f)) : s.vm.findClass O = some cf := by
  obtain ⟨_, _, c1, _, _, _, -, -, h2, -, -, -, h3, -⟩ := Cond.laysFinal_spec hw
  rw [hi] at h2
  rw [(Prod.mk.inj (Option.some.inj h2)).1]
  exact h3
theorem r_putf (X : CX g p s m args meth c cc nL y ret xt) {ci k idx a : Nat} {fs : List Value} {v : Value} {t : FieldType} (d : decode cc pc = .ok (.putfield idx, 3)) (hF : FW y.cls idx ci k false t) (hc : h[a]? = some (.inr (ci, fs))) (hl : k < fs.length) (hn : narrow t (tr g v) = tr g v) (hf : fits t (tr g v) = true) (kk : VV g p e R s m args below meth c nL Q kc ks (pc + 3) ls st (h.set a (.inr (ci, fs.set k v)))) : VV g p e R s m args below meth c nL Q kc ks pc ls (v :: .ref a :: st) h := by
  intro H locs la hW hL hM
  obtain ⟨C, T, N, ty, hI, hk, hlk, hfin, rfl, -⟩ := hF
  obtain ⟨cell, kC, cf, fi, kf, f, ⟨h1, h2, h3, h4⟩, ⟨i1, i2, i3⟩, ⟨j1, j2⟩, hnext⟩ := fw_cell X hW hI hk hc
  have hw : (Cond.lays C (T k).1 (T k).2.1 (T k).2.2.1).before args s = true := by
    simpa only [u_lay, hfin, Bool.false_eq_true, if_false] using X.ts _ (hI.2.1 _ (u_in_lay hk))
  exact W.putK X.ex X.by (f := f) ⟨X.ow, X.ts _ hlk, ⟨_, _, _, j1⟩, j2⟩ (by rw [h2]; exact u_store i1 i2 i3 hw j1 (hI.2.2.1 k hk) hn hf) h1 h3 h4 rfl rfl d fun H' e1 e2 e3 => kk H' _ la (hnext H' v hl e1 e2 e3) (fw_loc hL) hM
theorem r_putF (X : CX g p s m args meth c cc nL y ret xt) {ci k idx a : Nat} {fs : List Value} {v : Value} {t : FieldType} (d : decode cc pc = .ok (.putfield idx, 3)) (hF : FW y.cls idx ci k true t) (hy : y.name = "<init>") (hc : h[a]? = some (.inr (ci, fs))) (hl : k < fs.length) (hn : narrow t (tr g v) = tr g v) (hf : fits t (tr g v) = true) (kk : VV g p e R s m args below meth c nL Q kc ks (pc + 3) ls st (h.set a (.inr (ci, fs.set k v)))) : VV g p e R s m args below meth c nL Q kc ks pc ls (v :: .ref a :: st) h := by
  intro H locs la hW hL hM
  obtain ⟨C, T, N, ty, hI, hk, hlk, hfin, rfl, hdecl⟩ := hF
  obtain ⟨cell, kC, cf, fi, kf, f, ⟨h1, h2, h3, h4⟩, ⟨i1, i2, i3⟩, ⟨j1, j2⟩, hnext⟩ := fw_cell X hW hI hk hc
  have hw : (Cond.laysFinal C (T k).1 (T k).2.1 (T k).2.2.1).before args s = true := by
    simpa only [u_lay, hfin, if_true] using X.ts _ (hI.2.1 _ (u_in_lay hk))
  have hcf : s.vm.findClass y.cls = some cf := by
    rw [← hdecl rfl]
    exact lf_own hw j1
  exact W.putFinK X.ex X.by X.ow (X.ts _ hlk) j1 j2 (Option.some.inj (X.ow.symm.trans hcf)) (X.nm.trans hy) (by rw [h2]; exact u_fits i1 i2 i3 (Or.inr hw) j1 (hI.2.2.1 k hk) hn hf) h1 h3 h4 rfl rfl d fun H' e1 e2 e3 => kk H' _ la (hnext H' v hl e1 e2 e3) (fw_loc hL) hM
theorem r_iald (X : CX g p s m args meth c cc nL y ret xt) {a n : Nat} {f : Nat → Int32} {i : Int32} (d : decode cc pc = .ok (.iaload, 1)) (hc : h[a]? = some (.inl (0, n, .inl f))) (hin : vp_in i n) (kk : VV g p e R s m args below meth c nL Q kc ks (pc + 1) ls (.int (f i.toNatClampNeg) :: st) h) : VV g p e R s m args below meth c nL Q kc ks pc ls (.int i :: .ref a :: st) h :=
  fun H locs la hW hL hM => va_iald X.ex X.by X.gk.1 (hW.at hc rfl) 0 0 rfl rfl hin d (kk H locs la hW hL hM)
theorem r_bald (X : CX g p s m args meth c cc nL y ret xt) {a n : Nat} {f : Nat → Int32} {i : Int32} (d : decode cc pc = .ok (.baload, 1)) (hc : h[a]? = some (.inl (1, n, .inl f))) (hin : vp_in i n) (kk : VV g p e R s m args below meth c nL Q kc ks (pc + 1) ls (.int (f i.toNatClampNeg) :: st) h) : VV g p e R s m args below meth c nL Q kc ks pc ls (.int i :: .ref a :: st) h :=
  fun H locs la hW hL hM => va_bald X.ex X.by X.gk.1 (hW.at hc rfl) 0 1 rfl rfl hin d (kk H locs la hW hL hM)
theorem r_zald (X : CX g p s m args meth c cc nL y ret xt) {a n : Nat} {f : Nat → Int32} {i : Int32} (d : decode cc pc = .ok (.baload, 1)) (hc : h[a]? = some (.inl (3, n, .inl f))) (hin : vp_in i n) (kk : VV g p e R s m args below meth c nL Q kc ks (pc + 1) ls (.int (f i.toNatClampNeg) :: st) h) : VV g p e R s m args below meth c nL Q kc ks pc ls (.int i :: .ref a :: st) h :=
  fun H locs la hW hL hM => va_zald X.ex X.by X.gk.1 (hW.at hc rfl) 0 3 rfl rfl hin d (kk H locs la hW hL hM)
theorem r_lald (X : CX g p s m args meth c cc nL y ret xt) {a n : Nat} {f : Nat → Int64} {i : Int32} (d : decode cc pc = .ok (.laload, 1)) (hc : h[a]? = some (.inl (2, n, .inr (.inl f)))) (hin : vp_in i n) (kk : VV g p e R s m args below meth c nL Q kc ks (pc + 1) ls (.long (f i.toNatClampNeg) :: st) h) : VV g p e R s m args below meth c nL Q kc ks pc ls (.int i :: .ref a :: st) h :=
  fun H locs la hW hL hM => va_lald X.ex X.by X.gk.1 (hW.at hc rfl) 0 2 rfl rfl hin d (kk H locs la hW hL hM)
theorem r_alen (X : CX g p s m args meth c cc nL y ret xt) {a t n : Nat} {f : (Nat → Int32) ⊕ (Nat → Int64) ⊕ (Nat → UInt32) ⊕ (Nat → UInt64) ⊕ (Nat → Option Nat)} (d : decode cc pc = .ok (.arraylength, 1)) (hc : h[a]? = some (.inl (t, n, f))) (ht : t < 4) (kk : VV g p e R s m args below meth c nL Q kc ks (pc + 1) ls (.int (nI n) :: st) h) : VV g p e R s m args below meth c nL Q kc ks pc ls (.ref a :: st) h := by
  intro H locs la hW hL hM
  have h4 : (gT g)[t]? = some (gA g t, aty t) := by
    rcases (by omega : t = 0 ∨ t = 1 ∨ t = 2 ∨ t = 3) with rfl | rfl | rfl | rfl <;> rfl
  exact va_alen X.ex X.by X.gk.1 (hW.at hc rfl) 0 t rfl h4 rfl d (kk H locs la hW hL hM)
theorem WH_ast {H H' : Heap} {a n t : Nat} {f : Nat → Int32} {i x : Int32} (hW : WH g h H) (z : H'.size = H.size) (oq : ∀ q, q ≠ gn g + a → H'[q]? = H[q]?) (ee : H'[gn g + a]? = some ((vp_cell (gA g t) (n, .inl f)).setSlot i.toNatClampNeg (.int x))) : WH g (h.set a (.inl (t, n, .inl (upd f i.toNatClampNeg x)))) H' := by
  refine hW.set z oq fun _ => ?_
  show H'[gn g + a]? = some (vp_cell _ _)
  rw [ee]
  rw [vp_cell_i, vp_cell_i, arrV_store]
  congr 2
  funext q
  by_cases hq : q = i.toNatClampNeg
  · subst hq
    simp [updV, upd]
  · simp [updV, upd, hq]
theorem locs_add {locs : List Loc} {a j : Nat} (hL : ∀ q ∈ locs, gn g ≤ q.base) : ∀ q ∈ locs ++ [(⟨gn g + a, j⟩ : Loc)], gn g ≤ q.base := by
  intro q hq
  rcases List.mem_append.mp hq with q1 | q1
  · exact hL _ q1
  · rw [List.mem_singleton.mp q1]; exact Nat.le_add_right _ _
theorem r_iast (X : CX g p s m args meth c cc nL y ret xt) {a n : Nat} {f : Nat → Int32} {i x : Int32} (d : decode cc pc = .ok (.iastore, 1)) (hc : h[a]? = some (.inl (0, n, .inl f))) (hin : vp_in i n) (kk : VV g p e R s m args below meth c nL Q kc ks (pc + 1) ls st (h.set a (.inl (0, n, .inl (upd f i.toNatClampNeg x))))) : VV g p e R s m args below meth c nL Q kc ks pc ls (.int x :: .int i :: .ref a :: st) h := by
  intro H locs la hW hL hM
  refine W.iast X.ex X.by (hW.2.2 a _ hc rfl) ((X.gk.1.2 0 _ rfl).1 n (fun j => .int (f j))) (fun q => by cases q) (by show ¬ (i < 0 ∨ (arrV _ _ _).slots.size ≤ _); rw [arrV_size]; exact hin) rfl rfl d fun H1 ee z oq => ?_
  exact kk H1 _ la (WH_ast hW z oq ee) (locs_add hL) hM
theorem r_bast (X : CX g p s m args meth c cc nL y ret xt) {a n : Nat} {f : Nat → Int32} {i x : Int32} (d : decode cc pc = .ok (.bastore, 1)) (hc : h[a]? = some (.inl (1, n, .inl f))) (hin : vp_in i n) (kk : VV g p e R s m args below meth c nL Q kc ks (pc + 1) ls st (h.set a (.inl (1, n, .inl (upd f i.toNatClampNeg (vp_nar .byte x)))))) : VV g p e R s m args below meth c nL Q kc ks pc ls (.int x :: .int i :: .ref a :: st) h := by
  intro H locs la hW hL hM
  refine W.bast X.ex X.by (hW.2.2 a _ hc rfl) ((X.gk.1.2 1 _ rfl).1 n (fun j => .int (f j))) (fun q => by cases q) (by show ¬ (i < 0 ∨ (arrV _ _ _).slots.size ≤ _); rw [arrV_size]; exact hin) rfl rfl d fun H1 ee z oq => ?_
  exact kk H1 _ la (WH_ast hW z oq ee) (locs_add hL) hM
theorem r_zast (X : CX g p s m args meth c cc nL y ret xt) {a n : Nat} {f : Nat → Int32} {i x : Int32} (d : decode cc pc = .ok (.bastore, 1)) (hc : h[a]? = some (.inl (3, n, .inl f))) (hin : vp_in i n) (kk : VV g p e R s m args below meth c nL Q kc ks (pc + 1) ls st (h.set a (.inl (3, n, .inl (upd f i.toNatClampNeg (vp_nar .boolean x)))))) : VV g p e R s m args below meth c nL Q kc ks pc ls (.int x :: .int i :: .ref a :: st) h := by
  intro H locs la hW hL hM
  refine W.zast X.ex X.by (hW.2.2 a _ hc rfl) ((X.gk.1.2 3 _ rfl).1 n (fun j => .int (f j))) (fun q => by cases q) (by show ¬ (i < 0 ∨ (arrV _ _ _).slots.size ≤ _); rw [arrV_size]; exact hin) rfl rfl d fun H1 ee z oq => ?_
  exact kk H1 _ la (WH_ast hW z oq ee) (locs_add hL) hM
theorem r_last (X : CX g p s m args meth c cc nL y ret xt) {a n : Nat} {f : Nat → Int64} {i : Int32} {x : Int64} (d : decode cc pc = .ok (.lastore, 1)) (hc : h[a]? = some (.inl (2, n, .inr (.inl f)))) (hin : vp_in i n) (kk : VV g p e R s m args below meth c nL Q kc ks (pc + 1) ls st (h.set a (.inl (2, n, .inr (.inl (vp_updL f i.toNatClampNeg x)))))) : VV g p e R s m args below meth c nL Q kc ks pc ls (.long x :: .int i :: .ref a :: st) h := by
  intro H locs la hW hL hM
  refine W.last X.ex X.by (hW.2.2 a _ hc rfl) ((X.gk.1.2 2 _ rfl).1 n (fun j => .long (f j))) (fun q => by cases q) (by show ¬ (i < 0 ∨ (arrV _ _ _).slots.size ≤ _); rw [arrV_size]; exact hin) rfl rfl d fun H1 ee z oq => ?_
  refine kk H1 _ la (hW.set z oq fun _ => ?_) (locs_add hL) hM
  show H1[gn g + a]? = some (vp_cell _ _)
  rw [ee]
  rw [vp_cell_l, vp_cell_l, arrV_store]
  congr 2
  funext q
  by_cases hq : q = i.toNatClampNeg
  · subst hq
    simp [updV, vp_updL]
  · simp [updV, vp_updL, hq]
def dfl (ty : Nat → FieldType) (N : Nat) : List Value := (List.range N).map (fun j => defaultValue (ty j))
theorem tr_dfl (t : FieldType) : tr g (defaultValue t) = defaultValue t := by cases t <;> rfl
theorem r_new (X : CX g p s m args meth c cc nL y ret xt) {ci idx N : Nat} {C : String} {T : u_T} {ty : Nat → FieldType} (d : decode cc pc = .ok (.new idx, 3)) (hI : CI ci C T N ty) (hw : Cond.classLink y.cls idx C ∈ lwG ∧ Cond.instantiable C N ∈ lwG ∧ Cond.initialized C ∈ lwG) {fs : List Value} (hfs : dfl ty N = fs) (h1 : kc + 1 ≤ R.cells) (h2 : ks + N ≤ R.slots) (kk : VV g p e R s m args below meth c nL Q (kc + 1) (ks + N) (pc + 3) ls (.ref h.length :: st) (h ++ [.inr (ci, fs)])) : VV g p e R s m args below meth c nL Q kc ks pc ls st h := by
  intro H locs la hW hL hM
  obtain ⟨hcl, hin, hty, -, -⟩ := hI
  have hKn := X.gk.1.1 ci _ hcl
  subst hfs
  refine W.newcK X.ex X.by X.ow (X.ts _ hw.1) (X.ts _ hw.2.1) (X.ts _ hw.2.2) rfl d h1 h2 hKn.2.1 hW.1 fun H1 kC hkC e1 z1 o1 => ?_
  refine kk H1 locs la (hW.push (by rw [z1, hW.1]) (fun q hq => o1 q (by rw [← hW.1]; exact hq)) (fun _ => ⟨_, hcl, (u_born ty X.ts hin hKn hkC e1 hty).to (fun j hj => ?_)⟩)) hL hM
  simp only [vp_V, dfl, List.map_map]
  have hj' : j < N := hj
  simp [List.getD, List.getElem?_map, hj', tr_dfl]
def arr0 (t N : Nat) : va_E := if t = 2 then .inl (t, N, .inr (.inl (fun _ => 0))) else .inl (t, N, .inl (fun _ => 0))
theorem arr0_cell {t N : Nat} {at' : ArrayType} (ht : t < 4) (ha : newarray.typeOf at' = aty t) : ∀ cA : ClassId, ∃ x : vp_A, arr0 t N = .inl (t, x) ∧ vp_cell cA x = arrV cA N (fun _ => defaultValue (newarray.typeOf at')) := by
  intro cA
  rw [ha]
  rcases (by omega : t = 0 ∨ t = 1 ∨ t = 2 ∨ t = 3) with rfl | rfl | rfl | rfl <;> exact ⟨_, rfl, rfl⟩
theorem r_newa (X : CX g p s m args meth c cc nL y ret xt) {t N : Nat} {at' : ArrayType} {n : Int32} (d : decode cc pc = .ok (.newarray at', 2)) (ht : t < 4) (ha : newarray.typeOf at' = aty t) (hw : Cond.arrayClass (newarray.typeOf at') ∈ lwG) (hn : ¬ n < 0) (hN : n.toNatClampNeg = N) (hb : N * componentBytes (newarray.typeOf at') ≤ 536870912) (h1 : kc + 1 ≤ R.cells) (h2 : ks + N ≤ R.slots) (kk : VV g p e R s m args below meth c nL Q (kc + 1) (ks + N) (pc + 2) ls (.ref h.length :: st) (h ++ [arr0 t N])) : VV g p e R s m args below meth c nL Q kc ks pc ls (.int n :: st) h := by
  intro H locs la hW hL hM
  refine va_newaK X.ex X.by (X.ts _ hw) rfl d rfl hn hN hb h1 h2 hW.1 fun H1 cA e1 z1 o1 hAr hNm => ?_
  have h4 : (gT g)[t]? = some (gA g t, aty t) := by
    rcases (by omega : t = 0 ∨ t = 1 ∨ t = 2 ∨ t = 3) with rfl | rfl | rfl | rfl <;> rfl
  have hf := (X.gk.1.2 t _ h4).2
  have hcA : cA = gA g t := by
    have hf2 : s.vm.findClass ("[" ++ (aty t).toString) = some (gA g t) := by
      rcases (by omega : t = 0 ∨ t = 1 ∨ t = 2 ∨ t = 3) with rfl | rfl | rfl | rfl <;> exact hf
    rw [ha] at hNm
    exact Option.some.inj (hNm.symm.trans hf2)
  subst hcA
  obtain ⟨x, hx1, hx2⟩ := arr0_cell (N := N) ht ha (gA g t)
  refine kk H1 locs la (hW.push (by rw [z1, hW.1]) (fun q hq => o1 q (by rw [← hW.1]; exact hq)) (fun _ => ?_)) hL hM
  rw [hx1]
  show H1[gn g + h.length]? = some (vp_cell (gA g t) x)
  rw [hx2]
  exact e1
theorem r_objInit (X : CX g p s m args meth c cc nL y ret xt) {idx a : Nat} (d : decode cc pc = .ok (.invokespecial idx, 3)) (hw : Cond.methodLink y.cls idx Lib.objectInit ∈ lwG ∧ Cond.instanceMethod Lib.objectInit ∈ lwG ∧ Cond.code Lib.objectInit ⟨#[0xb1]⟩ 1 none ∈ lwG) (hf : 1 ≤ R.frames) (hl : (st.map fun v => v.category).sum + 12 ≤ R.locals) (kk : VV g p e R s m args below meth c nL Q kc ks (pc + 3) ls st h) : VV g p e R s m args below meth c nL Q kc ks pc ls (.ref a :: st) h := by
  intro H locs la hW hL hM
  refine W.objInit X.ex X.by X.ow (X.ts _ hw.1) (X.ts _ hw.2.1) (X.ts _ hw.2.2) rfl (hM.1.trans X.ml.symm) rfl d hf ?_ (kk H locs la hW hL hM)
  show 2 * 0 + _ + 12 ≤ _
  rw [tr_cats]
  omega
theorem r_lcmp (X : CX g p s m args meth c cc nL y ret xt) {x z : Int64} (d : decode cc pc = .ok (.lcmp, 1)) (kk : VV g p e R s m args below meth c nL Q kc ks (pc + 1) ls (.int (lg_cmp x z) :: st) h) : VV g p e R s m args below meth c nL Q kc ks pc ls (.long z :: .long x :: st) h :=
  fun H locs la hW hL hM => W.lcmp X.ex X.by d (kk H locs la hW hL hM)
theorem r_ldc2 (X : CX g p s m args meth c cc nL y ret xt) {i : Nat} {v : Int64} (d : decode cc pc = .ok (.ldc2_w i, 3)) (hw : Cond.constantLong y.cls i v ∈ lwG) (kk : VV g p e R s m args below meth c nL Q kc ks (pc + 3) ls (.long v :: st) h) : VV g p e R s m args below meth c nL Q kc ks pc ls st h :=
  fun H locs la hW hL hM => W.ldc2 X.ex X.by X.ow (X.ts _ hw) rfl d (kk H locs la hW hL hM)
theorem r_ldcw (X : CX g p s m args meth c cc nL y ret xt) {i : Nat} {v : Int32} (d : decode cc pc = .ok (.ldc_w i, 3)) (hw : Cond.constant y.cls i v ∈ lwG) (kk : VV g p e R s m args below meth c nL Q kc ks (pc + 3) ls (.int v :: st) h) : VV g p e R s m args below meth c nL Q kc ks pc ls st h :=
  fun H locs la hW hL hM => lv_ldcw X.ex X.by X.ow (X.ts _ hw) d (kk H locs la hW hL hM)
end RH
