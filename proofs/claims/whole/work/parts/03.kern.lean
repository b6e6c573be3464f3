/-! THE KERNEL: one heap for the whole run, with places counted from the law's entry on.
g = (launch, the heap's size at the law's entry, that heap, class numbers, array classes, where what was there before lies, what the tables say).
A reference to the cell number k that the run has made is '.ref k'; a reference to something that was there before is '.retAddr k'. -/
abbrev GG : Type := Launch × Nat × Heap × va_G × (Nat → ClassId) × (Nat → Nat) × (State → Prop)
abbrev gn (g : GG) : Nat := g.2.1
abbrev gH (g : GG) : Heap := g.2.2.1
abbrev gD (g : GG) : va_G := g.2.2.2.1
abbrev gA (g : GG) : Nat → ClassId := g.2.2.2.2.1
abbrev gR (g : GG) : Nat → Nat := g.2.2.2.2.2.1
abbrev gZ (g : GG) : State → Prop := g.2.2.2.2.2.2
abbrev Hp : Type := List va_E
def aty : Nat → FieldType
  | 0 => .int
  | 1 => .byte
  | 2 => .long
  | _ => .boolean
def gT (g : GG) : List (ClassId × FieldType) := [(gA g 0, .int), (gA g 1, .byte), (gA g 2, .long), (gA g 3, .boolean)]
def tr (g : GG) : Value → Value
  | .ref k => .ref (gn g + k)
  | .retAddr k => .ref (gR g k)
  | .int x => .int x
  | .long x => .long x
  | .float x => .float x
  | .double x => .double x
  | .null => .null
def trE (g : GG) : va_E → va_E
  | .inl a => .inl (gA g a.1, a.2)
  | .inr o => .inr (o.1, o.2.map (tr g))
def live : va_E → Bool
  | .inl _ => true
  | .inr o => o.1 != 99
def WH (g : GG) (h : Hp) (H : Heap) : Prop := H.size = gn g + h.length ∧ (∀ q : Nat, q < gn g → H[q]? = (gH g)[q]?) ∧ ∀ (k : Nat) (e : va_E), h[k]? = some e → live e = true → va_at (gD g) vwCl (gn g + k, trE g e) H
def GK (g : GG) (U : State) : Prop := va_K (gD g) vwCl (gT g) U ∧ ∀ U' : State, U.WarmedH U'.vm → gZ g U'
def lwG : List Cond := lw_tbl.filter goodWord
def LM (g : GG) (nL : Nat) (ls : List (Option Value)) (la : Array Slot) : Prop := la.size = nL ∧ lv_wf la ∧ ∀ (k : Nat) (v : Value), ls[k]? = some (some v) → la[k]? = some (.val (tr g v))
def VV (g : GG) (p : Program) (e : Env) (R : Room) (s : State) (m : MethodId) (args : Array Value) (below : List Frame) (meth : Method) (c : Code) (nL : Nat) (Q : State → Prop) (kc ks pc : Nat) (ls : List (Option Value)) (st : List Value) (h : Hp) : Prop :=
  ∀ (H : Heap) (locs : List Loc) (la : Array Slot), WH g h H → (∀ q ∈ locs, gn g ≤ q.base) → LM g nL ls la → W p g.1 e R s m args below meth c H locs kc ks Q (F0 m pc la (st.map (tr g)))
/-- what a method's body may lean on -/
def CX (g : GG) (p : Program) (s : State) (m : MethodId) (args : Array Value) (meth : Method) (c : Code) (cc : ByteArray) (nL : Nat) (y : MethodName) (ret : Option FieldType) (xt : List ExceptionTableEntry) : Prop :=
  p.tables.exec = Jvm.exec ∧ c.code = cc ∧ c.maxLocals = nL ∧ s.vm.findClass y.cls = some m.cls ∧ (∀ w ∈ lwG, w.before args s = true) ∧ GK g s ∧ meth.sig.returnType = ret ∧ meth.locks = false ∧ c.exceptionTable.toList = xt ∧ meth.name = y.name ∧ (∀ q : Nat, q < gn g → s.heap[q]? = (gH g)[q]?) ∧ gn g ≤ s.heap.size
def Qr (g : GG) (Pr : Option Value → Hp → Prop) : Array Value → State → Outcome → State → Prop := fun _ _ o t => ∃ (v : Option Value) (h' : Hp), o = .returned (v.map (tr g)) ∧ Pr v h' ∧ WH g h' t.heap
def Qt (g : GG) (Pt : String → Hp → Prop) : String → State → State → Prop := fun E _ t => ∃ h' : Hp, Pt E h' ∧ WH g h' t.heap
def QQ (g : GG) (below : List Frame) (args : Array Value) (s : State) (mc ms : Nat) (Pr : Option Value → Hp → Prop) (Pt : String → Hp → Prop) : State → Prop := vx_MQ below (Qr g Pr) (Qt g Pt) args s mc ms (fun q => gn g ≤ q)
def rmm (d mc ms : Nat) : Room := { frames := d, cells := mc, slots := ms, locals := 60 * d + 200 }
def Pin (g : GG) (As : List Value) (h : Hp) : Array Value → State → Prop := fun a U => a = (As.map (tr g)).toArray ∧ WH g h U.heap ∧ GK g U
/-- THE CONTRACT of a method: from the heap h, with the arguments As, in d frames, making at most mc cells of ms slots: it returns v and leaves h' with 'Pr v h'', or it throws an E and leaves h' with 'Pt E h'' -/
def CT (g : GG) (d : Nat) (y : MethodName) (ws : List Cond) (As : List Value) (h : Hp) (mc ms : Nat) (Pr : Option Value → Hp → Prop) (Pt : String → Hp → Prop) : Prop :=
  vx_Met g.1 y ws (rmm d mc ms) (Pin g As h) (Qr g Pr) (Qt g Pt) mc ms (fun q => gn g ≤ q)
abbrev wsC (y : MethodName) (cc : ByteArray) (nL : Nat) (ret : Option FieldType) : List Cond := .code y cc nL ret :: lwG
abbrev noT : String → Hp → Prop := fun _ _ => False
theorem tr_cat (g : GG) (v : Value) : (tr g v).category = v.category := by cases v <;> rfl
theorem tr_cats (g : GG) (l : List Value) : ((l.map (tr g)).map fun v => v.category) = l.map fun v => v.category := by
  rw [List.map_map]
  exact List.map_congr_left fun v _ => tr_cat g v
def entL : List Value → List (Option Value)
  | [] => []
  | v :: vs => (if v.category = 2 then [some v, none] else [some v]) ++ entL vs
def ent (As : List Value) (nL : Nat) : List (Option Value) := entL As ++ List.replicate (nL - (entL As).length) none
def prs (g : GG) (ls : List (Option Value)) : List (Nat × Value) := (List.range ls.length).filterMap (fun k => match ls[k]? with
  | some (some v) => some (k, tr g v)
  | _ => none)
theorem prs_mem {g : GG} {ls : List (Option Value)} {q : Nat × Value} : q ∈ prs g ls ↔ ∃ v, ls[q.1]? = some (some v) ∧ q.2 = tr g v := by
  unfold prs
  rw [List.mem_filterMap]
  constructor
  · rintro ⟨k, -, hk⟩
    split at hk
    · rename_i v hv
      cases hk
      exact ⟨v, hv, rfl⟩
    · cases hk
  · rintro ⟨v, hv, h2⟩
    refine ⟨q.1, List.mem_range.mpr (List.getElem?_eq_some_iff.mp hv).1, ?_⟩
    rw [hv]
    obtain ⟨a, b⟩ := q
    dsimp only at h2 ⊢
    rw [h2]
theorem LM_has {g : GG} {nL : Nat} {ls : List (Option Value)} {la : Array Slot} (h : LM g nL ls la) : lv_has la nL (prs g ls) :=
  ⟨h.1, h.2.1, fun q hq => by
    obtain ⟨v, hv, h2⟩ := prs_mem.mp hq
    rw [h2]
    exact h.2.2 q.1 v hv⟩
/-- a one-slot value may be stored at i: no long stands right ahead -/
def stOK (ls : List (Option Value)) (i : Nat) : Bool := match i with
  | 0 => true
  | j + 1 => match ls[j]? with
    | some (some v) => v.category == 1
    | _ => true
theorem LM_set1 {g : GG} {nL i : Nat} {ls : List (Option Value)} {la : Array Slot} {v : Value} (hM : LM g nL ls la) (hi : i < nL) (hc : v.category = 1) (hok : stOK ls i = true) :
    ∃ la', storeLocals la i (tr g v) = some la' ∧ LM g nL (ls.set i (some v)) la' := by
  obtain ⟨la', e1, h1, h2, h3⟩ := lv_store1 (v := tr g v) (LM_has hM) hi (by rw [tr_cat]; exact hc)
  refine ⟨la', e1, h1, h2, fun k w hk => ?_⟩
  by_cases hki : k = i
  · subst hki
    have hw : w = v := by
      rw [List.getElem?_set] at hk
      simp only [if_true] at hk
      split at hk
      · exact (Option.some.inj (Option.some.inj hk)).symm
      · cases hk
    rw [hw]
    exact h3 (k, tr g v) List.mem_cons_self
  · rw [List.getElem?_set_ne (fun q => hki q.symm)] at hk
    refine h3 (k, tr g w) (List.mem_cons_of_mem _ (List.mem_filter.mpr ⟨prs_mem.mpr ⟨w, hk, rfl⟩, ?_⟩))
    simp only [Bool.and_eq_true, Bool.not_eq_true', beq_eq_false_iff_ne, ne_eq, Bool.and_eq_false_iff]
    refine ⟨hki, ?_⟩
    by_cases hk1 : k + 1 = i
    · right
      subst hk1
      have : w.category = 1 := by
        simp only [stOK, hk] at hok
        simpa using hok
      rw [tr_cat, this]
      decide
    · left
      exact hk1
theorem LM_set2 {g : GG} {nL i : Nat} {ls : List (Option Value)} {la : Array Slot} {v : Value} (hM : LM g nL ls la) (hi : i + 1 < nL) (hc : v.category = 2) (hok : stOK ls i = true) :
    ∃ la', storeLocals la i (tr g v) = some la' ∧ LM g nL ((ls.set i (some v)).set (i + 1) none) la' := by
  obtain ⟨la', e1, h1, h2, h3⟩ := lv_store2 (v := tr g v) (LM_has hM) hi (by rw [tr_cat]; exact hc)
  refine ⟨la', e1, h1, h2, fun k w hk => ?_⟩
  by_cases hk1 : k = i + 1
  · subst hk1
    rw [List.getElem?_set] at hk
    simp only [if_true] at hk
    split at hk <;> cases hk
  · rw [List.getElem?_set_ne (fun q => hk1 q.symm)] at hk
    by_cases hki : k = i
    · subst hki
      have hw : w = v := by
        rw [List.getElem?_set] at hk
        simp only [if_true] at hk
        split at hk
        · exact (Option.some.inj (Option.some.inj hk)).symm
        · cases hk
      rw [hw]
      exact h3 (k, tr g v) List.mem_cons_self
    · rw [List.getElem?_set_ne (fun q => hki q.symm)] at hk
      refine h3 (k, tr g w) (List.mem_cons_of_mem _ (List.mem_filter.mpr ⟨prs_mem.mpr ⟨w, hk, rfl⟩, ?_⟩))
      simp only [Bool.and_eq_true, Bool.not_eq_true', beq_eq_false_iff_ne, ne_eq, Bool.and_eq_false_iff]
      refine ⟨hki, hk1, ?_⟩
      by_cases hk2 : k + 1 = i
      · right
        subst hk2
        have : w.category = 1 := by
          simp only [stOK, hk] at hok
          simpa using hok
        rw [tr_cat, this]
        decide
      · left
        exact hk2
theorem ent_args {g : GG} : ∀ (As : List Value) (i k : Nat) (v : Value), (entL As)[k]? = some (some v) → (i + k, tr g v) ∈ lv_args i (As.map (tr g)) := by
  intro As
  induction As with
  | nil => intro i k v h; simp [entL] at h
  | cons a As ih =>
    intro i k v h
    simp only [entL] at h
    simp only [List.map_cons, lv_args, tr_cat]
    by_cases hc : a.category = 2
    · rw [if_pos hc] at h ⊢
      match k, h with
      | 0, h =>
        simp at h
        subst h
        exact List.mem_cons_self
      | 1, h => simp at h
      | k + 2, h =>
        refine List.mem_cons_of_mem _ ?_
        have := ih (i + 2) k v (by simpa using h)
        rw [show i + (k + 2) = i + 2 + k by omega]
        exact this
    · rw [if_neg hc] at h ⊢
      match k, h with
      | 0, h =>
        simp at h
        subst h
        exact List.mem_cons_self
      | k + 1, h =>
        refine List.mem_cons_of_mem _ ?_
        have := ih (i + 1) k v (by simpa using h)
        rw [show i + (k + 1) = i + 1 + k by omega]
        exact this
theorem ent_len {g : GG} (As : List Value) : (lg_sl (As.map (tr g))).length = (entL As).length := by
  induction As with
  | nil => rfl
  | cons a As ih =>
    simp only [List.map_cons, lg_sl, List.flatMap_cons, List.length_append, entL, tr_cat] at ih ⊢
    rw [ih]
    by_cases hc : a.category = 2
    · rw [if_pos hc, if_pos hc]; rfl
    · rw [if_neg hc, if_neg hc]; rfl
theorem LM_ent {g : GG} {As : List Value} {nL : Nat} (h : (entL As).length ≤ nL) : LM g nL (ent As nL) ((lg_sl (As.map (tr g)) ++ List.replicate (nL - (lg_sl (As.map (tr g))).length) Slot.unset).toArray) := by
  have hl := lv_entry (As.map (tr g)) (n := nL) (by rw [ent_len]; exact h)
  refine ⟨hl.1, hl.2.1, fun k v hk => ?_⟩
  unfold ent at hk
  by_cases hkl : k < (entL As).length
  · rw [List.getElem?_append_left hkl] at hk
    have := ent_args (g := g) As 0 k v hk
    rw [Nat.zero_add] at this
    exact hl.2.2 _ this
  · rw [List.getElem?_append_right (by omega)] at hk
    have := List.eq_of_mem_replicate (List.mem_of_getElem? hk)
    cases this
theorem GK.moved {g : GG} {u U : State} (hW : u.WarmedH U.vm) (h : GK g u) : GK g U := ⟨va_K.moved hW.alike h.1, fun U' hU => h.2 U' (State.WarmedH.trans hW hU)⟩
theorem GK.z {g : GG} {u : State} (h : GK g u) : gZ g u := h.2 u (State.WarmedH.refl u)
theorem Pin_blind {g : GG} {As : List Value} {h : Hp} : FrameBlind (Pin g As h) := by
  intro a U gf mk hp
  obtain ⟨h1, h2, h3⟩ := hp
  exact ⟨h1, h2, va_K.moved (u := U) (U := U.calling gf mk a) (Vm.Alike.refl U.vm) h3.1, fun U' hU => h3.2 U' hU⟩
theorem WH.at {g : GG} {h : Hp} {H : Heap} (hW : WH g h H) {k : Nat} {e : va_E} (hk : h[k]? = some e) (hl : live e = true) : va_P (gD g) vwCl [(gn g + k, trE g e)] H := by
  intro j q hq
  match j, hq with
  | 0, hq => cases hq; exact hW.2.2 k e hk hl
theorem WH.lt {g : GG} {h : Hp} {H : Heap} (hW : WH g h H) {k : Nat} {e : va_E} (hk : h[k]? = some e) : gn g + k < H.size := by
  rw [hW.1]
  have := (List.getElem?_eq_some_iff.mp hk).1
  omega
theorem WH.set {g : GG} {h : Hp} {H H' : Heap} (hW : WH g h H) {a : Nat} {e' : va_E} (hz : H'.size = H.size) (ho : ∀ q : Nat, q ≠ gn g + a → H'[q]? = H[q]?) (he : live e' = true → va_at (gD g) vwCl (gn g + a, trE g e') H') : WH g (h.set a e') H' := by
  refine ⟨by rw [hz, hW.1, List.length_set], fun q hq => by rw [ho q (by omega)]; exact hW.2.1 q hq, fun k e hk hl => ?_⟩
  by_cases hka : k = a
  · subst hka
    rw [List.getElem?_set] at hk
    simp only [if_true] at hk
    split at hk
    · cases hk; exact he hl
    · cases hk
  · rw [List.getElem?_set_ne (fun q => hka q.symm)] at hk
    exact (hW.2.2 k e hk hl).kept (ho _ (by simp only; omega))
theorem WH.push {g : GG} {h : Hp} {H H' : Heap} (hW : WH g h H) {e' : va_E} (hz : H'.size = H.size + 1) (ho : ∀ q : Nat, q < H.size → H'[q]? = H[q]?) (he : live e' = true → va_at (gD g) vwCl (gn g + h.length, trE g e') H') : WH g (h ++ [e']) H' := by
  refine ⟨by rw [hz, hW.1, List.length_append]; rfl, fun q hq => by rw [ho q (by rw [hW.1]; omega)]; exact hW.2.1 q hq, fun k e hk hl => ?_⟩
  by_cases hka : k < h.length
  · rw [List.getElem?_append_left hka] at hk
    exact (hW.2.2 k e hk hl).kept (ho _ (hW.lt hk))
  · have h1 : k - h.length < 1 := by
      rw [List.getElem?_append_right (by omega)] at hk
      exact (List.getElem?_eq_some_iff.mp hk).1
    have h2 : k = h.length := by omega
    subst h2
    rw [List.getElem?_append_right (Nat.le_refl _), Nat.sub_self] at hk
    cases hk
    exact he hl
