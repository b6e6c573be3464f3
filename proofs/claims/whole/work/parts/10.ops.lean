/-! PURE OPERATIONS on the heap of places, and what they say; contexts in short -/
def ixo (i : Int32) (n : Nat) : Bool := !(decide (i < 0)) && decide (i.toNatClampNeg < n)
theorem ixo_in {i : Int32} {n : Nat} (h : ixo i n = true) : vp_in i n := by
  simp only [ixo, Bool.and_eq_true, Bool.not_eq_true', decide_eq_false_iff_not, decide_eq_true_eq] at h
  rintro (q | q)
  · exact h.1 q
  · omega
theorem ixo_nI {j n : Nat} (h : j < n) (hn : n < 2 ^ 31) : ixo (nI j) n = true := by
  have h1 : ¬ nI j < 0 := nI_pos (by omega)
  have h2 : (nI j).toNatClampNeg = j := nI_clamp (by omega)
  simp [ixo, h1, h2, h]
/-- an object's fields -/
def oF (h : Hp) (a ci : Nat) : Option (List Value) := match h[a]? with
  | some (.inr o) => if o.1 = ci then some o.2 else none
  | _ => none
theorem oF_s {h : Hp} {a ci : Nat} {fs : List Value} (q : oF h a ci = some fs) : h[a]? = some (.inr (ci, fs)) := by
  unfold oF at q
  split at q
  · rename_i o ho
    split at q
    · rename_i hc
      cases q
      rw [ho, ← hc]
    · cases q
  · cases q
theorem oF_of {h : Hp} {a ci : Nat} {fs : List Value} (q : h[a]? = some (.inr (ci, fs))) : oF h a ci = some fs := by
  unfold oF
  rw [q]
  simp
def gI (h : Hp) (a ci k : Nat) : Option Int32 := match oF h a ci with
  | some fs => match fs[k]? with
    | some (.int x) => some x
    | _ => none
  | none => none
def gJ (h : Hp) (a ci k : Nat) : Option Int64 := match oF h a ci with
  | some fs => match fs[k]? with
    | some (.long x) => some x
    | _ => none
  | none => none
def gN (h : Hp) (a ci k : Nat) : Option Nat := match oF h a ci with
  | some fs => match fs[k]? with
    | some (.ref x) => some x
    | _ => none
  | none => none
theorem gI_s {h : Hp} {a ci k : Nat} {x : Int32} (q : gI h a ci k = some x) : ∃ fs, h[a]? = some (.inr (ci, fs)) ∧ fs[k]? = some (.int x) := by
  unfold gI at q
  split at q
  · rename_i fs ho
    refine ⟨fs, oF_s ho, ?_⟩
    split at q
    · rename_i y hy; cases q; exact hy
    · cases q
  · cases q
theorem gJ_s {h : Hp} {a ci k : Nat} {x : Int64} (q : gJ h a ci k = some x) : ∃ fs, h[a]? = some (.inr (ci, fs)) ∧ fs[k]? = some (.long x) := by
  unfold gJ at q
  split at q
  · rename_i fs ho
    refine ⟨fs, oF_s ho, ?_⟩
    split at q
    · rename_i y hy; cases q; exact hy
    · cases q
  · cases q
theorem gN_s {h : Hp} {a ci k : Nat} {x : Nat} (q : gN h a ci k = some x) : ∃ fs, h[a]? = some (.inr (ci, fs)) ∧ fs[k]? = some (.ref x) := by
  unfold gN at q
  split at q
  · rename_i fs ho
    refine ⟨fs, oF_s ho, ?_⟩
    split at q
    · rename_i y hy; cases q; exact hy
    · cases q
  · cases q
/-- a field written -/
def pF (h : Hp) (a ci k : Nat) (v : Value) : Option Hp := match oF h a ci with
  | some fs => if k < fs.length then some (h.set a (.inr (ci, fs.set k v))) else none
  | none => none
theorem pF_s {h h' : Hp} {a ci k : Nat} {v : Value} (q : pF h a ci k v = some h') : ∃ fs, h[a]? = some (.inr (ci, fs)) ∧ k < fs.length ∧ h' = h.set a (.inr (ci, fs.set k v)) := by
  unfold pF at q
  split at q
  · rename_i fs ho
    split at q
    · rename_i hl
      cases q
      exact ⟨fs, oF_s ho, hl, rfl⟩
    · cases q
  · cases q
/-- an array of ints (t = 0), bytes (1), booleans (3) -/
def aF (h : Hp) (t a : Nat) : Option (Nat × (Nat → Int32)) := match h[a]? with
  | some (.inl x) => if x.1 = t then (match x.2.2 with
    | .inl f => some (x.2.1, f)
    | _ => none) else none
  | _ => none
theorem aF_s {h : Hp} {t a : Nat} {x : Nat × (Nat → Int32)} (q : aF h t a = some x) : h[a]? = some (.inl (t, x.1, .inl x.2)) := by
  unfold aF at q
  split at q
  · rename_i z hz
    obtain ⟨z1, z2, z3⟩ := z
    dsimp only at q
    split at q
    · rename_i ht
      split at q
      · rename_i f
        cases q
        rw [hz, ← ht]
      · cases q
    · cases q
  · cases q
theorem aF_of {h : Hp} {t a n : Nat} {f : Nat → Int32} (q : h[a]? = some (.inl (t, n, .inl f))) : aF h t a = some (n, f) := by
  unfold aF
  rw [q]
  simp
def aI (h : Hp) (t a : Nat) (i : Int32) : Option Int32 := match aF h t a with
  | some x => if ixo i x.1 = true then some (x.2 i.toNatClampNeg) else none
  | none => none
theorem aI_s {h : Hp} {t a : Nat} {i v : Int32} (q : aI h t a i = some v) : ∃ n f, h[a]? = some (.inl (t, n, .inl f)) ∧ vp_in i n ∧ f i.toNatClampNeg = v := by
  unfold aI at q
  split at q
  · rename_i x hx
    split at q
    · rename_i hi
      cases q
      exact ⟨x.1, x.2, aF_s hx, ixo_in hi, rfl⟩
    · cases q
  · cases q
def narT (t : Nat) (x : Int32) : Int32 := match t with
  | 0 => x
  | 1 => vp_nar .byte x
  | _ => vp_nar .boolean x
def uI (h : Hp) (t a : Nat) (i x : Int32) : Option Hp := match aF h t a with
  | some z => if ixo i z.1 = true then some (h.set a (.inl (t, z.1, .inl (upd z.2 i.toNatClampNeg (narT t x))))) else none
  | none => none
theorem uI_s {h h' : Hp} {t a : Nat} {i x : Int32} (q : uI h t a i x = some h') : ∃ n f, h[a]? = some (.inl (t, n, .inl f)) ∧ vp_in i n ∧ h' = h.set a (.inl (t, n, .inl (upd f i.toNatClampNeg (narT t x)))) := by
  unfold uI at q
  split at q
  · rename_i z hz
    split at q
    · rename_i hi
      cases q
      exact ⟨z.1, z.2, aF_s hz, ixo_in hi, rfl⟩
    · cases q
  · cases q
/-- arrays of longs -/
def aG (h : Hp) (a : Nat) : Option (Nat × (Nat → Int64)) := match h[a]? with
  | some (.inl x) => if x.1 = 2 then (match x.2.2 with
    | .inr (.inl f) => some (x.2.1, f)
    | _ => none) else none
  | _ => none
theorem aG_s {h : Hp} {a : Nat} {x : Nat × (Nat → Int64)} (q : aG h a = some x) : h[a]? = some (.inl (2, x.1, .inr (.inl x.2))) := by
  unfold aG at q
  split at q
  · rename_i z hz
    obtain ⟨z1, z2, z3⟩ := z
    dsimp only at q
    split at q
    · rename_i ht
      split at q
      · rename_i f
        cases q
        rw [hz, ← ht]
      · cases q
    · cases q
  · cases q
theorem aG_of {h : Hp} {a n : Nat} {f : Nat → Int64} (q : h[a]? = some (.inl (2, n, .inr (.inl f)))) : aG h a = some (n, f) := by
  unfold aG
  rw [q]
  simp
def aJ (h : Hp) (a : Nat) (i : Int32) : Option Int64 := match aG h a with
  | some x => if ixo i x.1 = true then some (x.2 i.toNatClampNeg) else none
  | none => none
theorem aJ_s {h : Hp} {a : Nat} {i : Int32} {v : Int64} (q : aJ h a i = some v) : ∃ n f, h[a]? = some (.inl (2, n, .inr (.inl f))) ∧ vp_in i n ∧ f i.toNatClampNeg = v := by
  unfold aJ at q
  split at q
  · rename_i x hx
    split at q
    · rename_i hi
      cases q
      exact ⟨x.1, x.2, aG_s hx, ixo_in hi, rfl⟩
    · cases q
  · cases q
def uJ (h : Hp) (a : Nat) (i : Int32) (x : Int64) : Option Hp := match aG h a with
  | some z => if ixo i z.1 = true then some (h.set a (.inl (2, z.1, .inr (.inl (vp_updL z.2 i.toNatClampNeg x))))) else none
  | none => none
theorem uJ_s {h h' : Hp} {a : Nat} {i : Int32} {x : Int64} (q : uJ h a i x = some h') : ∃ n f, h[a]? = some (.inl (2, n, .inr (.inl f))) ∧ vp_in i n ∧ h' = h.set a (.inl (2, n, .inr (.inl (vp_updL f i.toNatClampNeg x)))) := by
  unfold uJ at q
  split at q
  · rename_i z hz
    split at q
    · rename_i hi
      cases q
      exact ⟨z.1, z.2, aG_s hz, ixo_in hi, rfl⟩
    · cases q
  · cases q
def lenA (h : Hp) (a : Nat) : Option Int32 := match h[a]? with
  | some (.inl x) => if x.1 < 4 then some (nI x.2.1) else none
  | _ => none
theorem lenA_s {h : Hp} {a : Nat} {v : Int32} (q : lenA h a = some v) : ∃ t n f, h[a]? = some (.inl (t, n, f)) ∧ t < 4 ∧ nI n = v := by
  unfold lenA at q
  split at q
  · rename_i x hx
    split at q
    · rename_i ht
      cases q
      exact ⟨x.1, x.2.1, x.2.2, hx, ht, rfl⟩
    · cases q
  · cases q
def cpA (h : Hp) (a0 : Nat) (sp : Int32) (a : Nat) (dp n : Int32) : Option Hp := match aF h 0 a0, aF h 0 a with
  | some x, some z => if decide (sp < 0) || decide (dp < 0) || decide (n < 0) || decide (x.1 < sp.toNatClampNeg + n.toNatClampNeg) || decide (z.1 < dp.toNatClampNeg + n.toNatClampNeg) then none else some (h.set a (.inl (0, z.1, .inl (cpyF x.2 z.2 sp.toNatClampNeg dp.toNatClampNeg n.toNatClampNeg z.1))))
  | _, _ => none
theorem cpA_s {h h' : Hp} {a0 a : Nat} {sp dp n : Int32} (q : cpA h a0 sp a dp n = some h') : ∃ n0 f n1 f1, h[a0]? = some (.inl (0, n0, .inl f)) ∧ h[a]? = some (.inl (0, n1, .inl f1)) ∧ ¬ sp < 0 ∧ ¬ dp < 0 ∧ ¬ n < 0 ∧ sp.toNatClampNeg + n.toNatClampNeg ≤ n0 ∧ dp.toNatClampNeg + n.toNatClampNeg ≤ n1 ∧ h' = h.set a (.inl (0, n1, .inl (cpyF f f1 sp.toNatClampNeg dp.toNatClampNeg n.toNatClampNeg n1))) := by
  unfold cpA at q
  split at q
  · rename_i x z hx hz
    split at q
    · cases q
    · rename_i hc
      simp only [Bool.or_eq_true, decide_eq_true_eq, not_or] at hc
      cases q
      exact ⟨x.1, x.2, z.1, z.2, aF_s hx, aF_s hz, hc.1.1.1.1, hc.1.1.1.2, hc.1.1.2, by omega, by omega, rfl⟩
  · cases q
/-- boolean fields take 0 and 1 -/
def isB (x : Int32) : Prop := x = 0 ∨ x = 1
theorem isB_n {x : Int32} (h : isB x) : narrow .boolean (.int x) = .int x := by rcases h with rfl | rfl <;> rfl
theorem isB_f {x : Int32} (h : isB x) : fits .boolean (.int x) = true := by rcases h with rfl | rfl <;> rfl
/-! contexts in short -/
abbrev KX : Type := Program × Env × State × MethodId × Array Value × List Frame × Method × Code
abbrev kS (K : KX) : State := K.2.2.1
/-- what the tables say beside the words: fixed at the end -/
def VB (g : GG) (K : KX) (nL D mc ms : Nat) (Pr : Option Value → Hp → Prop) (Pt : String → Hp → Prop) (kc ks pc : Nat) (ls : List (Option Value)) (st : List Value) (h : Hp) : Prop :=
  VV g K.1 K.2.1 (rmm D mc ms) K.2.2.1 K.2.2.2.1 K.2.2.2.2.1 K.2.2.2.2.2.1 K.2.2.2.2.2.2.1 K.2.2.2.2.2.2.2 nL (QQ g K.2.2.2.2.2.1 K.2.2.2.2.1 K.2.2.1 mc ms Pr Pt) kc ks pc ls st h
def CB (g : GG) (K : KX) (cc : ByteArray) (nL : Nat) (y : MethodName) (ret : Option FieldType) (xt : List ExceptionTableEntry) : Prop :=
  CX g K.1 K.2.2.1 K.2.2.2.1 K.2.2.2.2.1 K.2.2.2.2.2.2.1 K.2.2.2.2.2.2.2 cc nL y ret xt
/-- fewer known locals -/
def Sub : List (Option Value) → List (Option Value) → Prop
  | [], _ => True
  | none :: a, _ :: b => Sub a b
  | some v :: a, o :: b => o = some v ∧ Sub a b
  | none :: a, [] => Sub a []
  | some _ :: _, [] => False
theorem Sub_at : ∀ {a b : List (Option Value)}, Sub a b → ∀ (k : Nat) (v : Value), a[k]? = some (some v) → b[k]? = some (some v) := by
  intro a
  induction a with
  | nil => intro b _ k v h; simp at h
  | cons o a ih =>
    intro b hs k v h
    cases o with
    | none =>
      cases b with
      | nil =>
        cases k with
        | zero => simp at h
        | succ k => have := ih (b := []) hs k v (by simpa using h); simp at this
      | cons p b =>
        cases k with
        | zero => simp at h
        | succ k => have := ih (b := b) hs k v (by simpa using h); simpa using this
    | some w =>
      cases b with
      | nil => exact hs.elim
      | cons p b =>
        cases k with
        | zero => simp at h; subst h; simp [hs.1]
        | succ k => have := ih (b := b) hs.2 k v (by simpa using h); simpa using this
theorem VB_wk {g : GG} {K : KX} {nL D mc ms : Nat} {Pr : Option Value → Hp → Prop} {Pt : String → Hp → Prop} {kc ks pc : Nat} {ls ls' : List (Option Value)} {st : List Value} {h : Hp} (hs : Sub ls' ls) (k : VB g K nL D mc ms Pr Pt kc ks pc ls' st h) : VB g K nL D mc ms Pr Pt kc ks pc ls st h :=
  fun H locs la hW hL hM => k H locs la hW hL ⟨hM.1, hM.2.1, fun j v hj => hM.2.2 j v (Sub_at hs j v hj)⟩
theorem CT_ofB {g : GG} {cc : ByteArray} {y : MethodName} {nL d mc ms : Nat} {ret : Option FieldType} {h : Hp} {Pr : Option Value → Hp → Prop} {Pt : String → Hp → Prop} {As : List Value} {ls0 : List (Option Value)} (hy : plainName y.cls = true) (hl : (entL As).length ≤ nL) (he : ent As nL = ls0)
    (body : ∀ K : KX, CB g K cc nL y ret [] → VB g K nL d mc ms Pr Pt 0 0 0 ls0 [] h) : CT g d y (wsC y cc nL ret) As h mc ms Pr Pt :=
  CT_of hy hl he fun p e s m args below meth c X => body (p, e, s, m, args, below, meth, c) X
