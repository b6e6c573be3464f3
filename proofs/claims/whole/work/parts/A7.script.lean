/-! THE SCRIPT: what was there before, at '.retAddr 100' -/
def SX (g : GG) (L : Nat) (xs : Nat → Int32) : Prop := L ≤ 384 ∧ ∀ U, gZ g U → va_X (gR g 100) L xs U (gH g) ∧ gR g 100 < (gH g).size ∧ gn g = (gH g).size
section SCR
variable {g : GG} {p : Program} {e : Env} {R : Room} {s : State} {m : MethodId} {args : Array Value} {below : List Frame} {meth : Method} {c : Code} {nL : Nat} {Q : State → Prop} {kc ks pc : Nat} {ls : List (Option Value)} {st : List Value} {h : Hp} {cc : ByteArray} {y : MethodName} {ret : Option FieldType} {xt : List ExceptionTableEntry} {L : Nat} {xs : Nat → Int32}
theorem VV_wk {ls' : List (Option Value)} (hs : Sub ls' ls) (k : VV g p e R s m args below meth c nL Q kc ks pc ls' st h) : VV g p e R s m args below meth c nL Q kc ks pc ls st h :=
  fun H locs la hW hL hM => k H locs la hW hL ⟨hM.1, hM.2.1, fun j v hj => hM.2.2 j v (Sub_at hs j v hj)⟩
theorem SX.at_ (hX : SX g L xs) (X : CX g p s m args meth c cc nL y ret xt) : va_X (gR g 100) L xs s s.heap ∧ gR g 100 < s.heap.size ∧ ¬ gn g ≤ gR g 100 := by
  obtain ⟨h1, h2, h3⟩ := hX.2 s X.gk.z
  have h0 := X.h0
  refine ⟨h1.kept (h0.1 _ (by omega)), by omega, by omega⟩
theorem r_sld (X : CX g p s m args meth c cc nL y ret xt) {i : Int32} {k : Nat} (d : decode cc pc = .ok (.iaload, 1)) (hX : SX g L xs) (ei : i = nI k) (hk : k < L) (kk : VV g p e R s m args below meth c nL Q kc ks (pc + 1) ls (.int (xs k) :: st) h) : VV g p e R s m args below meth c nL Q kc ks pc ls (.int i :: .retAddr 100 :: st) h := by
  intro H locs la hW hL hM T hT Y
  obtain ⟨a1, a2, a3⟩ := hX.at_ X
  have h384 := hX.1
  have ec : i.toNatClampNeg = k := by rw [ei]; exact nI_clamp (by omega)
  have hin : vp_in i L := by
    rw [ei]
    exact fun q => q.elim (fun q => absurd q (nI_pos (by omega))) (fun q => by rw [nI_clamp (by omega)] at q; omega)
  refine va_sld X.ex X.by a1 a2 a3 (sS_of X hW hL hT Y) hin d ?_ T hT Y
  rw [ec]
  exact kk H locs la hW hL hM
theorem r_slen (X : CX g p s m args meth c cc nL y ret xt) (d : decode cc pc = .ok (.arraylength, 1)) (hX : SX g L xs) (kk : VV g p e R s m args below meth c nL Q kc ks (pc + 1) ls (.int (nI L) :: st) h) : VV g p e R s m args below meth c nL Q kc ks pc ls (.retAddr 100 :: st) h := by
  intro H locs la hW hL hM T hT Y
  obtain ⟨a1, a2, a3⟩ := hX.at_ X
  exact va_slen X.ex X.by a1 a2 a3 (sS_of X hW hL hT Y) d (kk H locs la hW hL hM) T hT Y
end SCR
