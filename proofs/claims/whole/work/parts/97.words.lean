/-! WHAT WAS THERE BEFORE: the words, their spellings -/
def wspL : List (List Nat) := [[115, 116, 114, 101, 116, 99, 104], [119, 111, 109, 97, 110], [107, 110, 111, 116, 115], [119, 101, 101, 107], [102, 114, 97, 121, 115], [112, 117, 108, 108, 115], [111, 114], [97, 110, 100], [110, 111, 116], [115, 116, 114, 97, 105, 110], [115, 101, 97, 109], [115, 116, 105, 116, 99, 104], [98, 101, 115, 105, 100, 101], [119, 111, 109, 101, 110], [100, 97, 121], []]
def wsp (k : Nat) : List Nat := wspL.getD k []
def wln (k : Nat) : Nat := (wsp k).length
def wby (k j : Nat) : Int32 := nI ((wsp k).getD j 0)
def wcdL : List Int32 := [0, 0, 0, 0, 0, 0, 0, 0, 0, -1, -2, -3, -4, -5, -6, 0]
def wcd (k : Nat) : Int32 := wcdL.getD k 0
abbrev oldA (g : GG) : Nat → Prop := fun q => gn g ≤ q
abbrev strC : String := "java/lang/String"
def WQ (g : GG) (U : State) : Prop := gn g = (gH g).size
  ∧ (∀ k, k < 16 → va_O RX10 (gR g k) (oldA g) U (gH g) ∧ va_OF "HorizonSeam$Word" "spelling" "Ljava/lang/String;" (.ref (gR g (16 + k))) (gR g k) (oldA g) U (gH g) ∧ va_OF "HorizonSeam$Word" "code" "I" (.int (wcd k)) (gR g k) (oldA g) U (gH g))
  ∧ (∀ k, k < 16 → va_O strC (gR g (16 + k)) (oldA g) U (gH g) ∧ va_OF strC "coder" "B" (.int 0) (gR g (16 + k)) (oldA g) U (gH g) ∧ va_OF strC "value" "[B" (.ref (gR g (32 + k))) (gR g (16 + k)) (oldA g) U (gH g) ∧ va_T .byte (gR g (32 + k)) (wln k) (fun j => .int (wby k j)) (oldA g) U (gH g))
  ∧ va_Z "HorizonSeam$Word" "ALL" "[LHorizonSeam$Word;" (.ref (gR g 48)) (oldA g) U (gH g)
  ∧ va_T (.object "HorizonSeam$Word") (gR g 48) 16 (fun j => .ref (gR g j)) (oldA g) U (gH g)
  ∧ va_Z strC "COMPACT_STRINGS" "Z" (.int 1) (oldA g) U (gH g)
  ∧ (va_Z "jdk/internal/util/Preconditions" "SIOOBE_FORMATTER" "Ljava/util/function/BiFunction;" .null (oldA g) U (gH g) ∨ va_Z "jdk/internal/util/Preconditions" "SIOOBE_FORMATTER" "Ljava/util/function/BiFunction;" (.ref (gR g 49)) (oldA g) U (gH g))
def GOW (g : GG) : Prop := ∀ U, gZ g U → WQ g U
theorem WQ.w {g : GG} {U : State} (q : WQ g U) {k : Nat} (hk : k < 16) : va_O RX10 (gR g k) (oldA g) U (gH g) := (q.2.1 k hk).1
theorem WQ.s {g : GG} {U : State} (q : WQ g U) {k : Nat} (hk : 16 ≤ k ∧ k < 32) : va_O RJ0 (gR g k) (oldA g) U (gH g) := by
  have := (q.2.2.1 (k - 16) (by omega)).1
  rw [show 16 + (k - 16) = k by omega] at this
  exact this
section RO
variable {g : GG} {p : Program} {e : Env} {R : Room} {s : State} {m : MethodId} {args : Array Value} {below : List Frame} {meth : Method} {c : Code} {nL : Nat} {Q : State → Prop} {kc ks pc : Nat} {ls : List (Option Value)} {st : List Value} {h : Hp} {cc : ByteArray} {y : MethodName} {ret : Option FieldType} {xt : List ExceptionTableEntry}
variable {mc ms : Nat} {Pr : Option Value → Hp → Prop} {Pt : String → Hp → Prop}
theorem oldK (X : CX g p s m args meth c cc nL y ret xt) (hz : gn g = (gH g).size) : ∀ a : Nat, a < (gH g).size → ¬ oldA g a → s.heap[a]? = (gH g)[a]? := fun a ha _ => X.h0.1 a (by rw [hz]; exact ha)
theorem r_getfO (X : CX g p s m args meth c cc nL y ret xt) {o n ds : String} {idx k : Nat} {v : Value} (d : decode cc pc = .ok (.getfield idx, 3)) (hE : va_OF o n ds (tr g v) (gR g k) (oldA g) s (gH g)) (hz : gn g = (gH g).size) (hlk : Cond.fieldLink y.cls idx o n ds ∈ lwG) (kk : VV g p e R s m args below meth c nL Q kc ks (pc + 3) ls (v :: st) h) : VV g p e R s m args below meth c nL Q kc ks pc ls (.retAddr k :: st) h := by
  intro H locs la hW hL hM T hT Y
  exact vk_getf X.ex X.by (hE.kept (oldK X hz)) (sS_of X hW hL hT Y) X.ow (X.ts _ hlk) (fun _ q => q) d (kk H locs la hW hL hM) T hT Y
theorem r_getsO (X : CX g p s m args meth c cc nL y ret xt) {o n ds : String} {idx : Nat} {v : Value} (d : decode cc pc = .ok (.getstatic idx, 3)) (hE : va_Z o n ds (tr g v) (oldA g) s (gH g)) (hz : gn g = (gH g).size) (hlk : Cond.fieldLink y.cls idx o n ds ∈ lwG) (kk : VV g p e R s m args below meth c nL Q kc ks (pc + 3) ls (v :: st) h) : VV g p e R s m args below meth c nL Q kc ks pc ls st h := by
  intro H locs la hW hL hM T hT Y
  exact va_gets X.ex X.by (hE.kept (oldK X hz)) (sS_of X hW hL hT Y) X.ow (X.ts _ hlk) (fun _ q => q) d (kk H locs la hW hL hM) T hT Y
theorem r_tlenO (X : CX g p s m args meth c cc nL y ret xt) {k N : Nat} {ty : FieldType} {f : Nat → Value} {v : Int32} (d : decode cc pc = .ok (.arraylength, 1)) (hE : va_T ty (gR g k) N f (oldA g) s (gH g)) (hz : gn g = (gH g).size) (hv : Int32.ofNat N = v) (kk : VV g p e R s m args below meth c nL Q kc ks (pc + 1) ls (.int v :: st) h) : VV g p e R s m args below meth c nL Q kc ks pc ls (.retAddr k :: st) h := by
  intro H locs la hW hL hM T hT Y
  exact va_tlen X.ex X.by (hE.kept (oldK X hz)) (sS_of X hW hL hT Y) hv d (kk H locs la hW hL hM) T hT Y
theorem r_tbO (X : CX g p s m args meth c cc nL y ret xt) {k N j : Nat} {f : Nat → Value} {i v : Int32} (d : decode cc pc = .ok (.baload, 1)) (hE : va_T .byte (gR g k) N f (oldA g) s (gH g)) (hz : gn g = (gH g).size) (hi : i = nI j) (hj : j < N) (hN : N < 2 ^ 31) (hv : f j = .int v) (kk : VV g p e R s m args below meth c nL Q kc ks (pc + 1) ls (.int v :: st) h) : VV g p e R s m args below meth c nL Q kc ks pc ls (.int i :: .retAddr k :: st) h := by
  intro H locs la hW hL hM T hT Y
  subst hi
  exact va_tb X.ex X.by (hE.kept (oldK X hz)) (sS_of X hW hL hT Y) (vp_in_nI hj hN) (v := .int v) (by rw [nI_clamp (by omega)]; exact hv) d (kk H locs la hW hL hM) T hT Y
theorem r_tqO (X : CX g p s m args meth c cc nL y ret xt) {k N j : Nat} {C : String} {i : Int32} (d : decode cc pc = .ok (.aaload, 1)) (hE : va_T (.object C) (gR g k) N (fun j => .ref (gR g j)) (oldA g) s (gH g)) (hz : gn g = (gH g).size) (hi : i = nI j) (hj : j < N) (hN : N < 2 ^ 31) (kk : VV g p e R s m args below meth c nL Q kc ks (pc + 1) ls (.retAddr j :: st) h) : VV g p e R s m args below meth c nL Q kc ks pc ls (.int i :: .retAddr k :: st) h := by
  intro H locs la hW hL hM T hT Y
  subst hi
  exact vb_tq X.ex X.by (hE.kept (oldK X hz)) (sS_of X hW hL hT Y) (vp_in_nI hj hN) (v := .ref (gR g j)) (by rw [nI_clamp (by omega)]) d (kk H locs la hW hL hM) T hT Y
theorem old_recv {H : Heap} {C : String} {b : Nat} (hO : va_O C (gR g b) (oldA g) s (gH g)) (hz : gn g = (gH g).size) (hW : WH g h H) : ∃ cellB : Cell, H[gR g b]? = some cellB ∧ cellB.vm.isStatics = false ∧ s.vm.findClass C = some cellB.cls := by
  obtain ⟨cell, h1, h2, h3, -⟩ := hO
  refine ⟨cell, ?_, h2, h3⟩
  rw [hW.2.1 _ (by rw [hz]; exact (Array.getElem?_eq_some_iff.mp h1).1)]
  exact h1
/-- an instance method of something that was there before -/
theorem r_callVR (X : CX g p s m args meth c cc nL y ret xt) {y2 : MethodName} {c2 : ByteArray} {n2 na d idx b mc' ms' : Nat} {r2 : Option FieldType} {As : List Value} {Pr2 : Option Value → Hp → Prop} {Pt2 : String → Hp → Prop} {st0 : List Value}
    (dd : decode cc pc = .ok (.invokevirtual idx, 3)) (hk : MK y2 c2 n2 r2 na) (hw : Cond.methodLink y.cls idx y2 ∈ lwG ∧ Cond.instanceMethod y2 ∈ lwG ∧ Cond.selects y2.cls y2 y2 ∈ lwG) (hO : va_O y2.cls (gR g b) (oldA g) s (gH g)) (hz : gn g = (gH g).size)
    (hs : st0 = As.reverse ++ .retAddr b :: st) (hn : As.length = na) (hcat : (st.map fun v => v.category).sum ≤ 8) (hR : d + 1 ≤ R.frames ∧ 60 * (d + 1) + 200 ≤ R.locals) (hce : kc + mc' ≤ R.cells ∧ ks + ms' ≤ R.slots)
    (hM2 : CT g d y2 (wsC y2 c2 n2 r2) (.retAddr b :: As) h mc' ms' Pr2 Pt2)
    (kx : ∀ E h', Pt2 E h' → Pt E h') (hxt : ∀ x ∈ xt, covers x pc = false) (h1 : (∃ E h', Pt2 E h') → kc + mc' ≤ mc ∧ ks + ms' ≤ ms)
    (kk : ∀ v h', Pr2 v h' → VV g p e R s m args below meth c nL (QQ g below args s mc ms Pr Pt) (kc + mc') (ks + ms') (pc + 3) ls (v.toList ++ st) h') : VV g p e R s m args below meth c nL (QQ g below args s mc ms Pr Pt) kc ks pc ls st0 h := by
  subst hs
  intro H locs la hW hL hM
  refine run_end X hW hL hM (a := (Value.ref (gR g b) :: As.map (tr g)).toArray) (vx_runV (C := y2.cls) (bytes := c2) (maxL := n2) (ret := r2) (n := na) (index := idx) (As := As.map (tr g)) ⟨X.ex, X.by, X.ml, X.ow, X.ts⟩ hM2 ⟨hk.B X.ts hw.1 hR.1 hR.2, X.ts _ hw.2.1, X.ts _ hw.2.2⟩ ⟨Pin_blind, old_recv hO hz hW, fun U hU hWm => ⟨rfl, by rw [hU]; exact hW, GK.moved hWm X.gk⟩⟩ rfl (by rw [List.length_map]; exact hn) hM.1 ?_ ?_ dd hce) kk kx hxt h1
  · show List.map (tr g) (As.reverse ++ .retAddr b :: st) = _
    rw [List.map_append, List.map_reverse]
    rfl
  · show 2 * 0 + _ ≤ 8
    rw [tr_cats]
    omega
end RO
theorem fo_X10_73 : Cond.fieldLink RX10 73 "HorizonSeam$Word" "spelling" "Ljava/lang/String;" ∈ lwG := inK9 110 (by decide +kernel) rfl
theorem fo_X10_81 : Cond.fieldLink RX10 81 "HorizonSeam$Word" "ALL" "[LHorizonSeam$Word;" ∈ lwG := inK4 134 (by decide +kernel) rfl
theorem fo_X5_231 : Cond.fieldLink RX5 231 "HorizonSeam$Word" "code" "I" ∈ lwG := inK9 113 (by decide +kernel) rfl
theorem fo_J0_9 : Cond.fieldLink RJ0 9 "java/lang/String" "value" "[B" ∈ lwG := inK9 111 (by decide +kernel) rfl
theorem fo_J0_15 : Cond.fieldLink RJ0 15 "java/lang/String" "coder" "B" ∈ lwG := inK9 112 (by decide +kernel) rfl
theorem fo_J0_38 : Cond.fieldLink RJ0 38 "java/lang/String" "COMPACT_STRINGS" "Z" ∈ lwG := inK4 14 (by decide +kernel) rfl
theorem fo_J0_1053 : Cond.fieldLink RJ0 1053 "jdk/internal/util/Preconditions" "SIOOBE_FORMATTER" "Ljava/util/function/BiFunction;" ∈ lwG := inK4 30 (by decide +kernel) rfl
theorem dX10_of_0 : decode cX10_of 0 = .ok (.iconst 0, 1) := by decide +kernel
theorem dX10_of_1 : decode cX10_of 1 = .ok (.istore_n 3, 1) := by decide +kernel
theorem dX10_of_2 : decode cX10_of 2 = .ok (.iload_n 3, 1) := by decide +kernel
theorem dX10_of_3 : decode cX10_of 3 = .ok (.getstatic 81, 3) := by decide +kernel
theorem dX10_of_6 : decode cX10_of 6 = .ok (.arraylength, 1) := by decide +kernel
theorem dX10_of_7 : decode cX10_of 7 = .ok (.if_icmp .ge 29, 3) := by decide +kernel
theorem dX10_of_10 : decode cX10_of 10 = .ok (.getstatic 81, 3) := by decide +kernel
theorem dX10_of_13 : decode cX10_of 13 = .ok (.iload_n 3, 1) := by decide +kernel
theorem dX10_of_14 : decode cX10_of 14 = .ok (.aaload, 1) := by decide +kernel
theorem dX10_of_15 : decode cX10_of 15 = .ok (.aload_n 0, 1) := by decide +kernel
theorem dX10_of_16 : decode cX10_of 16 = .ok (.iload_n 1, 1) := by decide +kernel
theorem dX10_of_17 : decode cX10_of 17 = .ok (.iload_n 2, 1) := by decide +kernel
theorem dX10_of_18 : decode cX10_of 18 = .ok (.invokevirtual 84, 3) := by decide +kernel
theorem dX10_of_21 : decode cX10_of 21 = .ok (.ifCond .eq 9, 3) := by decide +kernel
theorem dX10_of_24 : decode cX10_of 24 = .ok (.getstatic 81, 3) := by decide +kernel
theorem dX10_of_27 : decode cX10_of 27 = .ok (.iload_n 3, 1) := by decide +kernel
theorem dX10_of_28 : decode cX10_of 28 = .ok (.aaload, 1) := by decide +kernel
theorem dX10_of_29 : decode cX10_of 29 = .ok (.areturn, 1) := by decide +kernel
theorem dX10_of_30 : decode cX10_of 30 = .ok (.iinc 3 1, 3) := by decide +kernel
theorem dX10_of_33 : decode cX10_of 33 = .ok (.goto (-31), 3) := by decide +kernel
theorem dX10_of_36 : decode cX10_of 36 = .ok (.getstatic 51, 3) := by decide +kernel
theorem dX10_of_39 : decode cX10_of 39 = .ok (.areturn, 1) := by decide +kernel
theorem dX10_isSpelled_0 : decode cX10_isSpelled 0 = .ok (.iload_n 3, 1) := by decide +kernel
theorem dX10_isSpelled_1 : decode cX10_isSpelled 1 = .ok (.iload_n 2, 1) := by decide +kernel
theorem dX10_isSpelled_2 : decode cX10_isSpelled 2 = .ok (.isub, 1) := by decide +kernel
theorem dX10_isSpelled_3 : decode cX10_isSpelled 3 = .ok (.aload_n 0, 1) := by decide +kernel
theorem dX10_isSpelled_4 : decode cX10_isSpelled 4 = .ok (.getfield 73, 3) := by decide +kernel
theorem dX10_isSpelled_7 : decode cX10_isSpelled 7 = .ok (.invokevirtual 88, 3) := by decide +kernel
theorem dX10_isSpelled_10 : decode cX10_isSpelled 10 = .ok (.if_icmp .ne 13, 3) := by decide +kernel
theorem dX10_isSpelled_13 : decode cX10_isSpelled 13 = .ok (.iload_n 2, 1) := by decide +kernel
theorem dX10_isSpelled_14 : decode cX10_isSpelled 14 = .ok (.ifCond .lt 9, 3) := by decide +kernel
theorem dX10_isSpelled_17 : decode cX10_isSpelled 17 = .ok (.iload_n 3, 1) := by decide +kernel
theorem dX10_isSpelled_18 : decode cX10_isSpelled 18 = .ok (.aload_n 1, 1) := by decide +kernel
theorem dX10_isSpelled_19 : decode cX10_isSpelled 19 = .ok (.arraylength, 1) := by decide +kernel
theorem dX10_isSpelled_20 : decode cX10_isSpelled 20 = .ok (.if_icmp .le 5, 3) := by decide +kernel
theorem dX10_isSpelled_23 : decode cX10_isSpelled 23 = .ok (.iconst 0, 1) := by decide +kernel
theorem dX10_isSpelled_24 : decode cX10_isSpelled 24 = .ok (.ireturn, 1) := by decide +kernel
theorem dX10_isSpelled_25 : decode cX10_isSpelled 25 = .ok (.iload_n 2, 1) := by decide +kernel
theorem dX10_isSpelled_26 : decode cX10_isSpelled 26 = .ok (.istore 4, 2) := by decide +kernel
theorem dX10_isSpelled_28 : decode cX10_isSpelled 28 = .ok (.iload 4, 2) := by decide +kernel
theorem dX10_isSpelled_30 : decode cX10_isSpelled 30 = .ok (.iload_n 3, 1) := by decide +kernel
theorem dX10_isSpelled_31 : decode cX10_isSpelled 31 = .ok (.if_icmp .ge 29, 3) := by decide +kernel
theorem dX10_isSpelled_34 : decode cX10_isSpelled 34 = .ok (.aload_n 1, 1) := by decide +kernel
theorem dX10_isSpelled_35 : decode cX10_isSpelled 35 = .ok (.iload 4, 2) := by decide +kernel
theorem dX10_isSpelled_37 : decode cX10_isSpelled 37 = .ok (.baload, 1) := by decide +kernel
theorem dX10_isSpelled_38 : decode cX10_isSpelled 38 = .ok (.aload_n 0, 1) := by decide +kernel
theorem dX10_isSpelled_39 : decode cX10_isSpelled 39 = .ok (.getfield 73, 3) := by decide +kernel
theorem dX10_isSpelled_42 : decode cX10_isSpelled 42 = .ok (.iload 4, 2) := by decide +kernel
theorem dX10_isSpelled_44 : decode cX10_isSpelled 44 = .ok (.iload_n 2, 1) := by decide +kernel
theorem dX10_isSpelled_45 : decode cX10_isSpelled 45 = .ok (.isub, 1) := by decide +kernel
theorem dX10_isSpelled_46 : decode cX10_isSpelled 46 = .ok (.invokevirtual 94, 3) := by decide +kernel
theorem dX10_isSpelled_49 : decode cX10_isSpelled 49 = .ok (.if_icmp .eq 5, 3) := by decide +kernel
theorem dX10_isSpelled_52 : decode cX10_isSpelled 52 = .ok (.iconst 0, 1) := by decide +kernel
theorem dX10_isSpelled_53 : decode cX10_isSpelled 53 = .ok (.ireturn, 1) := by decide +kernel
theorem dX10_isSpelled_54 : decode cX10_isSpelled 54 = .ok (.iinc 4 1, 3) := by decide +kernel
theorem dX10_isSpelled_57 : decode cX10_isSpelled 57 = .ok (.goto (-29), 3) := by decide +kernel
theorem dX10_isSpelled_60 : decode cX10_isSpelled 60 = .ok (.iconst 1, 1) := by decide +kernel
theorem dX10_isSpelled_61 : decode cX10_isSpelled 61 = .ok (.ireturn, 1) := by decide +kernel
theorem dJ0_length_8abf5_0 : decode cJ0_length_8abf5 0 = .ok (.aload_n 0, 1) := by decide +kernel
theorem dJ0_length_8abf5_1 : decode cJ0_length_8abf5 1 = .ok (.getfield 9, 3) := by decide +kernel
theorem dJ0_length_8abf5_4 : decode cJ0_length_8abf5 4 = .ok (.arraylength, 1) := by decide +kernel
theorem dJ0_length_8abf5_5 : decode cJ0_length_8abf5 5 = .ok (.aload_n 0, 1) := by decide +kernel
theorem dJ0_length_8abf5_6 : decode cJ0_length_8abf5 6 = .ok (.invokevirtual 335, 3) := by decide +kernel
theorem dJ0_length_8abf5_9 : decode cJ0_length_8abf5 9 = .ok (.ishr, 1) := by decide +kernel
theorem dJ0_length_8abf5_10 : decode cJ0_length_8abf5 10 = .ok (.ireturn, 1) := by decide +kernel
theorem dJ0_charAt_5068e_0 : decode cJ0_charAt_5068e 0 = .ok (.aload_n 0, 1) := by decide +kernel
theorem dJ0_charAt_5068e_1 : decode cJ0_charAt_5068e 1 = .ok (.invokevirtual 492, 3) := by decide +kernel
theorem dJ0_charAt_5068e_4 : decode cJ0_charAt_5068e 4 = .ok (.ifCond .eq 12, 3) := by decide +kernel
theorem dJ0_charAt_5068e_7 : decode cJ0_charAt_5068e 7 = .ok (.aload_n 0, 1) := by decide +kernel
theorem dJ0_charAt_5068e_8 : decode cJ0_charAt_5068e 8 = .ok (.getfield 9, 3) := by decide +kernel
theorem dJ0_charAt_5068e_11 : decode cJ0_charAt_5068e 11 = .ok (.iload_n 1, 1) := by decide +kernel
theorem dJ0_charAt_5068e_12 : decode cJ0_charAt_5068e 12 = .ok (.invokestatic 495, 3) := by decide +kernel
theorem dJ0_charAt_5068e_15 : decode cJ0_charAt_5068e 15 = .ok (.ireturn, 1) := by decide +kernel
theorem dJ0_charAt_5068e_16 : decode cJ0_charAt_5068e 16 = .ok (.aload_n 0, 1) := by decide +kernel
theorem dJ0_charAt_5068e_17 : decode cJ0_charAt_5068e 17 = .ok (.getfield 9, 3) := by decide +kernel
theorem dJ0_charAt_5068e_20 : decode cJ0_charAt_5068e 20 = .ok (.iload_n 1, 1) := by decide +kernel
theorem dJ0_charAt_5068e_21 : decode cJ0_charAt_5068e 21 = .ok (.invokestatic 498, 3) := by decide +kernel
theorem dJ0_charAt_5068e_24 : decode cJ0_charAt_5068e 24 = .ok (.ireturn, 1) := by decide +kernel
theorem dJ0_coder_7d493_0 : decode cJ0_coder_7d493 0 = .ok (.getstatic 38, 3) := by decide +kernel
theorem dJ0_coder_7d493_3 : decode cJ0_coder_7d493 3 = .ok (.ifCond .eq 10, 3) := by decide +kernel
theorem dJ0_coder_7d493_6 : decode cJ0_coder_7d493 6 = .ok (.aload_n 0, 1) := by decide +kernel
theorem dJ0_coder_7d493_7 : decode cJ0_coder_7d493 7 = .ok (.getfield 15, 3) := by decide +kernel
theorem dJ0_coder_7d493_10 : decode cJ0_coder_7d493 10 = .ok (.goto 4, 3) := by decide +kernel
theorem dJ0_coder_7d493_13 : decode cJ0_coder_7d493 13 = .ok (.iconst 1, 1) := by decide +kernel
theorem dJ0_coder_7d493_14 : decode cJ0_coder_7d493 14 = .ok (.ireturn, 1) := by decide +kernel
theorem dJ0_isLatin1_aae02_0 : decode cJ0_isLatin1_aae02 0 = .ok (.getstatic 38, 3) := by decide +kernel
theorem dJ0_isLatin1_aae02_3 : decode cJ0_isLatin1_aae02 3 = .ok (.ifCond .eq 14, 3) := by decide +kernel
theorem dJ0_isLatin1_aae02_6 : decode cJ0_isLatin1_aae02 6 = .ok (.aload_n 0, 1) := by decide +kernel
theorem dJ0_isLatin1_aae02_7 : decode cJ0_isLatin1_aae02 7 = .ok (.getfield 15, 3) := by decide +kernel
theorem dJ0_isLatin1_aae02_10 : decode cJ0_isLatin1_aae02 10 = .ok (.ifCond .ne 7, 3) := by decide +kernel
theorem dJ0_isLatin1_aae02_13 : decode cJ0_isLatin1_aae02 13 = .ok (.iconst 1, 1) := by decide +kernel
theorem dJ0_isLatin1_aae02_14 : decode cJ0_isLatin1_aae02 14 = .ok (.goto 4, 3) := by decide +kernel
theorem dJ0_isLatin1_aae02_17 : decode cJ0_isLatin1_aae02 17 = .ok (.iconst 0, 1) := by decide +kernel
theorem dJ0_isLatin1_aae02_18 : decode cJ0_isLatin1_aae02 18 = .ok (.ireturn, 1) := by decide +kernel
theorem dJ0_checkIndex_df160_0 : decode cJ0_checkIndex_df160 0 = .ok (.iload_n 0, 1) := by decide +kernel
theorem dJ0_checkIndex_df160_1 : decode cJ0_checkIndex_df160 1 = .ok (.iload_n 1, 1) := by decide +kernel
theorem dJ0_checkIndex_df160_2 : decode cJ0_checkIndex_df160 2 = .ok (.getstatic 1053, 3) := by decide +kernel
theorem dJ0_checkIndex_df160_5 : decode cJ0_checkIndex_df160 5 = .ok (.invokestatic 1059, 3) := by decide +kernel
theorem dJ0_checkIndex_df160_8 : decode cJ0_checkIndex_df160 8 = .ok (.pop, 1) := by decide +kernel
theorem dJ0_checkIndex_df160_9 : decode cJ0_checkIndex_df160 9 = .ok (.return_, 1) := by decide +kernel
theorem dJ1_charAt_3b067_0 : decode cJ1_charAt_3b067 0 = .ok (.iload_n 1, 1) := by decide +kernel
theorem dJ1_charAt_3b067_1 : decode cJ1_charAt_3b067 1 = .ok (.aload_n 0, 1) := by decide +kernel
theorem dJ1_charAt_3b067_2 : decode cJ1_charAt_3b067 2 = .ok (.arraylength, 1) := by decide +kernel
theorem dJ1_charAt_3b067_3 : decode cJ1_charAt_3b067 3 = .ok (.invokestatic 9, 3) := by decide +kernel
theorem dJ1_charAt_3b067_6 : decode cJ1_charAt_3b067 6 = .ok (.aload_n 0, 1) := by decide +kernel
theorem dJ1_charAt_3b067_7 : decode cJ1_charAt_3b067 7 = .ok (.iload_n 1, 1) := by decide +kernel
theorem dJ1_charAt_3b067_8 : decode cJ1_charAt_3b067 8 = .ok (.baload, 1) := by decide +kernel
theorem dJ1_charAt_3b067_9 : decode cJ1_charAt_3b067 9 = .ok (.sipush 255, 3) := by decide +kernel
theorem dJ1_charAt_3b067_12 : decode cJ1_charAt_3b067 12 = .ok (.iand, 1) := by decide +kernel
theorem dJ1_charAt_3b067_13 : decode cJ1_charAt_3b067 13 = .ok (.i2c, 1) := by decide +kernel
theorem dJ1_charAt_3b067_14 : decode cJ1_charAt_3b067 14 = .ok (.ireturn, 1) := by decide +kernel
theorem dJ3_checkIndex_8e157_0 : decode cJ3_checkIndex_8e157 0 = .ok (.iload_n 0, 1) := by decide +kernel
theorem dJ3_checkIndex_8e157_1 : decode cJ3_checkIndex_8e157 1 = .ok (.ifCond .lt 8, 3) := by decide +kernel
theorem dJ3_checkIndex_8e157_4 : decode cJ3_checkIndex_8e157 4 = .ok (.iload_n 0, 1) := by decide +kernel
theorem dJ3_checkIndex_8e157_5 : decode cJ3_checkIndex_8e157 5 = .ok (.iload_n 1, 1) := by decide +kernel
theorem dJ3_checkIndex_8e157_6 : decode cJ3_checkIndex_8e157 6 = .ok (.if_icmp .lt 10, 3) := by decide +kernel
theorem dJ3_checkIndex_8e157_9 : decode cJ3_checkIndex_8e157 9 = .ok (.aload_n 2, 1) := by decide +kernel
theorem dJ3_checkIndex_8e157_10 : decode cJ3_checkIndex_8e157 10 = .ok (.iload_n 0, 1) := by decide +kernel
theorem dJ3_checkIndex_8e157_11 : decode cJ3_checkIndex_8e157 11 = .ok (.iload_n 1, 1) := by decide +kernel
theorem dJ3_checkIndex_8e157_12 : decode cJ3_checkIndex_8e157 12 = .ok (.invokestatic 95, 3) := by decide +kernel
theorem dJ3_checkIndex_8e157_15 : decode cJ3_checkIndex_8e157 15 = .ok (.athrow, 1) := by decide +kernel
theorem dJ3_checkIndex_8e157_16 : decode cJ3_checkIndex_8e157 16 = .ok (.iload_n 0, 1) := by decide +kernel
theorem dJ3_checkIndex_8e157_17 : decode cJ3_checkIndex_8e157 17 = .ok (.ireturn, 1) := by decide +kernel
/-! STRINGS: the words' spellings -/
section RJ
variable {g : GG} {h : Hp} {d k j : Nat}
theorem wby_ok : ∀ k, k < 16 → ∀ j, j < wln k → ((wby k j &&& 255).toUInt32 % 65536).toInt32 = wby k j ∧ narrow .char (.int (wby k j)) = .int (wby k j) := by decide +kernel
theorem wln_le : ∀ k, k < 16 → wln k ≤ 7 := by decide
theorem j_coder (hO : GOW g) (hk : k < 16) : CT g d yJ0_coder_7d493 (wsC yJ0_coder_7d493 cJ0_coder_7d493 1 (some .byte)) [.retAddr (16 + k)] h 0 0 (fun v h2 => v = some (.int 0) ∧ h2 = h) noT := by
  refine CT_ofB (by decide +kernel) (Nat.le_of_ble_eq_true rfl) rfl fun K X => ?_
  obtain ⟨p, e, s, m, args, below, meth, c⟩ := K
  have X : CX g p s m args meth c cJ0_coder_7d493 1 yJ0_coder_7d493 (some .byte) [] := X
  have hy := hO s X.gk.z
  show VV g p e (rmm d 0 0) s m args below meth c 1 (QQ g below args s 0 0 _ _) 0 0 0 [some (.retAddr (16 + k))] [] h
  refine r_getsO X (v := .int 1) dJ0_coder_7d493_0 hy.2.2.2.2.2.1 hy.1 fo_J0_38 ?_
  refine r_if_eq X dJ0_coder_7d493_3 (tgt := 13) (by decide) (fun q => absurd q (by decide)) (fun _ => ?_)
  refine r_aload_nR X dJ0_coder_7d493_6 rfl ?_
  refine r_getfO X (v := .int 0) dJ0_coder_7d493_7 (hy.2.2.1 k hk).2.1 hy.1 fo_J0_15 ?_
  refine r_goto X dJ0_coder_7d493_10 (tgt := 14) (by decide) ?_
  exact r_zret X dJ0_coder_7d493_14 rfl rfl ⟨rfl, rfl⟩ (Nat.le_refl _) (Nat.le_refl _)
theorem j_isLatin1 (hO : GOW g) (hk : k < 16) : CT g d yJ0_isLatin1_aae02 (wsC yJ0_isLatin1_aae02 cJ0_isLatin1_aae02 1 (some .boolean)) [.retAddr (16 + k)] h 0 0 (fun v h2 => v = some (.int 1) ∧ h2 = h) noT := by
  refine CT_ofB (by decide +kernel) (Nat.le_of_ble_eq_true rfl) rfl fun K X => ?_
  obtain ⟨p, e, s, m, args, below, meth, c⟩ := K
  have X : CX g p s m args meth c cJ0_isLatin1_aae02 1 yJ0_isLatin1_aae02 (some .boolean) [] := X
  have hy := hO s X.gk.z
  show VV g p e (rmm d 0 0) s m args below meth c 1 (QQ g below args s 0 0 _ _) 0 0 0 [some (.retAddr (16 + k))] [] h
  refine r_getsO X (v := .int 1) dJ0_isLatin1_aae02_0 hy.2.2.2.2.2.1 hy.1 fo_J0_38 ?_
  refine r_if_eq X dJ0_isLatin1_aae02_3 (tgt := 17) (by decide) (fun q => absurd q (by decide)) (fun _ => ?_)
  refine r_aload_nR X dJ0_isLatin1_aae02_6 rfl ?_
  refine r_getfO X (v := .int 0) dJ0_isLatin1_aae02_7 (hy.2.2.1 k hk).2.1 hy.1 fo_J0_15 ?_
  refine r_if_ne X dJ0_isLatin1_aae02_10 (tgt := 17) (by decide) (fun q => absurd rfl q) (fun _ => ?_)
  refine r_iconst X dJ0_isLatin1_aae02_13 (v := 1) (by decide) ?_
  refine r_goto X dJ0_isLatin1_aae02_14 (tgt := 18) (by decide) ?_
  exact r_zret X dJ0_isLatin1_aae02_18 rfl rfl ⟨rfl, rfl⟩ (Nat.le_refl _) (Nat.le_refl _)
theorem j_length (hO : GOW g) (hd : 3 ≤ d) (hk : k < 16) : CT g d yJ0_length_8abf5 (wsC yJ0_length_8abf5 cJ0_length_8abf5 1 (some .int)) [.retAddr (16 + k)] h 0 0 (fun v h2 => v = some (.int (nI (wln k))) ∧ h2 = h) noT := by
  refine CT_ofB (by decide +kernel) (Nat.le_of_ble_eq_true rfl) rfl fun K X => ?_
  obtain ⟨p, e, s, m, args, below, meth, c⟩ := K
  have X : CX g p s m args meth c cJ0_length_8abf5 1 yJ0_length_8abf5 (some .int) [] := X
  have hy := hO s X.gk.z
  show VV g p e (rmm d 0 0) s m args below meth c 1 (QQ g below args s 0 0 _ _) 0 0 0 [some (.retAddr (16 + k))] [] h
  refine r_aload_nR X dJ0_length_8abf5_0 rfl ?_
  refine r_getfO X (v := .retAddr (32 + k)) dJ0_length_8abf5_1 (hy.2.2.1 k hk).2.2.1 hy.1 fo_J0_9 ?_
  refine r_tlenO X dJ0_length_8abf5_4 (hy.2.2.1 k hk).2.2.2 hy.1 (v := nI (wln k)) rfl ?_
  refine r_aload_nR X dJ0_length_8abf5_5 rfl ?_
  refine r_callVR X (As := []) (d := d - 1) dJ0_length_8abf5_6 mk_J0_coder_7d493 ⟨ml_J0_335, im_J0_coder_7d493, se_J0_coder_7d493⟩ (hy.s (k := 16 + k) ⟨by omega, by omega⟩) hy.1 rfl rfl (by simp [Value.category]) ⟨by show d - 1 + 1 ≤ d; omega, by show 60 * (d - 1 + 1) + 200 ≤ 60 * d + 200; omega⟩ ⟨Nat.le_refl _, Nat.le_refl _⟩ (j_coder hO hk) (fun _ _ q => q.elim) (fun _ z => nomatch z) (fun _ => ⟨Nat.le_refl _, Nat.le_refl _⟩) (fun v h1 w1 => ?_)
  obtain ⟨rfl, rfl⟩ := w1
  refine r_ishr X dJ0_length_8abf5_9 ?_
  refine r_iret X dJ0_length_8abf5_10 rfl ⟨?_, rfl⟩ (Nat.le_refl _) (Nat.le_refl _)
  rw [show ∀ k, k < 16 → nI (wln k) >>> ((0 : Int32) &&& 31) = nI (wln k) from by decide +kernel]
  exact hk
theorem j_check3 {v : Value} (hv : v = .null ∨ v = .retAddr 49) {n : Nat} (hj : j < n) (hn : n < 2 ^ 31) : CT g d yJ3_checkIndex_8e157 (wsC yJ3_checkIndex_8e157 cJ3_checkIndex_8e157 3 (some .int)) [.int (nI j), .int (nI n), v] h 0 0 (fun r h2 => r = some (.int (nI j)) ∧ h2 = h) noT := by
  refine CT_ofB (ls0 := [some (.int (nI j)), some (.int (nI n)), some v]) (by decide +kernel) (by rcases hv with rfl | rfl <;> exact Nat.le_of_ble_eq_true rfl) (by rcases hv with rfl | rfl <;> rfl) fun K X => ?_
  obtain ⟨p, e, s, m, args, below, meth, c⟩ := K
  have X : CX g p s m args meth c cJ3_checkIndex_8e157 3 yJ3_checkIndex_8e157 (some .int) [] := X
  show VV g p e (rmm d 0 0) s m args below meth c 3 (QQ g below args s 0 0 _ _) 0 0 0 [some (.int (nI j)), some (.int (nI n)), some v] [] h
  refine r_iload_n X dJ3_checkIndex_8e157_0 rfl ?_
  refine r_if_lt X dJ3_checkIndex_8e157_1 (tgt := 9) (by decide) (fun q => absurd q (nI_pos (by omega))) (fun _ => ?_)
  refine r_iload_n X dJ3_checkIndex_8e157_4 rfl ?_
  refine r_iload_n X dJ3_checkIndex_8e157_5 rfl ?_
  refine r_icmp_lt X dJ3_checkIndex_8e157_6 (tgt := 16) (by decide) (fun _ => ?_) (fun q => absurd (nI_lt hj hn) q)
  refine r_iload_n X dJ3_checkIndex_8e157_16 rfl ?_
  exact r_iret X dJ3_checkIndex_8e157_17 rfl ⟨rfl, rfl⟩ (Nat.le_refl _) (Nat.le_refl _)
theorem j_check (hO : GOW g) (hd : 3 ≤ d) {n : Nat} (hj : j < n) (hn : n < 2 ^ 31) : CT g d yJ0_checkIndex_df160 (wsC yJ0_checkIndex_df160 cJ0_checkIndex_df160 2 none) [.int (nI j), .int (nI n)] h 0 0 (fun r h2 => r = none ∧ h2 = h) noT := by
  refine CT_ofB (by decide +kernel) (Nat.le_of_ble_eq_true rfl) rfl fun K X => ?_
  obtain ⟨p, e, s, m, args, below, meth, c⟩ := K
  have X : CX g p s m args meth c cJ0_checkIndex_df160 2 yJ0_checkIndex_df160 none [] := X
  have hy := hO s X.gk.z
  show VV g p e (rmm d 0 0) s m args below meth c 2 (QQ g below args s 0 0 _ _) 0 0 0 [some (.int (nI j)), some (.int (nI n))] [] h
  refine r_iload_n X dJ0_checkIndex_df160_0 rfl ?_
  refine r_iload_n X dJ0_checkIndex_df160_1 rfl ?_
  have go : ∀ v : Value, (v = .null ∨ v = .retAddr 49) → VV g p e (rmm d 0 0) s m args below meth c 2 (QQ g below args s 0 0 (fun r h2 => r = none ∧ h2 = h) noT) 0 0 5 [some (.int (nI j)), some (.int (nI n))] [v, .int (nI n), .int (nI j)] h := by
    intro v hv
    refine r_callS X (As := [.int (nI j), .int (nI n), v]) (d := d - 1) dJ0_checkIndex_df160_5 mk_J3_checkIndex_8e157 ⟨ml_J0_1059, sm_J3_checkIndex_8e157⟩ rfl rfl (by simp) ⟨by show d - 1 + 1 ≤ d; omega, by show 60 * (d - 1 + 1) + 200 ≤ 60 * d + 200; omega⟩ ⟨Nat.le_refl _, Nat.le_refl _⟩ (j_check3 hv hj hn) (fun _ _ q => q.elim) (fun _ z => nomatch z) (fun _ => ⟨Nat.le_refl _, Nat.le_refl _⟩) (fun v h1 w1 => ?_)
    obtain ⟨rfl, rfl⟩ := w1
    refine r_pop X dJ0_checkIndex_df160_8 rfl ?_
    exact r_vret X dJ0_checkIndex_df160_9 rfl ⟨rfl, rfl⟩ (Nat.le_refl _) (Nat.le_refl _)
  rcases hy.2.2.2.2.2.2 with hz | hz
  · exact r_getsO X (v := .null) dJ0_checkIndex_df160_2 hz hy.1 fo_J0_1053 (go _ (Or.inl rfl))
  · exact r_getsO X (v := .retAddr 49) dJ0_checkIndex_df160_2 hz hy.1 fo_J0_1053 (go _ (Or.inr rfl))
theorem j_charAt1 (hO : GOW g) (hd : 5 ≤ d) (hk : k < 16) (hj : j < wln k) : CT g d yJ1_charAt_3b067 (wsC yJ1_charAt_3b067 cJ1_charAt_3b067 2 (some .char)) [.retAddr (32 + k), .int (nI j)] h 0 0 (fun r h2 => r = some (.int (wby k j)) ∧ h2 = h) noT := by
  have hl := wln_le k hk
  refine CT_ofB (by decide +kernel) (Nat.le_of_ble_eq_true rfl) rfl fun K X => ?_
  obtain ⟨p, e, s, m, args, below, meth, c⟩ := K
  have X : CX g p s m args meth c cJ1_charAt_3b067 2 yJ1_charAt_3b067 (some .char) [] := X
  have hy := hO s X.gk.z
  show VV g p e (rmm d 0 0) s m args below meth c 2 (QQ g below args s 0 0 _ _) 0 0 0 [some (.retAddr (32 + k)), some (.int (nI j))] [] h
  refine r_iload_n X dJ1_charAt_3b067_0 rfl ?_
  refine r_aload_nR X dJ1_charAt_3b067_1 rfl ?_
  refine r_tlenO X dJ1_charAt_3b067_2 (hy.2.2.1 k hk).2.2.2 hy.1 (v := nI (wln k)) rfl ?_
  refine r_callS X (As := [.int (nI j), .int (nI (wln k))]) (d := d - 1) dJ1_charAt_3b067_3 mk_J0_checkIndex_df160 ⟨ml_J1_9, sm_J0_checkIndex_df160⟩ rfl rfl (by simp) ⟨by show d - 1 + 1 ≤ d; omega, by show 60 * (d - 1 + 1) + 200 ≤ 60 * d + 200; omega⟩ ⟨Nat.le_refl _, Nat.le_refl _⟩ (j_check hO (by omega) hj (by omega)) (fun _ _ q => q.elim) (fun _ z => nomatch z) (fun _ => ⟨Nat.le_refl _, Nat.le_refl _⟩) (fun v h1 w1 => ?_)
  obtain ⟨rfl, rfl⟩ := w1
  refine r_aload_nR X dJ1_charAt_3b067_6 rfl ?_
  refine r_iload_n X dJ1_charAt_3b067_7 rfl ?_
  refine r_tbO X dJ1_charAt_3b067_8 (hy.2.2.1 k hk).2.2.2 hy.1 rfl hj (by omega) rfl ?_
  refine r_sipush X dJ1_charAt_3b067_9 (v := 255) (by decide) ?_
  refine r_iand X dJ1_charAt_3b067_12 ?_
  intro H locs la hW hL hM
  refine lv_i2c X.ex X.by dJ1_charAt_3b067_13 (v := wby k j) (wby_ok k hk j hj).1 ?_
  exact r_zret (ls := [some (.retAddr (32 + k)), some (.int (nI j))]) X dJ1_charAt_3b067_14 rfl (wby_ok k hk j hj).2 ⟨rfl, rfl⟩ (Nat.le_refl _) (Nat.le_refl _) H locs la hW hL hM
theorem j_charAt (hO : GOW g) (hd : 6 ≤ d) (hk : k < 16) (hj : j < wln k) : CT g d yJ0_charAt_5068e (wsC yJ0_charAt_5068e cJ0_charAt_5068e 2 (some .char)) [.retAddr (16 + k), .int (nI j)] h 0 0 (fun r h2 => r = some (.int (wby k j)) ∧ h2 = h) noT := by
  refine CT_ofB (by decide +kernel) (Nat.le_of_ble_eq_true rfl) rfl fun K X => ?_
  obtain ⟨p, e, s, m, args, below, meth, c⟩ := K
  have X : CX g p s m args meth c cJ0_charAt_5068e 2 yJ0_charAt_5068e (some .char) [] := X
  have hy := hO s X.gk.z
  show VV g p e (rmm d 0 0) s m args below meth c 2 (QQ g below args s 0 0 _ _) 0 0 0 [some (.retAddr (16 + k)), some (.int (nI j))] [] h
  refine r_aload_nR X dJ0_charAt_5068e_0 rfl ?_
  refine r_callVR X (As := []) (d := d - 1) dJ0_charAt_5068e_1 mk_J0_isLatin1_aae02 ⟨ml_J0_492, im_J0_isLatin1_aae02, se_J0_isLatin1_aae02⟩ (hy.s (k := 16 + k) ⟨by omega, by omega⟩) hy.1 rfl rfl (by simp) ⟨by show d - 1 + 1 ≤ d; omega, by show 60 * (d - 1 + 1) + 200 ≤ 60 * d + 200; omega⟩ ⟨Nat.le_refl _, Nat.le_refl _⟩ (j_isLatin1 hO hk) (fun _ _ q => q.elim) (fun _ z => nomatch z) (fun _ => ⟨Nat.le_refl _, Nat.le_refl _⟩) (fun v h1 w1 => ?_)
  obtain ⟨rfl, rfl⟩ := w1
  refine r_if_eq X dJ0_charAt_5068e_4 (tgt := 16) (by decide) (fun q => absurd q (by decide)) (fun _ => ?_)
  refine r_aload_nR X dJ0_charAt_5068e_7 rfl ?_
  refine r_getfO X (v := .retAddr (32 + k)) dJ0_charAt_5068e_8 (hy.2.2.1 k hk).2.2.1 hy.1 fo_J0_9 ?_
  refine r_iload_n X dJ0_charAt_5068e_11 rfl ?_
  refine r_callS X (As := [.retAddr (32 + k), .int (nI j)]) (d := d - 1) dJ0_charAt_5068e_12 mk_J1_charAt_3b067 ⟨ml_J0_495, sm_J1_charAt_3b067⟩ rfl rfl (by simp) ⟨by show d - 1 + 1 ≤ d; omega, by show 60 * (d - 1 + 1) + 200 ≤ 60 * d + 200; omega⟩ ⟨Nat.le_refl _, Nat.le_refl _⟩ (j_charAt1 hO (by omega) hk hj) (fun _ _ q => q.elim) (fun _ z => nomatch z) (fun _ => ⟨Nat.le_refl _, Nat.le_refl _⟩) (fun v h1 w1 => ?_)
  obtain ⟨rfl, rfl⟩ := w1
  exact r_zret X dJ0_charAt_5068e_15 rfl (wby_ok k hk j hj).2 ⟨rfl, rfl⟩ (Nat.le_refl _) (Nat.le_refl _)
end RJ
