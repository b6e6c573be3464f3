/-! THE LAW: its helpers (by program) -/
theorem cl_L_13 : Cond.classLink RL 13 "java/lang/IllegalArgumentException" ∈ lwG := inK3 94 (by decide +kernel) rfl
theorem cl_L_18 : Cond.classLink RL 18 "java/util/NoSuchElementException" ∈ lwG := inK4 170 (by decide +kernel) rfl
theorem mh_L_ring : Cond.codeWith yL_ring cL_ring 4 (some .int) [(0, 9, 12, 13)] ∈ lwG ∧ Cond.initialized (yL_ring).cls ∈ lwG ∧ ((yL_ring).cls ≠ "java/lang/invoke/MethodHandle" ∧ (yL_ring).cls ≠ "java/lang/invoke/VarHandle" ∧ (parseMethodDescriptor (yL_ring).desc).map (fun d => d.parameters.length) = some 3) ∧ 4 ≤ 40 := ⟨inK3 93 rfl rfl, inK1 0 (by decide +kernel) rfl, by decide +kernel, by decide⟩
theorem l_ring {g : GG} {h : Hp} {o d mc ms : Nat} {fs : List Value} {p0 : Int32} {Pr2 Pr : Option Value → Hp → Prop} {Pt2 : String → Hp → Prop} (hN : GOC g) (ho : oF h 0 10 = some fs) (hM : CT g d yX11_ring (wsC yX11_ring cX11_ring 4 (some (.int))) [.ref 0, .int p0] h mc ms Pr2 Pt2)
    (kk : ∀ v h', Pr2 v h' → ∃ a h2, v = some (.int a) ∧ uJ h' o 0 (Int32.toInt64 a) = some h2 ∧ Pr (some (.int 0)) h2) (kx : ∀ E h', Pt2 E h' → (E = "java/lang/IllegalArgumentException" ∧ Pr (some (.int 1)) h')) : CT g (d + 1) yL_ring (wsH yL_ring cL_ring 4 (some .int) [(0, 9, 12, 13)]) [.ref 0, .int p0, .ref o] h mc ms Pr noT := by
  refine CT_ofH (by decide +kernel) (Nat.le_of_ble_eq_true rfl) rfl fun p e s m args below meth c X => ?_
  refine r_aload_n X dL_ring_0 rfl ?_
  refine r_iconst X dL_ring_1 (v := 0) (by decide) ?_
  refine r_aload_n X dL_ring_2 rfl ?_
  refine r_iload_n X dL_ring_3 rfl ?_
  refine r_callVD X (As := [.int p0]) dL_ring_4 mk_X11_ring ⟨ml_L_7, im_X11_ring, se_X11_ring⟩ (oF_s ho) (ci_X11).1 rfl rfl rfl (by simp [Value.category]) ⟨by show d + 1 ≤ d + 1; omega, by show 60 * (d + 1) + 200 ≤ 60 * (d + 1) + 200; omega⟩ ⟨by show 0 + mc ≤ mc; omega, by show 0 + ms ≤ ms; omega⟩ hM (fun E h' q => ?_) (fun v h' q => ?_)
  · obtain ⟨rfl, hp⟩ := kx E h' q
    refine CaD.mk [] [] (mkE (0, 9, 12, 13)) "java/lang/IllegalArgumentException" 3 1 rfl (fun z hz => absurd hz List.not_mem_nil) (by decide) (by decide) cl_L_13 (hN s X.gk.z).2.1 (Or.inl ⟨3, rfl, rfl, dL_ring_12⟩) (by decide) rfl ?_
    refine r_iconst X dL_ring_13 (v := 1) (by decide) ?_
    exact r_iret X dL_ring_14 rfl hp (by omega) (by omega)
  · obtain ⟨a, h2, rfl, eu, hp⟩ := kk v h' q
    obtain ⟨n2, f2, c2, i2, r2⟩ := uJ_s eu
    subst r2
    refine r_i2l X dL_ring_7 ?_
    refine r_last X dL_ring_8 c2 i2 ?_
    refine r_goto X dL_ring_9 (tgt := 15) (by decide) ?_
    refine r_iconst X dL_ring_15 (v := 0) (by decide) ?_
    exact r_iret X dL_ring_16 rfl hp (by omega) (by omega)
theorem mh_L_count : Cond.codeWith yL_count cL_count 4 (some .int) [(0, 9, 12, 18)] ∈ lwG ∧ Cond.initialized (yL_count).cls ∈ lwG ∧ ((yL_count).cls ≠ "java/lang/invoke/MethodHandle" ∧ (yL_count).cls ≠ "java/lang/invoke/VarHandle" ∧ (parseMethodDescriptor (yL_count).desc).map (fun d => d.parameters.length) = some 3) ∧ 4 ≤ 40 := ⟨inK4 169 rfl rfl, inK1 0 (by decide +kernel) rfl, by decide +kernel, by decide⟩
theorem l_count {g : GG} {h : Hp} {o d mc ms : Nat} {fs : List Value} {p0 : Int32} {Pr2 Pr : Option Value → Hp → Prop} {Pt2 : String → Hp → Prop} (hN : GOC g) (ho : oF h 0 10 = some fs) (hM : CT g d yX11_count (wsC yX11_count cX11_count 2 (some (.int))) [.ref 0, .int p0] h mc ms Pr2 Pt2)
    (kk : ∀ v h', Pr2 v h' → ∃ a h2, v = some (.int a) ∧ uJ h' o 0 (Int32.toInt64 a) = some h2 ∧ Pr (some (.int 0)) h2) (kx : ∀ E h', Pt2 E h' → (E = "java/util/NoSuchElementException" ∧ Pr (some (.int 1)) h')) : CT g (d + 1) yL_count (wsH yL_count cL_count 4 (some .int) [(0, 9, 12, 18)]) [.ref 0, .int p0, .ref o] h mc ms Pr noT := by
  refine CT_ofH (by decide +kernel) (Nat.le_of_ble_eq_true rfl) rfl fun p e s m args below meth c X => ?_
  refine r_aload_n X dL_count_0 rfl ?_
  refine r_iconst X dL_count_1 (v := 0) (by decide) ?_
  refine r_aload_n X dL_count_2 rfl ?_
  refine r_iload_n X dL_count_3 rfl ?_
  refine r_callVD X (As := [.int p0]) dL_count_4 mk_X11_count ⟨ml_L_15, im_X11_count, se_X11_count⟩ (oF_s ho) (ci_X11).1 rfl rfl rfl (by simp [Value.category]) ⟨by show d + 1 ≤ d + 1; omega, by show 60 * (d + 1) + 200 ≤ 60 * (d + 1) + 200; omega⟩ ⟨by show 0 + mc ≤ mc; omega, by show 0 + ms ≤ ms; omega⟩ hM (fun E h' q => ?_) (fun v h' q => ?_)
  · obtain ⟨rfl, hp⟩ := kx E h' q
    refine CaD.mk [] [] (mkE (0, 9, 12, 18)) "java/util/NoSuchElementException" 3 1 rfl (fun z hz => absurd hz List.not_mem_nil) (by decide) (by decide) cl_L_18 (hN s X.gk.z).2.2 (Or.inl ⟨3, rfl, rfl, dL_count_12⟩) (by decide) rfl ?_
    refine r_iconst X dL_count_13 (v := 1) (by decide) ?_
    exact r_iret X dL_count_14 rfl hp (by omega) (by omega)
  · obtain ⟨a, h2, rfl, eu, hp⟩ := kk v h' q
    obtain ⟨n2, f2, c2, i2, r2⟩ := uJ_s eu
    subst r2
    refine r_i2l X dL_count_7 ?_
    refine r_last X dL_count_8 c2 i2 ?_
    refine r_goto X dL_count_9 (tgt := 15) (by decide) ?_
    refine r_iconst X dL_count_15 (v := 0) (by decide) ?_
    exact r_iret X dL_count_16 rfl hp (by omega) (by omega)
theorem mh_L_stretch : Cond.codeWith yL_stretch cL_stretch 5 (some .int) [(0, 10, 13, 18)] ∈ lwG ∧ Cond.initialized (yL_stretch).cls ∈ lwG ∧ ((yL_stretch).cls ≠ "java/lang/invoke/MethodHandle" ∧ (yL_stretch).cls ≠ "java/lang/invoke/VarHandle" ∧ (parseMethodDescriptor (yL_stretch).desc).map (fun d => d.parameters.length) = some 4) ∧ 5 ≤ 40 := ⟨inK4 205 rfl rfl, inK1 0 (by decide +kernel) rfl, by decide +kernel, by decide⟩
theorem l_stretch {g : GG} {h : Hp} {o d mc ms : Nat} {fs : List Value} {p0 p1 : Int32} {Pr2 Pr : Option Value → Hp → Prop} {Pt2 : String → Hp → Prop} (hN : GOC g) (ho : oF h 0 10 = some fs) (hM : CT g d yX11_stretch (wsC yX11_stretch cX11_stretch 3 (some (.int))) [.ref 0, .int p0, .int p1] h mc ms Pr2 Pt2)
    (kk : ∀ v h', Pr2 v h' → ∃ a h2, v = some (.int a) ∧ uJ h' o 0 (Int32.toInt64 a) = some h2 ∧ Pr (some (.int 0)) h2) (kx : ∀ E h', Pt2 E h' → (E = "java/util/NoSuchElementException" ∧ Pr (some (.int 1)) h')) : CT g (d + 1) yL_stretch (wsH yL_stretch cL_stretch 5 (some .int) [(0, 10, 13, 18)]) [.ref 0, .int p0, .int p1, .ref o] h mc ms Pr noT := by
  refine CT_ofH (by decide +kernel) (Nat.le_of_ble_eq_true rfl) rfl fun p e s m args below meth c X => ?_
  refine r_aload_n X dL_stretch_0 rfl ?_
  refine r_iconst X dL_stretch_1 (v := 0) (by decide) ?_
  refine r_aload_n X dL_stretch_2 rfl ?_
  refine r_iload_n X dL_stretch_3 rfl ?_
  refine r_iload_n X dL_stretch_4 rfl ?_
  refine r_callVD X (As := [.int p0, .int p1]) dL_stretch_5 mk_X11_stretch ⟨ml_L_20, im_X11_stretch, se_X11_stretch⟩ (oF_s ho) (ci_X11).1 rfl rfl rfl (by simp [Value.category]) ⟨by show d + 1 ≤ d + 1; omega, by show 60 * (d + 1) + 200 ≤ 60 * (d + 1) + 200; omega⟩ ⟨by show 0 + mc ≤ mc; omega, by show 0 + ms ≤ ms; omega⟩ hM (fun E h' q => ?_) (fun v h' q => ?_)
  · obtain ⟨rfl, hp⟩ := kx E h' q
    refine CaD.mk [] [] (mkE (0, 10, 13, 18)) "java/util/NoSuchElementException" 4 2 rfl (fun z hz => absurd hz List.not_mem_nil) (by decide) (by decide) cl_L_18 (hN s X.gk.z).2.2 (Or.inr ⟨rfl, dL_stretch_13⟩) (by decide) rfl ?_
    refine r_iconst X dL_stretch_15 (v := 1) (by decide) ?_
    exact r_iret X dL_stretch_16 rfl hp (by omega) (by omega)
  · obtain ⟨a, h2, rfl, eu, hp⟩ := kk v h' q
    obtain ⟨n2, f2, c2, i2, r2⟩ := uJ_s eu
    subst r2
    refine r_i2l X dL_stretch_8 ?_
    refine r_last X dL_stretch_9 c2 i2 ?_
    refine r_goto X dL_stretch_10 (tgt := 17) (by decide) ?_
    refine r_iconst X dL_stretch_17 (v := 0) (by decide) ?_
    exact r_iret X dL_stretch_18 rfl hp (by omega) (by omega)
theorem mh_L_woman : Cond.codeWith yL_woman cL_woman 5 (some .int) [(0, 10, 13, 18)] ∈ lwG ∧ Cond.initialized (yL_woman).cls ∈ lwG ∧ ((yL_woman).cls ≠ "java/lang/invoke/MethodHandle" ∧ (yL_woman).cls ≠ "java/lang/invoke/VarHandle" ∧ (parseMethodDescriptor (yL_woman).desc).map (fun d => d.parameters.length) = some 4) ∧ 5 ≤ 40 := ⟨inK4 226 rfl rfl, inK1 0 (by decide +kernel) rfl, by decide +kernel, by decide⟩
theorem l_woman {g : GG} {h : Hp} {o d mc ms : Nat} {fs : List Value} {p0 p1 : Int32} {Pr2 Pr : Option Value → Hp → Prop} {Pt2 : String → Hp → Prop} (hN : GOC g) (ho : oF h 0 10 = some fs) (hM : CT g d yX11_woman (wsC yX11_woman cX11_woman 3 (some (.int))) [.ref 0, .int p0, .int p1] h mc ms Pr2 Pt2)
    (kk : ∀ v h', Pr2 v h' → ∃ a h2, v = some (.int a) ∧ uJ h' o 0 (Int32.toInt64 a) = some h2 ∧ Pr (some (.int 0)) h2) (kx : ∀ E h', Pt2 E h' → (E = "java/util/NoSuchElementException" ∧ Pr (some (.int 1)) h')) : CT g (d + 1) yL_woman (wsH yL_woman cL_woman 5 (some .int) [(0, 10, 13, 18)]) [.ref 0, .int p0, .int p1, .ref o] h mc ms Pr noT := by
  refine CT_ofH (by decide +kernel) (Nat.le_of_ble_eq_true rfl) rfl fun p e s m args below meth c X => ?_
  refine r_aload_n X dL_woman_0 rfl ?_
  refine r_iconst X dL_woman_1 (v := 0) (by decide) ?_
  refine r_aload_n X dL_woman_2 rfl ?_
  refine r_iload_n X dL_woman_3 rfl ?_
  refine r_iload_n X dL_woman_4 rfl ?_
  refine r_callVD X (As := [.int p0, .int p1]) dL_woman_5 mk_X11_woman ⟨ml_L_24, im_X11_woman, se_X11_woman⟩ (oF_s ho) (ci_X11).1 rfl rfl rfl (by simp [Value.category]) ⟨by show d + 1 ≤ d + 1; omega, by show 60 * (d + 1) + 200 ≤ 60 * (d + 1) + 200; omega⟩ ⟨by show 0 + mc ≤ mc; omega, by show 0 + ms ≤ ms; omega⟩ hM (fun E h' q => ?_) (fun v h' q => ?_)
  · obtain ⟨rfl, hp⟩ := kx E h' q
    refine CaD.mk [] [] (mkE (0, 10, 13, 18)) "java/util/NoSuchElementException" 4 2 rfl (fun z hz => absurd hz List.not_mem_nil) (by decide) (by decide) cl_L_18 (hN s X.gk.z).2.2 (Or.inr ⟨rfl, dL_woman_13⟩) (by decide) rfl ?_
    refine r_iconst X dL_woman_15 (v := 1) (by decide) ?_
    exact r_iret X dL_woman_16 rfl hp (by omega) (by omega)
  · obtain ⟨a, h2, rfl, eu, hp⟩ := kk v h' q
    obtain ⟨n2, f2, c2, i2, r2⟩ := uJ_s eu
    subst r2
    refine r_i2l X dL_woman_8 ?_
    refine r_last X dL_woman_9 c2 i2 ?_
    refine r_goto X dL_woman_10 (tgt := 17) (by decide) ?_
    refine r_iconst X dL_woman_17 (v := 0) (by decide) ?_
    exact r_iret X dL_woman_18 rfl hp (by omega) (by omega)
theorem mh_L_mend : Cond.codeWith yL_mend cL_mend 4 (some .int) [(0, 9, 12, 18)] ∈ lwG ∧ Cond.initialized (yL_mend).cls ∈ lwG ∧ ((yL_mend).cls ≠ "java/lang/invoke/MethodHandle" ∧ (yL_mend).cls ≠ "java/lang/invoke/VarHandle" ∧ (parseMethodDescriptor (yL_mend).desc).map (fun d => d.parameters.length) = some 3) ∧ 4 ≤ 40 := ⟨inK4 239 rfl rfl, inK1 0 (by decide +kernel) rfl, by decide +kernel, by decide⟩
theorem l_mend {g : GG} {h : Hp} {o d mc ms : Nat} {fs : List Value} {p0 : Int32} {Pr2 Pr : Option Value → Hp → Prop} {Pt2 : String → Hp → Prop} (hN : GOC g) (ho : oF h 0 10 = some fs) (hM : CT g d yX11_mend (wsC yX11_mend cX11_mend 2 (some (.int))) [.ref 0, .int p0] h mc ms Pr2 Pt2)
    (kk : ∀ v h', Pr2 v h' → ∃ a h2, v = some (.int a) ∧ uJ h' o 0 (Int32.toInt64 a) = some h2 ∧ Pr (some (.int 0)) h2) (kx : ∀ E h', Pt2 E h' → (E = "java/util/NoSuchElementException" ∧ Pr (some (.int 1)) h')) : CT g (d + 1) yL_mend (wsH yL_mend cL_mend 4 (some .int) [(0, 9, 12, 18)]) [.ref 0, .int p0, .ref o] h mc ms Pr noT := by
  refine CT_ofH (by decide +kernel) (Nat.le_of_ble_eq_true rfl) rfl fun p e s m args below meth c X => ?_
  refine r_aload_n X dL_mend_0 rfl ?_
  refine r_iconst X dL_mend_1 (v := 0) (by decide) ?_
  refine r_aload_n X dL_mend_2 rfl ?_
  refine r_iload_n X dL_mend_3 rfl ?_
  refine r_callVD X (As := [.int p0]) dL_mend_4 mk_X11_mend ⟨ml_L_27, im_X11_mend, se_X11_mend⟩ (oF_s ho) (ci_X11).1 rfl rfl rfl (by simp [Value.category]) ⟨by show d + 1 ≤ d + 1; omega, by show 60 * (d + 1) + 200 ≤ 60 * (d + 1) + 200; omega⟩ ⟨by show 0 + mc ≤ mc; omega, by show 0 + ms ≤ ms; omega⟩ hM (fun E h' q => ?_) (fun v h' q => ?_)
  · obtain ⟨rfl, hp⟩ := kx E h' q
    refine CaD.mk [] [] (mkE (0, 9, 12, 18)) "java/util/NoSuchElementException" 3 1 rfl (fun z hz => absurd hz List.not_mem_nil) (by decide) (by decide) cl_L_18 (hN s X.gk.z).2.2 (Or.inl ⟨3, rfl, rfl, dL_mend_12⟩) (by decide) rfl ?_
    refine r_iconst X dL_mend_13 (v := 1) (by decide) ?_
    exact r_iret X dL_mend_14 rfl hp (by omega) (by omega)
  · obtain ⟨a, h2, rfl, eu, hp⟩ := kk v h' q
    obtain ⟨n2, f2, c2, i2, r2⟩ := uJ_s eu
    subst r2
    refine r_i2l X dL_mend_7 ?_
    refine r_last X dL_mend_8 c2 i2 ?_
    refine r_goto X dL_mend_9 (tgt := 15) (by decide) ?_
    refine r_iconst X dL_mend_15 (v := 0) (by decide) ?_
    exact r_iret X dL_mend_16 rfl hp (by omega) (by omega)
theorem mh_L_go : Cond.codeWith yL_go cL_go 5 (some .int) [(0, 10, 13, 18)] ∈ lwG ∧ Cond.initialized (yL_go).cls ∈ lwG ∧ ((yL_go).cls ≠ "java/lang/invoke/MethodHandle" ∧ (yL_go).cls ≠ "java/lang/invoke/VarHandle" ∧ (parseMethodDescriptor (yL_go).desc).map (fun d => d.parameters.length) = some 4) ∧ 5 ≤ 40 := ⟨inK5 11 rfl rfl, inK1 0 (by decide +kernel) rfl, by decide +kernel, by decide⟩
theorem l_go {g : GG} {h : Hp} {o d mc ms : Nat} {fs : List Value} {p0 p1 : Int32} {Pr2 Pr : Option Value → Hp → Prop} {Pt2 : String → Hp → Prop} (hN : GOC g) (ho : oF h 0 10 = some fs) (hM : CT g d yX11_go (wsC yX11_go cX11_go 4 (some (.int))) [.ref 0, .int p0, .int p1] h mc ms Pr2 Pt2)
    (kk : ∀ v h', Pr2 v h' → ∃ a h2, v = some (.int a) ∧ uJ h' o 0 (Int32.toInt64 a) = some h2 ∧ Pr (some (.int 0)) h2) (kx : ∀ E h', Pt2 E h' → (E = "java/util/NoSuchElementException" ∧ Pr (some (.int 1)) h')) : CT g (d + 1) yL_go (wsH yL_go cL_go 5 (some .int) [(0, 10, 13, 18)]) [.ref 0, .int p0, .int p1, .ref o] h mc ms Pr noT := by
  refine CT_ofH (by decide +kernel) (Nat.le_of_ble_eq_true rfl) rfl fun p e s m args below meth c X => ?_
  refine r_aload_n X dL_go_0 rfl ?_
  refine r_iconst X dL_go_1 (v := 0) (by decide) ?_
  refine r_aload_n X dL_go_2 rfl ?_
  refine r_iload_n X dL_go_3 rfl ?_
  refine r_iload_n X dL_go_4 rfl ?_
  refine r_callVD X (As := [.int p0, .int p1]) dL_go_5 mk_X11_go ⟨ml_L_30, im_X11_go, se_X11_go⟩ (oF_s ho) (ci_X11).1 rfl rfl rfl (by simp [Value.category]) ⟨by show d + 1 ≤ d + 1; omega, by show 60 * (d + 1) + 200 ≤ 60 * (d + 1) + 200; omega⟩ ⟨by show 0 + mc ≤ mc; omega, by show 0 + ms ≤ ms; omega⟩ hM (fun E h' q => ?_) (fun v h' q => ?_)
  · obtain ⟨rfl, hp⟩ := kx E h' q
    refine CaD.mk [] [] (mkE (0, 10, 13, 18)) "java/util/NoSuchElementException" 4 2 rfl (fun z hz => absurd hz List.not_mem_nil) (by decide) (by decide) cl_L_18 (hN s X.gk.z).2.2 (Or.inr ⟨rfl, dL_go_13⟩) (by decide) rfl ?_
    refine r_iconst X dL_go_15 (v := 1) (by decide) ?_
    exact r_iret X dL_go_16 rfl hp (by omega) (by omega)
  · obtain ⟨a, h2, rfl, eu, hp⟩ := kk v h' q
    obtain ⟨n2, f2, c2, i2, r2⟩ := uJ_s eu
    subst r2
    refine r_i2l X dL_go_8 ?_
    refine r_last X dL_go_9 c2 i2 ?_
    refine r_goto X dL_go_10 (tgt := 17) (by decide) ?_
    refine r_iconst X dL_go_17 (v := 0) (by decide) ?_
    exact r_iret X dL_go_18 rfl hp (by omega) (by omega)
theorem mh_L_stitch : Cond.codeWith yL_stitch cL_stitch 5 (some .int) [(0, 10, 13, 18)] ∈ lwG ∧ Cond.initialized (yL_stitch).cls ∈ lwG ∧ ((yL_stitch).cls ≠ "java/lang/invoke/MethodHandle" ∧ (yL_stitch).cls ≠ "java/lang/invoke/VarHandle" ∧ (parseMethodDescriptor (yL_stitch).desc).map (fun d => d.parameters.length) = some 4) ∧ 5 ≤ 40 := ⟨inK5 18 rfl rfl, inK1 0 (by decide +kernel) rfl, by decide +kernel, by decide⟩
theorem l_stitch {g : GG} {h : Hp} {o d mc ms : Nat} {fs : List Value} {p0 p1 : Int32} {Pr2 Pr : Option Value → Hp → Prop} {Pt2 : String → Hp → Prop} (hN : GOC g) (ho : oF h 0 10 = some fs) (hM : CT g d yX11_stitch (wsC yX11_stitch cX11_stitch 4 (some (.int))) [.ref 0, .int p0, .int p1] h mc ms Pr2 Pt2)
    (kk : ∀ v h', Pr2 v h' → ∃ a h2, v = some (.int a) ∧ uJ h' o 0 (Int32.toInt64 a) = some h2 ∧ Pr (some (.int 0)) h2) (kx : ∀ E h', Pt2 E h' → (E = "java/util/NoSuchElementException" ∧ Pr (some (.int 1)) h')) : CT g (d + 1) yL_stitch (wsH yL_stitch cL_stitch 5 (some .int) [(0, 10, 13, 18)]) [.ref 0, .int p0, .int p1, .ref o] h mc ms Pr noT := by
  refine CT_ofH (by decide +kernel) (Nat.le_of_ble_eq_true rfl) rfl fun p e s m args below meth c X => ?_
  refine r_aload_n X dL_stitch_0 rfl ?_
  refine r_iconst X dL_stitch_1 (v := 0) (by decide) ?_
  refine r_aload_n X dL_stitch_2 rfl ?_
  refine r_iload_n X dL_stitch_3 rfl ?_
  refine r_iload_n X dL_stitch_4 rfl ?_
  refine r_callVD X (As := [.int p0, .int p1]) dL_stitch_5 mk_X11_stitch ⟨ml_L_33, im_X11_stitch, se_X11_stitch⟩ (oF_s ho) (ci_X11).1 rfl rfl rfl (by simp [Value.category]) ⟨by show d + 1 ≤ d + 1; omega, by show 60 * (d + 1) + 200 ≤ 60 * (d + 1) + 200; omega⟩ ⟨by show 0 + mc ≤ mc; omega, by show 0 + ms ≤ ms; omega⟩ hM (fun E h' q => ?_) (fun v h' q => ?_)
  · obtain ⟨rfl, hp⟩ := kx E h' q
    refine CaD.mk [] [] (mkE (0, 10, 13, 18)) "java/util/NoSuchElementException" 4 2 rfl (fun z hz => absurd hz List.not_mem_nil) (by decide) (by decide) cl_L_18 (hN s X.gk.z).2.2 (Or.inr ⟨rfl, dL_stitch_13⟩) (by decide) rfl ?_
    refine r_iconst X dL_stitch_15 (v := 1) (by decide) ?_
    exact r_iret X dL_stitch_16 rfl hp (by omega) (by omega)
  · obtain ⟨a, h2, rfl, eu, hp⟩ := kk v h' q
    obtain ⟨n2, f2, c2, i2, r2⟩ := uJ_s eu
    subst r2
    refine r_i2l X dL_stitch_8 ?_
    refine r_last X dL_stitch_9 c2 i2 ?_
    refine r_goto X dL_stitch_10 (tgt := 17) (by decide) ?_
    refine r_iconst X dL_stitch_17 (v := 0) (by decide) ?_
    exact r_iret X dL_stitch_18 rfl hp (by omega) (by omega)
theorem mh_L_thread : Cond.codeWith yL_thread cL_thread 5 (some .int) [(0, 10, 13, 18)] ∈ lwG ∧ Cond.initialized (yL_thread).cls ∈ lwG ∧ ((yL_thread).cls ≠ "java/lang/invoke/MethodHandle" ∧ (yL_thread).cls ≠ "java/lang/invoke/VarHandle" ∧ (parseMethodDescriptor (yL_thread).desc).map (fun d => d.parameters.length) = some 4) ∧ 5 ≤ 40 := ⟨inK5 25 rfl rfl, inK1 0 (by decide +kernel) rfl, by decide +kernel, by decide⟩
theorem l_thread {g : GG} {h : Hp} {o d mc ms : Nat} {fs : List Value} {p0 p1 : Int32} {Pr2 Pr : Option Value → Hp → Prop} {Pt2 : String → Hp → Prop} (hN : GOC g) (ho : oF h 0 10 = some fs) (hM : CT g d yX11_thread (wsC yX11_thread cX11_thread 3 (some (.int))) [.ref 0, .int p0, .int p1] h mc ms Pr2 Pt2)
    (kk : ∀ v h', Pr2 v h' → ∃ a h2, v = some (.int a) ∧ uJ h' o 0 (Int32.toInt64 a) = some h2 ∧ Pr (some (.int 0)) h2) (kx : ∀ E h', Pt2 E h' → (E = "java/util/NoSuchElementException" ∧ Pr (some (.int 1)) h')) : CT g (d + 1) yL_thread (wsH yL_thread cL_thread 5 (some .int) [(0, 10, 13, 18)]) [.ref 0, .int p0, .int p1, .ref o] h mc ms Pr noT := by
  refine CT_ofH (by decide +kernel) (Nat.le_of_ble_eq_true rfl) rfl fun p e s m args below meth c X => ?_
  refine r_aload_n X dL_thread_0 rfl ?_
  refine r_iconst X dL_thread_1 (v := 0) (by decide) ?_
  refine r_aload_n X dL_thread_2 rfl ?_
  refine r_iload_n X dL_thread_3 rfl ?_
  refine r_iload_n X dL_thread_4 rfl ?_
  refine r_callVD X (As := [.int p0, .int p1]) dL_thread_5 mk_X11_thread ⟨ml_L_36, im_X11_thread, se_X11_thread⟩ (oF_s ho) (ci_X11).1 rfl rfl rfl (by simp [Value.category]) ⟨by show d + 1 ≤ d + 1; omega, by show 60 * (d + 1) + 200 ≤ 60 * (d + 1) + 200; omega⟩ ⟨by show 0 + mc ≤ mc; omega, by show 0 + ms ≤ ms; omega⟩ hM (fun E h' q => ?_) (fun v h' q => ?_)
  · obtain ⟨rfl, hp⟩ := kx E h' q
    refine CaD.mk [] [] (mkE (0, 10, 13, 18)) "java/util/NoSuchElementException" 4 2 rfl (fun z hz => absurd hz List.not_mem_nil) (by decide) (by decide) cl_L_18 (hN s X.gk.z).2.2 (Or.inr ⟨rfl, dL_thread_13⟩) (by decide) rfl ?_
    refine r_iconst X dL_thread_15 (v := 1) (by decide) ?_
    exact r_iret X dL_thread_16 rfl hp (by omega) (by omega)
  · obtain ⟨a, h2, rfl, eu, hp⟩ := kk v h' q
    obtain ⟨n2, f2, c2, i2, r2⟩ := uJ_s eu
    subst r2
    refine r_i2l X dL_thread_8 ?_
    refine r_last X dL_thread_9 c2 i2 ?_
    refine r_goto X dL_thread_10 (tgt := 17) (by decide) ?_
    refine r_iconst X dL_thread_17 (v := 0) (by decide) ?_
    exact r_iret X dL_thread_18 rfl hp (by omega) (by omega)
theorem mh_L_tear : Cond.codeWith yL_tear cL_tear 5 (some .int) [(0, 10, 13, 18)] ∈ lwG ∧ Cond.initialized (yL_tear).cls ∈ lwG ∧ ((yL_tear).cls ≠ "java/lang/invoke/MethodHandle" ∧ (yL_tear).cls ≠ "java/lang/invoke/VarHandle" ∧ (parseMethodDescriptor (yL_tear).desc).map (fun d => d.parameters.length) = some 4) ∧ 5 ≤ 40 := ⟨inK5 36 rfl rfl, inK1 0 (by decide +kernel) rfl, by decide +kernel, by decide⟩
theorem l_tear {g : GG} {h : Hp} {o d mc ms : Nat} {fs : List Value} {p0 p1 : Int32} {Pr2 Pr : Option Value → Hp → Prop} {Pt2 : String → Hp → Prop} (hN : GOC g) (ho : oF h 0 10 = some fs) (hM : CT g d yX11_tear (wsC yX11_tear cX11_tear 3 (some (.int))) [.ref 0, .int p0, .int p1] h mc ms Pr2 Pt2)
    (kk : ∀ v h', Pr2 v h' → ∃ a h2, v = some (.int a) ∧ uJ h' o 0 (Int32.toInt64 a) = some h2 ∧ Pr (some (.int 0)) h2) (kx : ∀ E h', Pt2 E h' → (E = "java/util/NoSuchElementException" ∧ Pr (some (.int 1)) h')) : CT g (d + 1) yL_tear (wsH yL_tear cL_tear 5 (some .int) [(0, 10, 13, 18)]) [.ref 0, .int p0, .int p1, .ref o] h mc ms Pr noT := by
  refine CT_ofH (by decide +kernel) (Nat.le_of_ble_eq_true rfl) rfl fun p e s m args below meth c X => ?_
  refine r_aload_n X dL_tear_0 rfl ?_
  refine r_iconst X dL_tear_1 (v := 0) (by decide) ?_
  refine r_aload_n X dL_tear_2 rfl ?_
  refine r_iload_n X dL_tear_3 rfl ?_
  refine r_iload_n X dL_tear_4 rfl ?_
  refine r_callVD X (As := [.int p0, .int p1]) dL_tear_5 mk_X11_tear ⟨ml_L_39, im_X11_tear, se_X11_tear⟩ (oF_s ho) (ci_X11).1 rfl rfl rfl (by simp [Value.category]) ⟨by show d + 1 ≤ d + 1; omega, by show 60 * (d + 1) + 200 ≤ 60 * (d + 1) + 200; omega⟩ ⟨by show 0 + mc ≤ mc; omega, by show 0 + ms ≤ ms; omega⟩ hM (fun E h' q => ?_) (fun v h' q => ?_)
  · obtain ⟨rfl, hp⟩ := kx E h' q
    refine CaD.mk [] [] (mkE (0, 10, 13, 18)) "java/util/NoSuchElementException" 4 2 rfl (fun z hz => absurd hz List.not_mem_nil) (by decide) (by decide) cl_L_18 (hN s X.gk.z).2.2 (Or.inr ⟨rfl, dL_tear_13⟩) (by decide) rfl ?_
    refine r_iconst X dL_tear_15 (v := 1) (by decide) ?_
    exact r_iret X dL_tear_16 rfl hp (by omega) (by omega)
  · obtain ⟨a, h2, rfl, eu, hp⟩ := kk v h' q
    obtain ⟨n2, f2, c2, i2, r2⟩ := uJ_s eu
    subst r2
    refine r_i2l X dL_tear_8 ?_
    refine r_last X dL_tear_9 c2 i2 ?_
    refine r_goto X dL_tear_10 (tgt := 17) (by decide) ?_
    refine r_iconst X dL_tear_17 (v := 0) (by decide) ?_
    exact r_iret X dL_tear_18 rfl hp (by omega) (by omega)
theorem mh_L_then : Cond.codeWith yL_then cL_then 6 (some .int) [(0, 12, 15, 18), (0, 12, 19, 13)] ∈ lwG ∧ Cond.initialized (yL_then).cls ∈ lwG ∧ ((yL_then).cls ≠ "java/lang/invoke/MethodHandle" ∧ (yL_then).cls ≠ "java/lang/invoke/VarHandle" ∧ (parseMethodDescriptor (yL_then).desc).map (fun d => d.parameters.length) = some 5) ∧ 6 ≤ 40 := ⟨inK5 47 rfl rfl, inK1 0 (by decide +kernel) rfl, by decide +kernel, by decide⟩
theorem l_then {g : GG} {h : Hp} {o d mc ms : Nat} {fs : List Value} {p0 p1 p2 : Int32} {Pr2 Pr : Option Value → Hp → Prop} {Pt2 : String → Hp → Prop} (hN : GOC g) (ho : oF h 0 10 = some fs) (hM : CT g d yX11_then (wsC yX11_then cX11_then 4 (some (.int))) [.ref 0, .int p0, .int p1, .int p2] h mc ms Pr2 Pt2)
    (kk : ∀ v h', Pr2 v h' → ∃ a h2, v = some (.int a) ∧ uJ h' o 0 (Int32.toInt64 a) = some h2 ∧ Pr (some (.int 0)) h2) (kx : ∀ E h', Pt2 E h' → (E = "java/util/NoSuchElementException" ∧ Pr (some (.int 1)) h') ∨ (E = "java/lang/IllegalArgumentException" ∧ Pr (some (.int 2)) h')) : CT g (d + 1) yL_then (wsH yL_then cL_then 6 (some .int) [(0, 12, 15, 18), (0, 12, 19, 13)]) [.ref 0, .int p0, .int p1, .int p2, .ref o] h mc ms Pr noT := by
  refine CT_ofH (by decide +kernel) (Nat.le_of_ble_eq_true rfl) rfl fun p e s m args below meth c X => ?_
  refine r_aload X dL_then_0 rfl ?_
  refine r_iconst X dL_then_2 (v := 0) (by decide) ?_
  refine r_aload_n X dL_then_3 rfl ?_
  refine r_iload_n X dL_then_4 rfl ?_
  refine r_iload_n X dL_then_5 rfl ?_
  refine r_iload_n X dL_then_6 rfl ?_
  refine r_callVD X (As := [.int p0, .int p1, .int p2]) dL_then_7 mk_X11_then ⟨ml_L_42, im_X11_then, se_X11_then⟩ (oF_s ho) (ci_X11).1 rfl rfl rfl (by simp [Value.category]) ⟨by show d + 1 ≤ d + 1; omega, by show 60 * (d + 1) + 200 ≤ 60 * (d + 1) + 200; omega⟩ ⟨by show 0 + mc ≤ mc; omega, by show 0 + ms ≤ ms; omega⟩ hM (fun E h' q => ?_) (fun v h' q => ?_)
  · rcases kx E h' q with ⟨rfl, hp⟩ | ⟨rfl, hp⟩
    · refine CaD.mk [] [mkE (0, 12, 19, 13)] (mkE (0, 12, 15, 18)) "java/util/NoSuchElementException" 5 2 rfl (fun z hz => absurd hz List.not_mem_nil) (by decide) (by decide) cl_L_18 (hN s X.gk.z).2.2 (Or.inr ⟨rfl, dL_then_15⟩) (by decide) rfl ?_
      refine r_iconst X dL_then_17 (v := 1) (by decide) ?_
      exact r_iret X dL_then_18 rfl hp (by omega) (by omega)
    · refine CaD.mk [mkE (0, 12, 15, 18)] [] (mkE (0, 12, 19, 13)) "java/lang/IllegalArgumentException" 5 2 rfl (fun z hz => by have e0 : z = mkE (0, 12, 15, 18) := List.mem_singleton.mp hz; rw [e0]; exact Or.inr ⟨by decide, "java/util/NoSuchElementException", cl_L_18, (hN s X.gk.z).1⟩) (by decide) (by decide) cl_L_13 (hN s X.gk.z).2.1 (Or.inr ⟨rfl, dL_then_19⟩) (by decide) rfl ?_
      refine r_iconst X dL_then_21 (v := 2) (by decide) ?_
      exact r_iret X dL_then_22 rfl hp (by omega) (by omega)
  · obtain ⟨a, h2, rfl, eu, hp⟩ := kk v h' q
    obtain ⟨n2, f2, c2, i2, r2⟩ := uJ_s eu
    subst r2
    refine r_i2l X dL_then_10 ?_
    refine r_last X dL_then_11 c2 i2 ?_
    refine r_goto X dL_then_12 (tgt := 23) (by decide) ?_
    refine r_iconst X dL_then_23 (v := 0) (by decide) ?_
    exact r_iret X dL_then_24 rfl hp (by omega) (by omega)
theorem mh_L_later : Cond.codeWith yL_later cL_later 5 (some .int) [(0, 10, 13, 18), (0, 10, 17, 13)] ∈ lwG ∧ Cond.initialized (yL_later).cls ∈ lwG ∧ ((yL_later).cls ≠ "java/lang/invoke/MethodHandle" ∧ (yL_later).cls ≠ "java/lang/invoke/VarHandle" ∧ (parseMethodDescriptor (yL_later).desc).map (fun d => d.parameters.length) = some 4) ∧ 5 ≤ 40 := ⟨inK5 66 rfl rfl, inK1 0 (by decide +kernel) rfl, by decide +kernel, by decide⟩
theorem l_later {g : GG} {h : Hp} {o d mc ms : Nat} {fs : List Value} {p0 p1 : Int32} {Pr2 Pr : Option Value → Hp → Prop} {Pt2 : String → Hp → Prop} (hN : GOC g) (ho : oF h 0 10 = some fs) (hM : CT g d yX11_later (wsC yX11_later cX11_later 3 (some (.int))) [.ref 0, .int p0, .int p1] h mc ms Pr2 Pt2)
    (kk : ∀ v h', Pr2 v h' → ∃ a h2, v = some (.int a) ∧ uJ h' o 0 (Int32.toInt64 a) = some h2 ∧ Pr (some (.int 0)) h2) (kx : ∀ E h', Pt2 E h' → (E = "java/util/NoSuchElementException" ∧ Pr (some (.int 1)) h') ∨ (E = "java/lang/IllegalArgumentException" ∧ Pr (some (.int 2)) h')) : CT g (d + 1) yL_later (wsH yL_later cL_later 5 (some .int) [(0, 10, 13, 18), (0, 10, 17, 13)]) [.ref 0, .int p0, .int p1, .ref o] h mc ms Pr noT := by
  refine CT_ofH (by decide +kernel) (Nat.le_of_ble_eq_true rfl) rfl fun p e s m args below meth c X => ?_
  refine r_aload_n X dL_later_0 rfl ?_
  refine r_iconst X dL_later_1 (v := 0) (by decide) ?_
  refine r_aload_n X dL_later_2 rfl ?_
  refine r_iload_n X dL_later_3 rfl ?_
  refine r_iload_n X dL_later_4 rfl ?_
  refine r_callVD X (As := [.int p0, .int p1]) dL_later_5 mk_X11_later ⟨ml_L_46, im_X11_later, se_X11_later⟩ (oF_s ho) (ci_X11).1 rfl rfl rfl (by simp [Value.category]) ⟨by show d + 1 ≤ d + 1; omega, by show 60 * (d + 1) + 200 ≤ 60 * (d + 1) + 200; omega⟩ ⟨by show 0 + mc ≤ mc; omega, by show 0 + ms ≤ ms; omega⟩ hM (fun E h' q => ?_) (fun v h' q => ?_)
  · rcases kx E h' q with ⟨rfl, hp⟩ | ⟨rfl, hp⟩
    · refine CaD.mk [] [mkE (0, 10, 17, 13)] (mkE (0, 10, 13, 18)) "java/util/NoSuchElementException" 4 2 rfl (fun z hz => absurd hz List.not_mem_nil) (by decide) (by decide) cl_L_18 (hN s X.gk.z).2.2 (Or.inr ⟨rfl, dL_later_13⟩) (by decide) rfl ?_
      refine r_iconst X dL_later_15 (v := 1) (by decide) ?_
      exact r_iret X dL_later_16 rfl hp (by omega) (by omega)
    · refine CaD.mk [mkE (0, 10, 13, 18)] [] (mkE (0, 10, 17, 13)) "java/lang/IllegalArgumentException" 4 2 rfl (fun z hz => by have e0 : z = mkE (0, 10, 13, 18) := List.mem_singleton.mp hz; rw [e0]; exact Or.inr ⟨by decide, "java/util/NoSuchElementException", cl_L_18, (hN s X.gk.z).1⟩) (by decide) (by decide) cl_L_13 (hN s X.gk.z).2.1 (Or.inr ⟨rfl, dL_later_17⟩) (by decide) rfl ?_
      refine r_iconst X dL_later_19 (v := 2) (by decide) ?_
      exact r_iret X dL_later_20 rfl hp (by omega) (by omega)
  · obtain ⟨a, h2, rfl, eu, hp⟩ := kk v h' q
    obtain ⟨n2, f2, c2, i2, r2⟩ := uJ_s eu
    subst r2
    refine r_i2l X dL_later_8 ?_
    refine r_last X dL_later_9 c2 i2 ?_
    refine r_goto X dL_later_10 (tgt := 21) (by decide) ?_
    refine r_iconst X dL_later_21 (v := 0) (by decide) ?_
    exact r_iret X dL_later_22 rfl hp (by omega) (by omega)
theorem mh_L_opens : Cond.codeWith yL_opens cL_opens 4 (some .int) [(0, 9, 12, 18)] ∈ lwG ∧ Cond.initialized (yL_opens).cls ∈ lwG ∧ ((yL_opens).cls ≠ "java/lang/invoke/MethodHandle" ∧ (yL_opens).cls ≠ "java/lang/invoke/VarHandle" ∧ (parseMethodDescriptor (yL_opens).desc).map (fun d => d.parameters.length) = some 3) ∧ 4 ≤ 40 := ⟨inK5 85 rfl rfl, inK1 0 (by decide +kernel) rfl, by decide +kernel, by decide⟩
theorem l_opens {g : GG} {h : Hp} {o d mc ms : Nat} {fs : List Value} {p0 : Int32} {Pr2 Pr : Option Value → Hp → Prop} {Pt2 : String → Hp → Prop} (hN : GOC g) (ho : oF h 0 10 = some fs) (hM : CT g d yX11_opens (wsC yX11_opens cX11_opens 3 (some (.int))) [.ref 0, .int p0] h mc ms Pr2 Pt2)
    (kk : ∀ v h', Pr2 v h' → ∃ a h2, v = some (.int a) ∧ uJ h' o 0 (Int32.toInt64 a) = some h2 ∧ Pr (some (.int 0)) h2) (kx : ∀ E h', Pt2 E h' → (E = "java/util/NoSuchElementException" ∧ Pr (some (.int 1)) h')) : CT g (d + 1) yL_opens (wsH yL_opens cL_opens 4 (some .int) [(0, 9, 12, 18)]) [.ref 0, .int p0, .ref o] h mc ms Pr noT := by
  refine CT_ofH (by decide +kernel) (Nat.le_of_ble_eq_true rfl) rfl fun p e s m args below meth c X => ?_
  refine r_aload_n X dL_opens_0 rfl ?_
  refine r_iconst X dL_opens_1 (v := 0) (by decide) ?_
  refine r_aload_n X dL_opens_2 rfl ?_
  refine r_iload_n X dL_opens_3 rfl ?_
  refine r_callVD X (As := [.int p0]) dL_opens_4 mk_X11_opens ⟨ml_L_49, im_X11_opens, se_X11_opens⟩ (oF_s ho) (ci_X11).1 rfl rfl rfl (by simp [Value.category]) ⟨by show d + 1 ≤ d + 1; omega, by show 60 * (d + 1) + 200 ≤ 60 * (d + 1) + 200; omega⟩ ⟨by show 0 + mc ≤ mc; omega, by show 0 + ms ≤ ms; omega⟩ hM (fun E h' q => ?_) (fun v h' q => ?_)
  · obtain ⟨rfl, hp⟩ := kx E h' q
    refine CaD.mk [] [] (mkE (0, 9, 12, 18)) "java/util/NoSuchElementException" 3 1 rfl (fun z hz => absurd hz List.not_mem_nil) (by decide) (by decide) cl_L_18 (hN s X.gk.z).2.2 (Or.inl ⟨3, rfl, rfl, dL_opens_12⟩) (by decide) rfl ?_
    refine r_iconst X dL_opens_13 (v := 1) (by decide) ?_
    exact r_iret X dL_opens_14 rfl hp (by omega) (by omega)
  · obtain ⟨a, h2, rfl, eu, hp⟩ := kk v h' q
    obtain ⟨n2, f2, c2, i2, r2⟩ := uJ_s eu
    subst r2
    refine r_i2l X dL_opens_7 ?_
    refine r_last X dL_opens_8 c2 i2 ?_
    refine r_goto X dL_opens_9 (tgt := 15) (by decide) ?_
    refine r_iconst X dL_opens_15 (v := 0) (by decide) ?_
    exact r_iret X dL_opens_16 rfl hp (by omega) (by omega)
theorem mh_L_where : Cond.codeWith yL_where cL_where 6 (some .int) [(0, 12, 15, 18), (0, 12, 19, 13)] ∈ lwG ∧ Cond.initialized (yL_where).cls ∈ lwG ∧ ((yL_where).cls ≠ "java/lang/invoke/MethodHandle" ∧ (yL_where).cls ≠ "java/lang/invoke/VarHandle" ∧ (parseMethodDescriptor (yL_where).desc).map (fun d => d.parameters.length) = some 5) ∧ 6 ≤ 40 := ⟨inK5 92 rfl rfl, inK1 0 (by decide +kernel) rfl, by decide +kernel, by decide⟩
theorem l_where {g : GG} {h : Hp} {o d mc ms : Nat} {fs : List Value} {p0 p1 p2 : Int32} {Pr2 Pr : Option Value → Hp → Prop} {Pt2 : String → Hp → Prop} (hN : GOC g) (ho : oF h 0 10 = some fs) (hM : CT g d yX11_where (wsC yX11_where cX11_where 4 (some (.int))) [.ref 0, .int p0, .int p1, .int p2] h mc ms Pr2 Pt2)
    (kk : ∀ v h', Pr2 v h' → ∃ a h2, v = some (.int a) ∧ uJ h' o 0 (Int32.toInt64 a) = some h2 ∧ Pr (some (.int 0)) h2) (kx : ∀ E h', Pt2 E h' → (E = "java/util/NoSuchElementException" ∧ Pr (some (.int 1)) h') ∨ (E = "java/lang/IllegalArgumentException" ∧ Pr (some (.int 2)) h')) : CT g (d + 1) yL_where (wsH yL_where cL_where 6 (some .int) [(0, 12, 15, 18), (0, 12, 19, 13)]) [.ref 0, .int p0, .int p1, .int p2, .ref o] h mc ms Pr noT := by
  refine CT_ofH (by decide +kernel) (Nat.le_of_ble_eq_true rfl) rfl fun p e s m args below meth c X => ?_
  refine r_aload X dL_where_0 rfl ?_
  refine r_iconst X dL_where_2 (v := 0) (by decide) ?_
  refine r_aload_n X dL_where_3 rfl ?_
  refine r_iload_n X dL_where_4 rfl ?_
  refine r_iload_n X dL_where_5 rfl ?_
  refine r_iload_n X dL_where_6 rfl ?_
  refine r_callVD X (As := [.int p0, .int p1, .int p2]) dL_where_7 mk_X11_where ⟨ml_L_52, im_X11_where, se_X11_where⟩ (oF_s ho) (ci_X11).1 rfl rfl rfl (by simp [Value.category]) ⟨by show d + 1 ≤ d + 1; omega, by show 60 * (d + 1) + 200 ≤ 60 * (d + 1) + 200; omega⟩ ⟨by show 0 + mc ≤ mc; omega, by show 0 + ms ≤ ms; omega⟩ hM (fun E h' q => ?_) (fun v h' q => ?_)
  · rcases kx E h' q with ⟨rfl, hp⟩ | ⟨rfl, hp⟩
    · refine CaD.mk [] [mkE (0, 12, 19, 13)] (mkE (0, 12, 15, 18)) "java/util/NoSuchElementException" 5 2 rfl (fun z hz => absurd hz List.not_mem_nil) (by decide) (by decide) cl_L_18 (hN s X.gk.z).2.2 (Or.inr ⟨rfl, dL_where_15⟩) (by decide) rfl ?_
      refine r_iconst X dL_where_17 (v := 1) (by decide) ?_
      exact r_iret X dL_where_18 rfl hp (by omega) (by omega)
    · refine CaD.mk [mkE (0, 12, 15, 18)] [] (mkE (0, 12, 19, 13)) "java/lang/IllegalArgumentException" 5 2 rfl (fun z hz => by have e0 : z = mkE (0, 12, 15, 18) := List.mem_singleton.mp hz; rw [e0]; exact Or.inr ⟨by decide, "java/util/NoSuchElementException", cl_L_18, (hN s X.gk.z).1⟩) (by decide) (by decide) cl_L_13 (hN s X.gk.z).2.1 (Or.inr ⟨rfl, dL_where_19⟩) (by decide) rfl ?_
      refine r_iconst X dL_where_21 (v := 2) (by decide) ?_
      exact r_iret X dL_where_22 rfl hp (by omega) (by omega)
  · obtain ⟨a, h2, rfl, eu, hp⟩ := kk v h' q
    obtain ⟨n2, f2, c2, i2, r2⟩ := uJ_s eu
    subst r2
    refine r_i2l X dL_where_10 ?_
    refine r_last X dL_where_11 c2 i2 ?_
    refine r_goto X dL_where_12 (tgt := 23) (by decide) ?_
    refine r_iconst X dL_where_23 (v := 0) (by decide) ?_
    exact r_iret X dL_where_24 rfl hp (by omega) (by omega)
theorem mh_L_toHold : Cond.codeWith yL_toHold cL_toHold 5 (some .int) [(0, 10, 13, 18), (0, 10, 17, 13)] ∈ lwG ∧ Cond.initialized (yL_toHold).cls ∈ lwG ∧ ((yL_toHold).cls ≠ "java/lang/invoke/MethodHandle" ∧ (yL_toHold).cls ≠ "java/lang/invoke/VarHandle" ∧ (parseMethodDescriptor (yL_toHold).desc).map (fun d => d.parameters.length) = some 4) ∧ 5 ≤ 40 := ⟨inK5 99 rfl rfl, inK1 0 (by decide +kernel) rfl, by decide +kernel, by decide⟩
theorem l_toHold {g : GG} {h : Hp} {o d mc ms : Nat} {fs : List Value} {p0 p1 : Int32} {Pr2 Pr : Option Value → Hp → Prop} {Pt2 : String → Hp → Prop} (hN : GOC g) (ho : oF h 0 10 = some fs) (hM : CT g d yX11_toHold (wsC yX11_toHold cX11_toHold 5 (some (.int))) [.ref 0, .int p0, .int p1] h mc ms Pr2 Pt2)
    (kk : ∀ v h', Pr2 v h' → ∃ a h2, v = some (.int a) ∧ uJ h' o 0 (Int32.toInt64 a) = some h2 ∧ Pr (some (.int 0)) h2) (kx : ∀ E h', Pt2 E h' → (E = "java/util/NoSuchElementException" ∧ Pr (some (.int 1)) h') ∨ (E = "java/lang/IllegalArgumentException" ∧ Pr (some (.int 2)) h')) : CT g (d + 1) yL_toHold (wsH yL_toHold cL_toHold 5 (some .int) [(0, 10, 13, 18), (0, 10, 17, 13)]) [.ref 0, .int p0, .int p1, .ref o] h mc ms Pr noT := by
  refine CT_ofH (by decide +kernel) (Nat.le_of_ble_eq_true rfl) rfl fun p e s m args below meth c X => ?_
  refine r_aload_n X dL_toHold_0 rfl ?_
  refine r_iconst X dL_toHold_1 (v := 0) (by decide) ?_
  refine r_aload_n X dL_toHold_2 rfl ?_
  refine r_iload_n X dL_toHold_3 rfl ?_
  refine r_iload_n X dL_toHold_4 rfl ?_
  refine r_callVD X (As := [.int p0, .int p1]) dL_toHold_5 mk_X11_toHold ⟨ml_L_55, im_X11_toHold, se_X11_toHold⟩ (oF_s ho) (ci_X11).1 rfl rfl rfl (by simp [Value.category]) ⟨by show d + 1 ≤ d + 1; omega, by show 60 * (d + 1) + 200 ≤ 60 * (d + 1) + 200; omega⟩ ⟨by show 0 + mc ≤ mc; omega, by show 0 + ms ≤ ms; omega⟩ hM (fun E h' q => ?_) (fun v h' q => ?_)
  · rcases kx E h' q with ⟨rfl, hp⟩ | ⟨rfl, hp⟩
    · refine CaD.mk [] [mkE (0, 10, 17, 13)] (mkE (0, 10, 13, 18)) "java/util/NoSuchElementException" 4 2 rfl (fun z hz => absurd hz List.not_mem_nil) (by decide) (by decide) cl_L_18 (hN s X.gk.z).2.2 (Or.inr ⟨rfl, dL_toHold_13⟩) (by decide) rfl ?_
      refine r_iconst X dL_toHold_15 (v := 1) (by decide) ?_
      exact r_iret X dL_toHold_16 rfl hp (by omega) (by omega)
    · refine CaD.mk [mkE (0, 10, 13, 18)] [] (mkE (0, 10, 17, 13)) "java/lang/IllegalArgumentException" 4 2 rfl (fun z hz => by have e0 : z = mkE (0, 10, 13, 18) := List.mem_singleton.mp hz; rw [e0]; exact Or.inr ⟨by decide, "java/util/NoSuchElementException", cl_L_18, (hN s X.gk.z).1⟩) (by decide) (by decide) cl_L_13 (hN s X.gk.z).2.1 (Or.inr ⟨rfl, dL_toHold_17⟩) (by decide) rfl ?_
      refine r_iconst X dL_toHold_19 (v := 2) (by decide) ?_
      exact r_iret X dL_toHold_20 rfl hp (by omega) (by omega)
  · obtain ⟨a, h2, rfl, eu, hp⟩ := kk v h' q
    obtain ⟨n2, f2, c2, i2, r2⟩ := uJ_s eu
    subst r2
    refine r_i2l X dL_toHold_8 ?_
    refine r_last X dL_toHold_9 c2 i2 ?_
    refine r_goto X dL_toHold_10 (tgt := 21) (by decide) ?_
    refine r_iconst X dL_toHold_21 (v := 0) (by decide) ?_
    exact r_iret X dL_toHold_22 rfl hp (by omega) (by omega)
theorem mh_L_toSend : Cond.codeWith yL_toSend cL_toSend 6 (some .int) [(0, 12, 15, 18), (0, 12, 19, 13)] ∈ lwG ∧ Cond.initialized (yL_toSend).cls ∈ lwG ∧ ((yL_toSend).cls ≠ "java/lang/invoke/MethodHandle" ∧ (yL_toSend).cls ≠ "java/lang/invoke/VarHandle" ∧ (parseMethodDescriptor (yL_toSend).desc).map (fun d => d.parameters.length) = some 5) ∧ 6 ≤ 40 := ⟨inK5 110 rfl rfl, inK1 0 (by decide +kernel) rfl, by decide +kernel, by decide⟩
theorem l_toSend {g : GG} {h : Hp} {o d mc ms : Nat} {fs : List Value} {p0 p1 p2 : Int32} {Pr2 Pr : Option Value → Hp → Prop} {Pt2 : String → Hp → Prop} (hN : GOC g) (ho : oF h 0 10 = some fs) (hM : CT g d yX11_toSend (wsC yX11_toSend cX11_toSend 8 (some (.int))) [.ref 0, .int p0, .int p1, .int p2] h mc ms Pr2 Pt2)
    (kk : ∀ v h', Pr2 v h' → ∃ a h2, v = some (.int a) ∧ uJ h' o 0 (Int32.toInt64 a) = some h2 ∧ Pr (some (.int 0)) h2) (kx : ∀ E h', Pt2 E h' → (E = "java/util/NoSuchElementException" ∧ Pr (some (.int 1)) h') ∨ (E = "java/lang/IllegalArgumentException" ∧ Pr (some (.int 2)) h')) : CT g (d + 1) yL_toSend (wsH yL_toSend cL_toSend 6 (some .int) [(0, 12, 15, 18), (0, 12, 19, 13)]) [.ref 0, .int p0, .int p1, .int p2, .ref o] h mc ms Pr noT := by
  refine CT_ofH (by decide +kernel) (Nat.le_of_ble_eq_true rfl) rfl fun p e s m args below meth c X => ?_
  refine r_aload X dL_toSend_0 rfl ?_
  refine r_iconst X dL_toSend_2 (v := 0) (by decide) ?_
  refine r_aload_n X dL_toSend_3 rfl ?_
  refine r_iload_n X dL_toSend_4 rfl ?_
  refine r_iload_n X dL_toSend_5 rfl ?_
  refine r_iload_n X dL_toSend_6 rfl ?_
  refine r_callVD X (As := [.int p0, .int p1, .int p2]) dL_toSend_7 mk_X11_toSend ⟨ml_L_58, im_X11_toSend, se_X11_toSend⟩ (oF_s ho) (ci_X11).1 rfl rfl rfl (by simp [Value.category]) ⟨by show d + 1 ≤ d + 1; omega, by show 60 * (d + 1) + 200 ≤ 60 * (d + 1) + 200; omega⟩ ⟨by show 0 + mc ≤ mc; omega, by show 0 + ms ≤ ms; omega⟩ hM (fun E h' q => ?_) (fun v h' q => ?_)
  · rcases kx E h' q with ⟨rfl, hp⟩ | ⟨rfl, hp⟩
    · refine CaD.mk [] [mkE (0, 12, 19, 13)] (mkE (0, 12, 15, 18)) "java/util/NoSuchElementException" 5 2 rfl (fun z hz => absurd hz List.not_mem_nil) (by decide) (by decide) cl_L_18 (hN s X.gk.z).2.2 (Or.inr ⟨rfl, dL_toSend_15⟩) (by decide) rfl ?_
      refine r_iconst X dL_toSend_17 (v := 1) (by decide) ?_
      exact r_iret X dL_toSend_18 rfl hp (by omega) (by omega)
    · refine CaD.mk [mkE (0, 12, 15, 18)] [] (mkE (0, 12, 19, 13)) "java/lang/IllegalArgumentException" 5 2 rfl (fun z hz => by have e0 : z = mkE (0, 12, 15, 18) := List.mem_singleton.mp hz; rw [e0]; exact Or.inr ⟨by decide, "java/util/NoSuchElementException", cl_L_18, (hN s X.gk.z).1⟩) (by decide) (by decide) cl_L_13 (hN s X.gk.z).2.1 (Or.inr ⟨rfl, dL_toSend_19⟩) (by decide) rfl ?_
      refine r_iconst X dL_toSend_21 (v := 2) (by decide) ?_
      exact r_iret X dL_toSend_22 rfl hp (by omega) (by omega)
  · obtain ⟨a, h2, rfl, eu, hp⟩ := kk v h' q
    obtain ⟨n2, f2, c2, i2, r2⟩ := uJ_s eu
    subst r2
    refine r_i2l X dL_toSend_10 ?_
    refine r_last X dL_toSend_11 c2 i2 ?_
    refine r_goto X dL_toSend_12 (tgt := 23) (by decide) ?_
    refine r_iconst X dL_toSend_23 (v := 0) (by decide) ?_
    exact r_iret X dL_toSend_24 rfl hp (by omega) (by omega)
theorem mh_L_bestStitch : Cond.codeWith yL_bestStitch cL_bestStitch 5 (some .int) [(0, 10, 13, 18), (0, 10, 17, 13)] ∈ lwG ∧ Cond.initialized (yL_bestStitch).cls ∈ lwG ∧ ((yL_bestStitch).cls ≠ "java/lang/invoke/MethodHandle" ∧ (yL_bestStitch).cls ≠ "java/lang/invoke/VarHandle" ∧ (parseMethodDescriptor (yL_bestStitch).desc).map (fun d => d.parameters.length) = some 4) ∧ 5 ≤ 40 := ⟨inK5 118 rfl rfl, inK1 0 (by decide +kernel) rfl, by decide +kernel, by decide⟩
theorem l_bestStitch {g : GG} {h : Hp} {o d mc ms : Nat} {fs : List Value} {p0 p1 : Int32} {Pr2 Pr : Option Value → Hp → Prop} {Pt2 : String → Hp → Prop} (hN : GOC g) (ho : oF h 0 10 = some fs) (hM : CT g d yX11_bestStitch (wsC yX11_bestStitch cX11_bestStitch 6 (some (.int))) [.ref 0, .int p0, .int p1] h mc ms Pr2 Pt2)
    (kk : ∀ v h', Pr2 v h' → ∃ a h2, v = some (.int a) ∧ uJ h' o 0 (Int32.toInt64 a) = some h2 ∧ Pr (some (.int 0)) h2) (kx : ∀ E h', Pt2 E h' → (E = "java/util/NoSuchElementException" ∧ Pr (some (.int 1)) h') ∨ (E = "java/lang/IllegalArgumentException" ∧ Pr (some (.int 2)) h')) : CT g (d + 1) yL_bestStitch (wsH yL_bestStitch cL_bestStitch 5 (some .int) [(0, 10, 13, 18), (0, 10, 17, 13)]) [.ref 0, .int p0, .int p1, .ref o] h mc ms Pr noT := by
  refine CT_ofH (by decide +kernel) (Nat.le_of_ble_eq_true rfl) rfl fun p e s m args below meth c X => ?_
  refine r_aload_n X dL_bestStitch_0 rfl ?_
  refine r_iconst X dL_bestStitch_1 (v := 0) (by decide) ?_
  refine r_aload_n X dL_bestStitch_2 rfl ?_
  refine r_iload_n X dL_bestStitch_3 rfl ?_
  refine r_iload_n X dL_bestStitch_4 rfl ?_
  refine r_callVD X (As := [.int p0, .int p1]) dL_bestStitch_5 mk_X11_bestStitch ⟨ml_L_61, im_X11_bestStitch, se_X11_bestStitch⟩ (oF_s ho) (ci_X11).1 rfl rfl rfl (by simp [Value.category]) ⟨by show d + 1 ≤ d + 1; omega, by show 60 * (d + 1) + 200 ≤ 60 * (d + 1) + 200; omega⟩ ⟨by show 0 + mc ≤ mc; omega, by show 0 + ms ≤ ms; omega⟩ hM (fun E h' q => ?_) (fun v h' q => ?_)
  · rcases kx E h' q with ⟨rfl, hp⟩ | ⟨rfl, hp⟩
    · refine CaD.mk [] [mkE (0, 10, 17, 13)] (mkE (0, 10, 13, 18)) "java/util/NoSuchElementException" 4 2 rfl (fun z hz => absurd hz List.not_mem_nil) (by decide) (by decide) cl_L_18 (hN s X.gk.z).2.2 (Or.inr ⟨rfl, dL_bestStitch_13⟩) (by decide) rfl ?_
      refine r_iconst X dL_bestStitch_15 (v := 1) (by decide) ?_
      exact r_iret X dL_bestStitch_16 rfl hp (by omega) (by omega)
    · refine CaD.mk [mkE (0, 10, 13, 18)] [] (mkE (0, 10, 17, 13)) "java/lang/IllegalArgumentException" 4 2 rfl (fun z hz => by have e0 : z = mkE (0, 10, 13, 18) := List.mem_singleton.mp hz; rw [e0]; exact Or.inr ⟨by decide, "java/util/NoSuchElementException", cl_L_18, (hN s X.gk.z).1⟩) (by decide) (by decide) cl_L_13 (hN s X.gk.z).2.1 (Or.inr ⟨rfl, dL_bestStitch_17⟩) (by decide) rfl ?_
      refine r_iconst X dL_bestStitch_19 (v := 2) (by decide) ?_
      exact r_iret X dL_bestStitch_20 rfl hp (by omega) (by omega)
  · obtain ⟨a, h2, rfl, eu, hp⟩ := kk v h' q
    obtain ⟨n2, f2, c2, i2, r2⟩ := uJ_s eu
    subst r2
    refine r_i2l X dL_bestStitch_8 ?_
    refine r_last X dL_bestStitch_9 c2 i2 ?_
    refine r_goto X dL_bestStitch_10 (tgt := 21) (by decide) ?_
    refine r_iconst X dL_bestStitch_21 (v := 0) (by decide) ?_
    exact r_iret X dL_bestStitch_22 rfl hp (by omega) (by omega)
theorem mh_L_sent : Cond.codeWith yL_sent cL_sent 5 (some .int) [(0, 10, 13, 18), (0, 10, 17, 13)] ∈ lwG ∧ Cond.initialized (yL_sent).cls ∈ lwG ∧ ((yL_sent).cls ≠ "java/lang/invoke/MethodHandle" ∧ (yL_sent).cls ≠ "java/lang/invoke/VarHandle" ∧ (parseMethodDescriptor (yL_sent).desc).map (fun d => d.parameters.length) = some 4) ∧ 5 ≤ 40 := ⟨inK5 125 rfl rfl, inK1 0 (by decide +kernel) rfl, by decide +kernel, by decide⟩
theorem l_sent {g : GG} {h : Hp} {o d mc ms : Nat} {fs : List Value} {p0 p1 : Int32} {Pr2 Pr : Option Value → Hp → Prop} {Pt2 : String → Hp → Prop} (hN : GOC g) (ho : oF h 0 10 = some fs) (hM : CT g d yX11_sent (wsC yX11_sent cX11_sent 3 (some (.int))) [.ref 0, .int p0, .int p1] h mc ms Pr2 Pt2)
    (kk : ∀ v h', Pr2 v h' → ∃ a h2, v = some (.int a) ∧ uJ h' o 0 (Int32.toInt64 a) = some h2 ∧ Pr (some (.int 0)) h2) (kx : ∀ E h', Pt2 E h' → (E = "java/util/NoSuchElementException" ∧ Pr (some (.int 1)) h') ∨ (E = "java/lang/IllegalArgumentException" ∧ Pr (some (.int 2)) h')) : CT g (d + 1) yL_sent (wsH yL_sent cL_sent 5 (some .int) [(0, 10, 13, 18), (0, 10, 17, 13)]) [.ref 0, .int p0, .int p1, .ref o] h mc ms Pr noT := by
  refine CT_ofH (by decide +kernel) (Nat.le_of_ble_eq_true rfl) rfl fun p e s m args below meth c X => ?_
  refine r_aload_n X dL_sent_0 rfl ?_
  refine r_iconst X dL_sent_1 (v := 0) (by decide) ?_
  refine r_aload_n X dL_sent_2 rfl ?_
  refine r_iload_n X dL_sent_3 rfl ?_
  refine r_iload_n X dL_sent_4 rfl ?_
  refine r_callVD X (As := [.int p0, .int p1]) dL_sent_5 mk_X11_sent ⟨ml_L_64, im_X11_sent, se_X11_sent⟩ (oF_s ho) (ci_X11).1 rfl rfl rfl (by simp [Value.category]) ⟨by show d + 1 ≤ d + 1; omega, by show 60 * (d + 1) + 200 ≤ 60 * (d + 1) + 200; omega⟩ ⟨by show 0 + mc ≤ mc; omega, by show 0 + ms ≤ ms; omega⟩ hM (fun E h' q => ?_) (fun v h' q => ?_)
  · rcases kx E h' q with ⟨rfl, hp⟩ | ⟨rfl, hp⟩
    · refine CaD.mk [] [mkE (0, 10, 17, 13)] (mkE (0, 10, 13, 18)) "java/util/NoSuchElementException" 4 2 rfl (fun z hz => absurd hz List.not_mem_nil) (by decide) (by decide) cl_L_18 (hN s X.gk.z).2.2 (Or.inr ⟨rfl, dL_sent_13⟩) (by decide) rfl ?_
      refine r_iconst X dL_sent_15 (v := 1) (by decide) ?_
      exact r_iret X dL_sent_16 rfl hp (by omega) (by omega)
    · refine CaD.mk [mkE (0, 10, 13, 18)] [] (mkE (0, 10, 17, 13)) "java/lang/IllegalArgumentException" 4 2 rfl (fun z hz => by have e0 : z = mkE (0, 10, 13, 18) := List.mem_singleton.mp hz; rw [e0]; exact Or.inr ⟨by decide, "java/util/NoSuchElementException", cl_L_18, (hN s X.gk.z).1⟩) (by decide) (by decide) cl_L_13 (hN s X.gk.z).2.1 (Or.inr ⟨rfl, dL_sent_17⟩) (by decide) rfl ?_
      refine r_iconst X dL_sent_19 (v := 2) (by decide) ?_
      exact r_iret X dL_sent_20 rfl hp (by omega) (by omega)
  · obtain ⟨a, h2, rfl, eu, hp⟩ := kk v h' q
    obtain ⟨n2, f2, c2, i2, r2⟩ := uJ_s eu
    subst r2
    refine r_i2l X dL_sent_8 ?_
    refine r_last X dL_sent_9 c2 i2 ?_
    refine r_goto X dL_sent_10 (tgt := 21) (by decide) ?_
    refine r_iconst X dL_sent_21 (v := 0) (by decide) ?_
    exact r_iret X dL_sent_22 rfl hp (by omega) (by omega)
theorem mh_L_closed : Cond.codeWith yL_closed cL_closed 4 (some .int) [(0, 9, 12, 18)] ∈ lwG ∧ Cond.initialized (yL_closed).cls ∈ lwG ∧ ((yL_closed).cls ≠ "java/lang/invoke/MethodHandle" ∧ (yL_closed).cls ≠ "java/lang/invoke/VarHandle" ∧ (parseMethodDescriptor (yL_closed).desc).map (fun d => d.parameters.length) = some 3) ∧ 4 ≤ 40 := ⟨inK5 168 rfl rfl, inK1 0 (by decide +kernel) rfl, by decide +kernel, by decide⟩
theorem l_closed {g : GG} {h : Hp} {o d mc ms : Nat} {fs : List Value} {p0 : Int32} {Pr2 Pr : Option Value → Hp → Prop} {Pt2 : String → Hp → Prop} (hN : GOC g) (ho : oF h 0 10 = some fs) (hM : CT g d yX11_closed (wsC yX11_closed cX11_closed 6 (some (.int))) [.ref 0, .int p0] h mc ms Pr2 Pt2)
    (kk : ∀ v h', Pr2 v h' → ∃ a h2, v = some (.int a) ∧ uJ h' o 0 (Int32.toInt64 a) = some h2 ∧ Pr (some (.int 0)) h2) (kx : ∀ E h', Pt2 E h' → (E = "java/util/NoSuchElementException" ∧ Pr (some (.int 1)) h')) : CT g (d + 1) yL_closed (wsH yL_closed cL_closed 4 (some .int) [(0, 9, 12, 18)]) [.ref 0, .int p0, .ref o] h mc ms Pr noT := by
  refine CT_ofH (by decide +kernel) (Nat.le_of_ble_eq_true rfl) rfl fun p e s m args below meth c X => ?_
  refine r_aload_n X dL_closed_0 rfl ?_
  refine r_iconst X dL_closed_1 (v := 0) (by decide) ?_
  refine r_aload_n X dL_closed_2 rfl ?_
  refine r_iload_n X dL_closed_3 rfl ?_
  refine r_callVD X (As := [.int p0]) dL_closed_4 mk_X11_closed ⟨ml_L_67, im_X11_closed, se_X11_closed⟩ (oF_s ho) (ci_X11).1 rfl rfl rfl (by simp [Value.category]) ⟨by show d + 1 ≤ d + 1; omega, by show 60 * (d + 1) + 200 ≤ 60 * (d + 1) + 200; omega⟩ ⟨by show 0 + mc ≤ mc; omega, by show 0 + ms ≤ ms; omega⟩ hM (fun E h' q => ?_) (fun v h' q => ?_)
  · obtain ⟨rfl, hp⟩ := kx E h' q
    refine CaD.mk [] [] (mkE (0, 9, 12, 18)) "java/util/NoSuchElementException" 3 1 rfl (fun z hz => absurd hz List.not_mem_nil) (by decide) (by decide) cl_L_18 (hN s X.gk.z).2.2 (Or.inl ⟨3, rfl, rfl, dL_closed_12⟩) (by decide) rfl ?_
    refine r_iconst X dL_closed_13 (v := 1) (by decide) ?_
    exact r_iret X dL_closed_14 rfl hp (by omega) (by omega)
  · obtain ⟨a, h2, rfl, eu, hp⟩ := kk v h' q
    obtain ⟨n2, f2, c2, i2, r2⟩ := uJ_s eu
    subst r2
    refine r_i2l X dL_closed_7 ?_
    refine r_last X dL_closed_8 c2 i2 ?_
    refine r_goto X dL_closed_9 (tgt := 15) (by decide) ?_
    refine r_iconst X dL_closed_15 (v := 0) (by decide) ?_
    exact r_iret X dL_closed_16 rfl hp (by omega) (by omega)
theorem mh_L_tight : Cond.codeWith yL_tight cL_tight 5 (some .int) [(0, 10, 13, 18), (0, 10, 17, 13)] ∈ lwG ∧ Cond.initialized (yL_tight).cls ∈ lwG ∧ ((yL_tight).cls ≠ "java/lang/invoke/MethodHandle" ∧ (yL_tight).cls ≠ "java/lang/invoke/VarHandle" ∧ (parseMethodDescriptor (yL_tight).desc).map (fun d => d.parameters.length) = some 4) ∧ 5 ≤ 40 := ⟨inK5 180 rfl rfl, inK1 0 (by decide +kernel) rfl, by decide +kernel, by decide⟩
theorem l_tight {g : GG} {h : Hp} {o d mc ms : Nat} {fs : List Value} {p0 p1 : Int32} {Pr2 Pr : Option Value → Hp → Prop} {Pt2 : String → Hp → Prop} (hN : GOC g) (ho : oF h 0 10 = some fs) (hM : CT g d yX11_tight (wsC yX11_tight cX11_tight 7 (some (.int))) [.ref 0, .int p0, .int p1] h mc ms Pr2 Pt2)
    (kk : ∀ v h', Pr2 v h' → ∃ a h2, v = some (.int a) ∧ uJ h' o 0 (Int32.toInt64 a) = some h2 ∧ Pr (some (.int 0)) h2) (kx : ∀ E h', Pt2 E h' → (E = "java/util/NoSuchElementException" ∧ Pr (some (.int 1)) h') ∨ (E = "java/lang/IllegalArgumentException" ∧ Pr (some (.int 2)) h')) : CT g (d + 1) yL_tight (wsH yL_tight cL_tight 5 (some .int) [(0, 10, 13, 18), (0, 10, 17, 13)]) [.ref 0, .int p0, .int p1, .ref o] h mc ms Pr noT := by
  refine CT_ofH (by decide +kernel) (Nat.le_of_ble_eq_true rfl) rfl fun p e s m args below meth c X => ?_
  refine r_aload_n X dL_tight_0 rfl ?_
  refine r_iconst X dL_tight_1 (v := 0) (by decide) ?_
  refine r_aload_n X dL_tight_2 rfl ?_
  refine r_iload_n X dL_tight_3 rfl ?_
  refine r_iload_n X dL_tight_4 rfl ?_
  refine r_callVD X (As := [.int p0, .int p1]) dL_tight_5 mk_X11_tight ⟨ml_L_70, im_X11_tight, se_X11_tight⟩ (oF_s ho) (ci_X11).1 rfl rfl rfl (by simp [Value.category]) ⟨by show d + 1 ≤ d + 1; omega, by show 60 * (d + 1) + 200 ≤ 60 * (d + 1) + 200; omega⟩ ⟨by show 0 + mc ≤ mc; omega, by show 0 + ms ≤ ms; omega⟩ hM (fun E h' q => ?_) (fun v h' q => ?_)
  · rcases kx E h' q with ⟨rfl, hp⟩ | ⟨rfl, hp⟩
    · refine CaD.mk [] [mkE (0, 10, 17, 13)] (mkE (0, 10, 13, 18)) "java/util/NoSuchElementException" 4 2 rfl (fun z hz => absurd hz List.not_mem_nil) (by decide) (by decide) cl_L_18 (hN s X.gk.z).2.2 (Or.inr ⟨rfl, dL_tight_13⟩) (by decide) rfl ?_
      refine r_iconst X dL_tight_15 (v := 1) (by decide) ?_
      exact r_iret X dL_tight_16 rfl hp (by omega) (by omega)
    · refine CaD.mk [mkE (0, 10, 13, 18)] [] (mkE (0, 10, 17, 13)) "java/lang/IllegalArgumentException" 4 2 rfl (fun z hz => by have e0 : z = mkE (0, 10, 13, 18) := List.mem_singleton.mp hz; rw [e0]; exact Or.inr ⟨by decide, "java/util/NoSuchElementException", cl_L_18, (hN s X.gk.z).1⟩) (by decide) (by decide) cl_L_13 (hN s X.gk.z).2.1 (Or.inr ⟨rfl, dL_tight_17⟩) (by decide) rfl ?_
      refine r_iconst X dL_tight_19 (v := 2) (by decide) ?_
      exact r_iret X dL_tight_20 rfl hp (by omega) (by omega)
  · obtain ⟨a, h2, rfl, eu, hp⟩ := kk v h' q
    obtain ⟨n2, f2, c2, i2, r2⟩ := uJ_s eu
    subst r2
    refine r_i2l X dL_tight_8 ?_
    refine r_last X dL_tight_9 c2 i2 ?_
    refine r_goto X dL_tight_10 (tgt := 21) (by decide) ?_
    refine r_iconst X dL_tight_21 (v := 0) (by decide) ?_
    exact r_iret X dL_tight_22 rfl hp (by omega) (by omega)
theorem mh_L_readings : Cond.codeWith yL_readings cL_readings 5 (some .int) [(0, 10, 13, 18), (0, 10, 17, 13)] ∈ lwG ∧ Cond.initialized (yL_readings).cls ∈ lwG ∧ ((yL_readings).cls ≠ "java/lang/invoke/MethodHandle" ∧ (yL_readings).cls ≠ "java/lang/invoke/VarHandle" ∧ (parseMethodDescriptor (yL_readings).desc).map (fun d => d.parameters.length) = some 4) ∧ 5 ≤ 40 := ⟨inK5 192 rfl rfl, inK1 0 (by decide +kernel) rfl, by decide +kernel, by decide⟩
theorem l_readings {g : GG} {h : Hp} {o d mc ms : Nat} {fs : List Value} {p0 p1 : Int32} {Pr2 Pr : Option Value → Hp → Prop} {Pt2 : String → Hp → Prop} (hN : GOC g) (ho : oF h 0 10 = some fs) (hM : CT g d yX11_readings (wsC yX11_readings cX11_readings 3 (some (.int))) [.ref 0, .int p0, .int p1] h mc ms Pr2 Pt2)
    (kk : ∀ v h', Pr2 v h' → ∃ a h2, v = some (.int a) ∧ uJ h' o 0 (Int32.toInt64 a) = some h2 ∧ Pr (some (.int 0)) h2) (kx : ∀ E h', Pt2 E h' → (E = "java/util/NoSuchElementException" ∧ Pr (some (.int 1)) h') ∨ (E = "java/lang/IllegalArgumentException" ∧ Pr (some (.int 2)) h')) : CT g (d + 1) yL_readings (wsH yL_readings cL_readings 5 (some .int) [(0, 10, 13, 18), (0, 10, 17, 13)]) [.ref 0, .int p0, .int p1, .ref o] h mc ms Pr noT := by
  refine CT_ofH (by decide +kernel) (Nat.le_of_ble_eq_true rfl) rfl fun p e s m args below meth c X => ?_
  refine r_aload_n X dL_readings_0 rfl ?_
  refine r_iconst X dL_readings_1 (v := 0) (by decide) ?_
  refine r_aload_n X dL_readings_2 rfl ?_
  refine r_iload_n X dL_readings_3 rfl ?_
  refine r_iload_n X dL_readings_4 rfl ?_
  refine r_callVD X (As := [.int p0, .int p1]) dL_readings_5 mk_X11_readings ⟨ml_L_73, im_X11_readings, se_X11_readings⟩ (oF_s ho) (ci_X11).1 rfl rfl rfl (by simp [Value.category]) ⟨by show d + 1 ≤ d + 1; omega, by show 60 * (d + 1) + 200 ≤ 60 * (d + 1) + 200; omega⟩ ⟨by show 0 + mc ≤ mc; omega, by show 0 + ms ≤ ms; omega⟩ hM (fun E h' q => ?_) (fun v h' q => ?_)
  · rcases kx E h' q with ⟨rfl, hp⟩ | ⟨rfl, hp⟩
    · refine CaD.mk [] [mkE (0, 10, 17, 13)] (mkE (0, 10, 13, 18)) "java/util/NoSuchElementException" 4 2 rfl (fun z hz => absurd hz List.not_mem_nil) (by decide) (by decide) cl_L_18 (hN s X.gk.z).2.2 (Or.inr ⟨rfl, dL_readings_13⟩) (by decide) rfl ?_
      refine r_iconst X dL_readings_15 (v := 1) (by decide) ?_
      exact r_iret X dL_readings_16 rfl hp (by omega) (by omega)
    · refine CaD.mk [mkE (0, 10, 13, 18)] [] (mkE (0, 10, 17, 13)) "java/lang/IllegalArgumentException" 4 2 rfl (fun z hz => by have e0 : z = mkE (0, 10, 13, 18) := List.mem_singleton.mp hz; rw [e0]; exact Or.inr ⟨by decide, "java/util/NoSuchElementException", cl_L_18, (hN s X.gk.z).1⟩) (by decide) (by decide) cl_L_13 (hN s X.gk.z).2.1 (Or.inr ⟨rfl, dL_readings_17⟩) (by decide) rfl ?_
      refine r_iconst X dL_readings_19 (v := 2) (by decide) ?_
      exact r_iret X dL_readings_20 rfl hp (by omega) (by omega)
  · obtain ⟨a, h2, rfl, eu, hp⟩ := kk v h' q
    obtain ⟨n2, f2, c2, i2, r2⟩ := uJ_s eu
    subst r2
    refine r_i2l X dL_readings_8 ?_
    refine r_last X dL_readings_9 c2 i2 ?_
    refine r_goto X dL_readings_10 (tgt := 21) (by decide) ?_
    refine r_iconst X dL_readings_21 (v := 0) (by decide) ?_
    exact r_iret X dL_readings_22 rfl hp (by omega) (by omega)
theorem mh_L_see : Cond.codeWith yL_see cL_see 6 (some .int) [(0, 12, 15, 18)] ∈ lwG ∧ Cond.initialized (yL_see).cls ∈ lwG ∧ ((yL_see).cls ≠ "java/lang/invoke/MethodHandle" ∧ (yL_see).cls ≠ "java/lang/invoke/VarHandle" ∧ (parseMethodDescriptor (yL_see).desc).map (fun d => d.parameters.length) = some 5) ∧ 6 ≤ 40 := ⟨inK5 215 rfl rfl, inK1 0 (by decide +kernel) rfl, by decide +kernel, by decide⟩
theorem l_see {g : GG} {h : Hp} {o d mc ms : Nat} {fs : List Value} {p0 p1 p2 : Int32} {Pr2 Pr : Option Value → Hp → Prop} {Pt2 : String → Hp → Prop} (hN : GOC g) (ho : oF h 0 10 = some fs) (hM : CT g d yX11_see (wsC yX11_see cX11_see 5 (some (.int))) [.ref 0, .int p0, .int p1, .int p2] h mc ms Pr2 Pt2)
    (kk : ∀ v h', Pr2 v h' → ∃ a h2, v = some (.int a) ∧ uJ h' o 0 (Int32.toInt64 a) = some h2 ∧ Pr (some (.int 0)) h2) (kx : ∀ E h', Pt2 E h' → (E = "java/util/NoSuchElementException" ∧ Pr (some (.int 1)) h')) : CT g (d + 1) yL_see (wsH yL_see cL_see 6 (some .int) [(0, 12, 15, 18)]) [.ref 0, .int p0, .int p1, .int p2, .ref o] h mc ms Pr noT := by
  refine CT_ofH (by decide +kernel) (Nat.le_of_ble_eq_true rfl) rfl fun p e s m args below meth c X => ?_
  refine r_aload X dL_see_0 rfl ?_
  refine r_iconst X dL_see_2 (v := 0) (by decide) ?_
  refine r_aload_n X dL_see_3 rfl ?_
  refine r_iload_n X dL_see_4 rfl ?_
  refine r_iload_n X dL_see_5 rfl ?_
  refine r_iload_n X dL_see_6 rfl ?_
  refine r_callVD X (As := [.int p0, .int p1, .int p2]) dL_see_7 mk_X11_see ⟨ml_L_76, im_X11_see, se_X11_see⟩ (oF_s ho) (ci_X11).1 rfl rfl rfl (by simp [Value.category]) ⟨by show d + 1 ≤ d + 1; omega, by show 60 * (d + 1) + 200 ≤ 60 * (d + 1) + 200; omega⟩ ⟨by show 0 + mc ≤ mc; omega, by show 0 + ms ≤ ms; omega⟩ hM (fun E h' q => ?_) (fun v h' q => ?_)
  · obtain ⟨rfl, hp⟩ := kx E h' q
    refine CaD.mk [] [] (mkE (0, 12, 15, 18)) "java/util/NoSuchElementException" 5 2 rfl (fun z hz => absurd hz List.not_mem_nil) (by decide) (by decide) cl_L_18 (hN s X.gk.z).2.2 (Or.inr ⟨rfl, dL_see_15⟩) (by decide) rfl ?_
    refine r_iconst X dL_see_17 (v := 1) (by decide) ?_
    exact r_iret X dL_see_18 rfl hp (by omega) (by omega)
  · obtain ⟨a, h2, rfl, eu, hp⟩ := kk v h' q
    obtain ⟨n2, f2, c2, i2, r2⟩ := uJ_s eu
    subst r2
    refine r_i2l X dL_see_10 ?_
    refine r_last X dL_see_11 c2 i2 ?_
    refine r_goto X dL_see_12 (tgt := 19) (by decide) ?_
    refine r_iconst X dL_see_19 (v := 0) (by decide) ?_
    exact r_iret X dL_see_20 rfl hp (by omega) (by omega)
theorem mh_L_torn : Cond.codeWith yL_torn cL_torn 4 (some .int) [(0, 9, 12, 18)] ∈ lwG ∧ Cond.initialized (yL_torn).cls ∈ lwG ∧ ((yL_torn).cls ≠ "java/lang/invoke/MethodHandle" ∧ (yL_torn).cls ≠ "java/lang/invoke/VarHandle" ∧ (parseMethodDescriptor (yL_torn).desc).map (fun d => d.parameters.length) = some 3) ∧ 4 ≤ 40 := ⟨inK5 226 rfl rfl, inK1 0 (by decide +kernel) rfl, by decide +kernel, by decide⟩
theorem l_torn {g : GG} {h : Hp} {o d mc ms : Nat} {fs : List Value} {p0 : Int32} {Pr2 Pr : Option Value → Hp → Prop} {Pt2 : String → Hp → Prop} (hN : GOC g) (ho : oF h 0 10 = some fs) (hM : CT g d yX11_torn (wsC yX11_torn cX11_torn 2 (some (.int))) [.ref 0, .int p0] h mc ms Pr2 Pt2)
    (kk : ∀ v h', Pr2 v h' → ∃ a h2, v = some (.int a) ∧ uJ h' o 0 (Int32.toInt64 a) = some h2 ∧ Pr (some (.int 0)) h2) (kx : ∀ E h', Pt2 E h' → (E = "java/util/NoSuchElementException" ∧ Pr (some (.int 1)) h')) : CT g (d + 1) yL_torn (wsH yL_torn cL_torn 4 (some .int) [(0, 9, 12, 18)]) [.ref 0, .int p0, .ref o] h mc ms Pr noT := by
  refine CT_ofH (by decide +kernel) (Nat.le_of_ble_eq_true rfl) rfl fun p e s m args below meth c X => ?_
  refine r_aload_n X dL_torn_0 rfl ?_
  refine r_iconst X dL_torn_1 (v := 0) (by decide) ?_
  refine r_aload_n X dL_torn_2 rfl ?_
  refine r_iload_n X dL_torn_3 rfl ?_
  refine r_callVD X (As := [.int p0]) dL_torn_4 mk_X11_torn ⟨ml_L_79, im_X11_torn, se_X11_torn⟩ (oF_s ho) (ci_X11).1 rfl rfl rfl (by simp [Value.category]) ⟨by show d + 1 ≤ d + 1; omega, by show 60 * (d + 1) + 200 ≤ 60 * (d + 1) + 200; omega⟩ ⟨by show 0 + mc ≤ mc; omega, by show 0 + ms ≤ ms; omega⟩ hM (fun E h' q => ?_) (fun v h' q => ?_)
  · obtain ⟨rfl, hp⟩ := kx E h' q
    refine CaD.mk [] [] (mkE (0, 9, 12, 18)) "java/util/NoSuchElementException" 3 1 rfl (fun z hz => absurd hz List.not_mem_nil) (by decide) (by decide) cl_L_18 (hN s X.gk.z).2.2 (Or.inl ⟨3, rfl, rfl, dL_torn_12⟩) (by decide) rfl ?_
    refine r_iconst X dL_torn_13 (v := 1) (by decide) ?_
    exact r_iret X dL_torn_14 rfl hp (by omega) (by omega)
  · obtain ⟨a, h2, rfl, eu, hp⟩ := kk v h' q
    obtain ⟨n2, f2, c2, i2, r2⟩ := uJ_s eu
    subst r2
    refine r_i2l X dL_torn_7 ?_
    refine r_last X dL_torn_8 c2 i2 ?_
    refine r_goto X dL_torn_9 (tgt := 15) (by decide) ?_
    refine r_iconst X dL_torn_15 (v := 0) (by decide) ?_
    exact r_iret X dL_torn_16 rfl hp (by omega) (by omega)
theorem mh_L_look : Cond.codeWith yL_look cL_look 4 (some .int) [(0, 9, 12, 18)] ∈ lwG ∧ Cond.initialized (yL_look).cls ∈ lwG ∧ ((yL_look).cls ≠ "java/lang/invoke/MethodHandle" ∧ (yL_look).cls ≠ "java/lang/invoke/VarHandle" ∧ (parseMethodDescriptor (yL_look).desc).map (fun d => d.parameters.length) = some 3) ∧ 4 ≤ 40 := ⟨inK6 24 rfl rfl, inK1 0 (by decide +kernel) rfl, by decide +kernel, by decide⟩
theorem l_look {g : GG} {h : Hp} {o d mc ms : Nat} {fs : List Value} {p0 : Int32} {Pr2 Pr : Option Value → Hp → Prop} {Pt2 : String → Hp → Prop} (hN : GOC g) (ho : oF h 0 10 = some fs) (hM : CT g d yX11_look (wsC yX11_look cX11_look 6 (some (.int))) [.ref 0, .int p0] h mc ms Pr2 Pt2)
    (kk : ∀ v h', Pr2 v h' → ∃ a h2, v = some (.int a) ∧ uJ h' o 0 (Int32.toInt64 a) = some h2 ∧ Pr (some (.int 0)) h2) (kx : ∀ E h', Pt2 E h' → (E = "java/util/NoSuchElementException" ∧ Pr (some (.int 1)) h')) : CT g (d + 1) yL_look (wsH yL_look cL_look 4 (some .int) [(0, 9, 12, 18)]) [.ref 0, .int p0, .ref o] h mc ms Pr noT := by
  refine CT_ofH (by decide +kernel) (Nat.le_of_ble_eq_true rfl) rfl fun p e s m args below meth c X => ?_
  refine r_aload_n X dL_look_0 rfl ?_
  refine r_iconst X dL_look_1 (v := 0) (by decide) ?_
  refine r_aload_n X dL_look_2 rfl ?_
  refine r_iload_n X dL_look_3 rfl ?_
  refine r_callVD X (As := [.int p0]) dL_look_4 mk_X11_look ⟨ml_L_82, im_X11_look, se_X11_look⟩ (oF_s ho) (ci_X11).1 rfl rfl rfl (by simp [Value.category]) ⟨by show d + 1 ≤ d + 1; omega, by show 60 * (d + 1) + 200 ≤ 60 * (d + 1) + 200; omega⟩ ⟨by show 0 + mc ≤ mc; omega, by show 0 + ms ≤ ms; omega⟩ hM (fun E h' q => ?_) (fun v h' q => ?_)
  · obtain ⟨rfl, hp⟩ := kx E h' q
    refine CaD.mk [] [] (mkE (0, 9, 12, 18)) "java/util/NoSuchElementException" 3 1 rfl (fun z hz => absurd hz List.not_mem_nil) (by decide) (by decide) cl_L_18 (hN s X.gk.z).2.2 (Or.inl ⟨3, rfl, rfl, dL_look_12⟩) (by decide) rfl ?_
    refine r_iconst X dL_look_13 (v := 1) (by decide) ?_
    exact r_iret X dL_look_14 rfl hp (by omega) (by omega)
  · obtain ⟨a, h2, rfl, eu, hp⟩ := kk v h' q
    obtain ⟨n2, f2, c2, i2, r2⟩ := uJ_s eu
    subst r2
    refine r_i2l X dL_look_7 ?_
    refine r_last X dL_look_8 c2 i2 ?_
    refine r_goto X dL_look_9 (tgt := 15) (by decide) ?_
    refine r_iconst X dL_look_15 (v := 0) (by decide) ?_
    exact r_iret X dL_look_16 rfl hp (by omega) (by omega)
theorem mh_L_gales : Cond.codeWith yL_gales cL_gales 5 (some .int) [(0, 10, 13, 13)] ∈ lwG ∧ Cond.initialized (yL_gales).cls ∈ lwG ∧ ((yL_gales).cls ≠ "java/lang/invoke/MethodHandle" ∧ (yL_gales).cls ≠ "java/lang/invoke/VarHandle" ∧ (parseMethodDescriptor (yL_gales).desc).map (fun d => d.parameters.length) = some 4) ∧ 5 ≤ 40 := ⟨inK6 41 rfl rfl, inK1 0 (by decide +kernel) rfl, by decide +kernel, by decide⟩
theorem l_gales {g : GG} {h : Hp} {o d mc ms : Nat} {fs : List Value} {p0 p1 : Int32} {Pr2 Pr : Option Value → Hp → Prop} {Pt2 : String → Hp → Prop} (hN : GOC g) (ho : oF h 0 10 = some fs) (hM : CT g d yX11_gales (wsC yX11_gales cX11_gales 7 (some (.int))) [.ref 0, .int p0, .int p1] h mc ms Pr2 Pt2)
    (kk : ∀ v h', Pr2 v h' → ∃ a h2, v = some (.int a) ∧ uJ h' o 0 (Int32.toInt64 a) = some h2 ∧ Pr (some (.int 0)) h2) (kx : ∀ E h', Pt2 E h' → (E = "java/lang/IllegalArgumentException" ∧ Pr (some (.int 1)) h')) : CT g (d + 1) yL_gales (wsH yL_gales cL_gales 5 (some .int) [(0, 10, 13, 13)]) [.ref 0, .int p0, .int p1, .ref o] h mc ms Pr noT := by
  refine CT_ofH (by decide +kernel) (Nat.le_of_ble_eq_true rfl) rfl fun p e s m args below meth c X => ?_
  refine r_aload_n X dL_gales_0 rfl ?_
  refine r_iconst X dL_gales_1 (v := 0) (by decide) ?_
  refine r_aload_n X dL_gales_2 rfl ?_
  refine r_iload_n X dL_gales_3 rfl ?_
  refine r_iload_n X dL_gales_4 rfl ?_
  refine r_callVD X (As := [.int p0, .int p1]) dL_gales_5 mk_X11_gales ⟨ml_L_85, im_X11_gales, se_X11_gales⟩ (oF_s ho) (ci_X11).1 rfl rfl rfl (by simp [Value.category]) ⟨by show d + 1 ≤ d + 1; omega, by show 60 * (d + 1) + 200 ≤ 60 * (d + 1) + 200; omega⟩ ⟨by show 0 + mc ≤ mc; omega, by show 0 + ms ≤ ms; omega⟩ hM (fun E h' q => ?_) (fun v h' q => ?_)
  · obtain ⟨rfl, hp⟩ := kx E h' q
    refine CaD.mk [] [] (mkE (0, 10, 13, 13)) "java/lang/IllegalArgumentException" 4 2 rfl (fun z hz => absurd hz List.not_mem_nil) (by decide) (by decide) cl_L_13 (hN s X.gk.z).2.1 (Or.inr ⟨rfl, dL_gales_13⟩) (by decide) rfl ?_
    refine r_iconst X dL_gales_15 (v := 1) (by decide) ?_
    exact r_iret X dL_gales_16 rfl hp (by omega) (by omega)
  · obtain ⟨a, h2, rfl, eu, hp⟩ := kk v h' q
    obtain ⟨n2, f2, c2, i2, r2⟩ := uJ_s eu
    subst r2
    refine r_i2l X dL_gales_8 ?_
    refine r_last X dL_gales_9 c2 i2 ?_
    refine r_goto X dL_gales_10 (tgt := 17) (by decide) ?_
    refine r_iconst X dL_gales_17 (v := 0) (by decide) ?_
    exact r_iret X dL_gales_18 rfl hp (by omega) (by omega)
theorem mh_L_game : Cond.codeWith yL_game cL_game 6 (some .int) [(0, 12, 15, 18), (0, 12, 19, 13)] ∈ lwG ∧ Cond.initialized (yL_game).cls ∈ lwG ∧ ((yL_game).cls ≠ "java/lang/invoke/MethodHandle" ∧ (yL_game).cls ≠ "java/lang/invoke/VarHandle" ∧ (parseMethodDescriptor (yL_game).desc).map (fun d => d.parameters.length) = some 5) ∧ 6 ≤ 40 := ⟨inK6 60 rfl rfl, inK1 0 (by decide +kernel) rfl, by decide +kernel, by decide⟩
theorem l_game {g : GG} {h : Hp} {o d mc ms : Nat} {fs : List Value} {p0 p1 p2 : Int32} {Pr2 Pr : Option Value → Hp → Prop} {Pt2 : String → Hp → Prop} (hN : GOC g) (ho : oF h 0 10 = some fs) (hM : CT g d yX11_game (wsC yX11_game cX11_game 7 (some (.int))) [.ref 0, .int p0, .int p1, .int p2] h mc ms Pr2 Pt2)
    (kk : ∀ v h', Pr2 v h' → ∃ a h2, v = some (.int a) ∧ uJ h' o 0 (Int32.toInt64 a) = some h2 ∧ Pr (some (.int 0)) h2) (kx : ∀ E h', Pt2 E h' → (E = "java/util/NoSuchElementException" ∧ Pr (some (.int 1)) h') ∨ (E = "java/lang/IllegalArgumentException" ∧ Pr (some (.int 2)) h')) : CT g (d + 1) yL_game (wsH yL_game cL_game 6 (some .int) [(0, 12, 15, 18), (0, 12, 19, 13)]) [.ref 0, .int p0, .int p1, .int p2, .ref o] h mc ms Pr noT := by
  refine CT_ofH (by decide +kernel) (Nat.le_of_ble_eq_true rfl) rfl fun p e s m args below meth c X => ?_
  refine r_aload X dL_game_0 rfl ?_
  refine r_iconst X dL_game_2 (v := 0) (by decide) ?_
  refine r_aload_n X dL_game_3 rfl ?_
  refine r_iload_n X dL_game_4 rfl ?_
  refine r_iload_n X dL_game_5 rfl ?_
  refine r_iload_n X dL_game_6 rfl ?_
  refine r_callVD X (As := [.int p0, .int p1, .int p2]) dL_game_7 mk_X11_game ⟨ml_L_88, im_X11_game, se_X11_game⟩ (oF_s ho) (ci_X11).1 rfl rfl rfl (by simp [Value.category]) ⟨by show d + 1 ≤ d + 1; omega, by show 60 * (d + 1) + 200 ≤ 60 * (d + 1) + 200; omega⟩ ⟨by show 0 + mc ≤ mc; omega, by show 0 + ms ≤ ms; omega⟩ hM (fun E h' q => ?_) (fun v h' q => ?_)
  · rcases kx E h' q with ⟨rfl, hp⟩ | ⟨rfl, hp⟩
    · refine CaD.mk [] [mkE (0, 12, 19, 13)] (mkE (0, 12, 15, 18)) "java/util/NoSuchElementException" 5 2 rfl (fun z hz => absurd hz List.not_mem_nil) (by decide) (by decide) cl_L_18 (hN s X.gk.z).2.2 (Or.inr ⟨rfl, dL_game_15⟩) (by decide) rfl ?_
      refine r_iconst X dL_game_17 (v := 1) (by decide) ?_
      exact r_iret X dL_game_18 rfl hp (by omega) (by omega)
    · refine CaD.mk [mkE (0, 12, 15, 18)] [] (mkE (0, 12, 19, 13)) "java/lang/IllegalArgumentException" 5 2 rfl (fun z hz => by have e0 : z = mkE (0, 12, 15, 18) := List.mem_singleton.mp hz; rw [e0]; exact Or.inr ⟨by decide, "java/util/NoSuchElementException", cl_L_18, (hN s X.gk.z).1⟩) (by decide) (by decide) cl_L_13 (hN s X.gk.z).2.1 (Or.inr ⟨rfl, dL_game_19⟩) (by decide) rfl ?_
      refine r_iconst X dL_game_21 (v := 2) (by decide) ?_
      exact r_iret X dL_game_22 rfl hp (by omega) (by omega)
  · obtain ⟨a, h2, rfl, eu, hp⟩ := kk v h' q
    obtain ⟨n2, f2, c2, i2, r2⟩ := uJ_s eu
    subst r2
    refine r_i2l X dL_game_10 ?_
    refine r_last X dL_game_11 c2 i2 ?_
    refine r_goto X dL_game_12 (tgt := 23) (by decide) ?_
    refine r_iconst X dL_game_23 (v := 0) (by decide) ?_
    exact r_iret X dL_game_24 rfl hp (by omega) (by omega)
theorem mh_L_years : Cond.codeWith yL_years cL_years 6 (some .int) [(0, 12, 15, 18), (0, 12, 19, 13)] ∈ lwG ∧ Cond.initialized (yL_years).cls ∈ lwG ∧ ((yL_years).cls ≠ "java/lang/invoke/MethodHandle" ∧ (yL_years).cls ≠ "java/lang/invoke/VarHandle" ∧ (parseMethodDescriptor (yL_years).desc).map (fun d => d.parameters.length) = some 5) ∧ 6 ≤ 40 := ⟨inK6 85 rfl rfl, inK1 0 (by decide +kernel) rfl, by decide +kernel, by decide⟩
theorem l_years {g : GG} {h : Hp} {o d mc ms : Nat} {fs : List Value} {p0 p1 p2 : Int32} {Pr2 Pr : Option Value → Hp → Prop} {Pt2 : String → Hp → Prop} (hN : GOC g) (ho : oF h 0 10 = some fs) (hM : CT g d yX11_years (wsC yX11_years cX11_years 5 (some (.int))) [.ref 0, .int p0, .int p1, .int p2] h mc ms Pr2 Pt2)
    (kk : ∀ v h', Pr2 v h' → ∃ a h2, v = some (.int a) ∧ uJ h' o 0 (Int32.toInt64 a) = some h2 ∧ Pr (some (.int 0)) h2) (kx : ∀ E h', Pt2 E h' → (E = "java/util/NoSuchElementException" ∧ Pr (some (.int 1)) h') ∨ (E = "java/lang/IllegalArgumentException" ∧ Pr (some (.int 2)) h')) : CT g (d + 1) yL_years (wsH yL_years cL_years 6 (some .int) [(0, 12, 15, 18), (0, 12, 19, 13)]) [.ref 0, .int p0, .int p1, .int p2, .ref o] h mc ms Pr noT := by
  refine CT_ofH (by decide +kernel) (Nat.le_of_ble_eq_true rfl) rfl fun p e s m args below meth c X => ?_
  refine r_aload X dL_years_0 rfl ?_
  refine r_iconst X dL_years_2 (v := 0) (by decide) ?_
  refine r_aload_n X dL_years_3 rfl ?_
  refine r_iload_n X dL_years_4 rfl ?_
  refine r_iload_n X dL_years_5 rfl ?_
  refine r_iload_n X dL_years_6 rfl ?_
  refine r_callVD X (As := [.int p0, .int p1, .int p2]) dL_years_7 mk_X11_years ⟨ml_L_91, im_X11_years, se_X11_years⟩ (oF_s ho) (ci_X11).1 rfl rfl rfl (by simp [Value.category]) ⟨by show d + 1 ≤ d + 1; omega, by show 60 * (d + 1) + 200 ≤ 60 * (d + 1) + 200; omega⟩ ⟨by show 0 + mc ≤ mc; omega, by show 0 + ms ≤ ms; omega⟩ hM (fun E h' q => ?_) (fun v h' q => ?_)
  · rcases kx E h' q with ⟨rfl, hp⟩ | ⟨rfl, hp⟩
    · refine CaD.mk [] [mkE (0, 12, 19, 13)] (mkE (0, 12, 15, 18)) "java/util/NoSuchElementException" 5 2 rfl (fun z hz => absurd hz List.not_mem_nil) (by decide) (by decide) cl_L_18 (hN s X.gk.z).2.2 (Or.inr ⟨rfl, dL_years_15⟩) (by decide) rfl ?_
      refine r_iconst X dL_years_17 (v := 1) (by decide) ?_
      exact r_iret X dL_years_18 rfl hp (by omega) (by omega)
    · refine CaD.mk [mkE (0, 12, 15, 18)] [] (mkE (0, 12, 19, 13)) "java/lang/IllegalArgumentException" 5 2 rfl (fun z hz => by have e0 : z = mkE (0, 12, 15, 18) := List.mem_singleton.mp hz; rw [e0]; exact Or.inr ⟨by decide, "java/util/NoSuchElementException", cl_L_18, (hN s X.gk.z).1⟩) (by decide) (by decide) cl_L_13 (hN s X.gk.z).2.1 (Or.inr ⟨rfl, dL_years_19⟩) (by decide) rfl ?_
      refine r_iconst X dL_years_21 (v := 2) (by decide) ?_
      exact r_iret X dL_years_22 rfl hp (by omega) (by omega)
  · obtain ⟨a, h2, rfl, eu, hp⟩ := kk v h' q
    obtain ⟨n2, f2, c2, i2, r2⟩ := uJ_s eu
    subst r2
    refine r_i2l X dL_years_10 ?_
    refine r_last X dL_years_11 c2 i2 ?_
    refine r_goto X dL_years_12 (tgt := 23) (by decide) ?_
    refine r_iconst X dL_years_23 (v := 0) (by decide) ?_
    exact r_iret X dL_years_24 rfl hp (by omega) (by omega)
theorem mh_L_nearest : Cond.codeWith yL_nearest cL_nearest 4 (some .int) [(0, 9, 12, 18)] ∈ lwG ∧ Cond.initialized (yL_nearest).cls ∈ lwG ∧ ((yL_nearest).cls ≠ "java/lang/invoke/MethodHandle" ∧ (yL_nearest).cls ≠ "java/lang/invoke/VarHandle" ∧ (parseMethodDescriptor (yL_nearest).desc).map (fun d => d.parameters.length) = some 3) ∧ 4 ≤ 40 := ⟨inK6 102 rfl rfl, inK1 0 (by decide +kernel) rfl, by decide +kernel, by decide⟩
theorem l_nearest {g : GG} {h : Hp} {o d mc ms : Nat} {fs : List Value} {p0 : Int32} {Pr2 Pr : Option Value → Hp → Prop} {Pt2 : String → Hp → Prop} (hN : GOC g) (ho : oF h 0 10 = some fs) (hM : CT g d yX11_nearest (wsC yX11_nearest cX11_nearest 6 (some (.int))) [.ref 0, .int p0] h mc ms Pr2 Pt2)
    (kk : ∀ v h', Pr2 v h' → ∃ a h2, v = some (.int a) ∧ uJ h' o 0 (Int32.toInt64 a) = some h2 ∧ Pr (some (.int 0)) h2) (kx : ∀ E h', Pt2 E h' → (E = "java/util/NoSuchElementException" ∧ Pr (some (.int 1)) h')) : CT g (d + 1) yL_nearest (wsH yL_nearest cL_nearest 4 (some .int) [(0, 9, 12, 18)]) [.ref 0, .int p0, .ref o] h mc ms Pr noT := by
  refine CT_ofH (by decide +kernel) (Nat.le_of_ble_eq_true rfl) rfl fun p e s m args below meth c X => ?_
  refine r_aload_n X dL_nearest_0 rfl ?_
  refine r_iconst X dL_nearest_1 (v := 0) (by decide) ?_
  refine r_aload_n X dL_nearest_2 rfl ?_
  refine r_iload_n X dL_nearest_3 rfl ?_
  refine r_callVD X (As := [.int p0]) dL_nearest_4 mk_X11_nearest ⟨ml_L_94, im_X11_nearest, se_X11_nearest⟩ (oF_s ho) (ci_X11).1 rfl rfl rfl (by simp [Value.category]) ⟨by show d + 1 ≤ d + 1; omega, by show 60 * (d + 1) + 200 ≤ 60 * (d + 1) + 200; omega⟩ ⟨by show 0 + mc ≤ mc; omega, by show 0 + ms ≤ ms; omega⟩ hM (fun E h' q => ?_) (fun v h' q => ?_)
  · obtain ⟨rfl, hp⟩ := kx E h' q
    refine CaD.mk [] [] (mkE (0, 9, 12, 18)) "java/util/NoSuchElementException" 3 1 rfl (fun z hz => absurd hz List.not_mem_nil) (by decide) (by decide) cl_L_18 (hN s X.gk.z).2.2 (Or.inl ⟨3, rfl, rfl, dL_nearest_12⟩) (by decide) rfl ?_
    refine r_iconst X dL_nearest_13 (v := 1) (by decide) ?_
    exact r_iret X dL_nearest_14 rfl hp (by omega) (by omega)
  · obtain ⟨a, h2, rfl, eu, hp⟩ := kk v h' q
    obtain ⟨n2, f2, c2, i2, r2⟩ := uJ_s eu
    subst r2
    refine r_i2l X dL_nearest_7 ?_
    refine r_last X dL_nearest_8 c2 i2 ?_
    refine r_goto X dL_nearest_9 (tgt := 15) (by decide) ?_
    refine r_iconst X dL_nearest_15 (v := 0) (by decide) ?_
    exact r_iret X dL_nearest_16 rfl hp (by omega) (by omega)
theorem mh_L_far : Cond.codeWith yL_far cL_far 5 (some .int) [(0, 10, 13, 18)] ∈ lwG ∧ Cond.initialized (yL_far).cls ∈ lwG ∧ ((yL_far).cls ≠ "java/lang/invoke/MethodHandle" ∧ (yL_far).cls ≠ "java/lang/invoke/VarHandle" ∧ (parseMethodDescriptor (yL_far).desc).map (fun d => d.parameters.length) = some 4) ∧ 5 ≤ 40 := ⟨inK6 110 rfl rfl, inK1 0 (by decide +kernel) rfl, by decide +kernel, by decide⟩
theorem l_far {g : GG} {h : Hp} {o d mc ms : Nat} {fs : List Value} {p0 p1 : Int32} {Pr2 Pr : Option Value → Hp → Prop} {Pt2 : String → Hp → Prop} (hN : GOC g) (ho : oF h 0 10 = some fs) (hM : CT g d yX11_far (wsC yX11_far cX11_far 3 (some (.int))) [.ref 0, .int p0, .int p1] h mc ms Pr2 Pt2)
    (kk : ∀ v h', Pr2 v h' → ∃ a h2, v = some (.int a) ∧ uJ h' o 0 (Int32.toInt64 a) = some h2 ∧ Pr (some (.int 0)) h2) (kx : ∀ E h', Pt2 E h' → (E = "java/util/NoSuchElementException" ∧ Pr (some (.int 1)) h')) : CT g (d + 1) yL_far (wsH yL_far cL_far 5 (some .int) [(0, 10, 13, 18)]) [.ref 0, .int p0, .int p1, .ref o] h mc ms Pr noT := by
  refine CT_ofH (by decide +kernel) (Nat.le_of_ble_eq_true rfl) rfl fun p e s m args below meth c X => ?_
  refine r_aload_n X dL_far_0 rfl ?_
  refine r_iconst X dL_far_1 (v := 0) (by decide) ?_
  refine r_aload_n X dL_far_2 rfl ?_
  refine r_iload_n X dL_far_3 rfl ?_
  refine r_iload_n X dL_far_4 rfl ?_
  refine r_callVD X (As := [.int p0, .int p1]) dL_far_5 mk_X11_far ⟨ml_L_97, im_X11_far, se_X11_far⟩ (oF_s ho) (ci_X11).1 rfl rfl rfl (by simp [Value.category]) ⟨by show d + 1 ≤ d + 1; omega, by show 60 * (d + 1) + 200 ≤ 60 * (d + 1) + 200; omega⟩ ⟨by show 0 + mc ≤ mc; omega, by show 0 + ms ≤ ms; omega⟩ hM (fun E h' q => ?_) (fun v h' q => ?_)
  · obtain ⟨rfl, hp⟩ := kx E h' q
    refine CaD.mk [] [] (mkE (0, 10, 13, 18)) "java/util/NoSuchElementException" 4 2 rfl (fun z hz => absurd hz List.not_mem_nil) (by decide) (by decide) cl_L_18 (hN s X.gk.z).2.2 (Or.inr ⟨rfl, dL_far_13⟩) (by decide) rfl ?_
    refine r_iconst X dL_far_15 (v := 1) (by decide) ?_
    exact r_iret X dL_far_16 rfl hp (by omega) (by omega)
  · obtain ⟨a, h2, rfl, eu, hp⟩ := kk v h' q
    obtain ⟨n2, f2, c2, i2, r2⟩ := uJ_s eu
    subst r2
    refine r_i2l X dL_far_8 ?_
    refine r_last X dL_far_9 c2 i2 ?_
    refine r_goto X dL_far_10 (tgt := 17) (by decide) ?_
    refine r_iconst X dL_far_17 (v := 0) (by decide) ?_
    exact r_iret X dL_far_18 rfl hp (by omega) (by omega)
theorem mh_L_worst : Cond.codeWith yL_worst cL_worst 4 (some .int) [(0, 9, 12, 13)] ∈ lwG ∧ Cond.initialized (yL_worst).cls ∈ lwG ∧ ((yL_worst).cls ≠ "java/lang/invoke/MethodHandle" ∧ (yL_worst).cls ≠ "java/lang/invoke/VarHandle" ∧ (parseMethodDescriptor (yL_worst).desc).map (fun d => d.parameters.length) = some 3) ∧ 4 ≤ 40 := ⟨inK6 117 rfl rfl, inK1 0 (by decide +kernel) rfl, by decide +kernel, by decide⟩
theorem l_worst {g : GG} {h : Hp} {o d mc ms : Nat} {fs : List Value} {p0 : Int32} {Pr2 Pr : Option Value → Hp → Prop} {Pt2 : String → Hp → Prop} (hN : GOC g) (ho : oF h 0 10 = some fs) (hM : CT g d yX11_worst (wsC yX11_worst cX11_worst 6 (some (.int))) [.ref 0, .int p0] h mc ms Pr2 Pt2)
    (kk : ∀ v h', Pr2 v h' → ∃ a h2, v = some (.int a) ∧ uJ h' o 0 (Int32.toInt64 a) = some h2 ∧ Pr (some (.int 0)) h2) (kx : ∀ E h', Pt2 E h' → (E = "java/lang/IllegalArgumentException" ∧ Pr (some (.int 1)) h')) : CT g (d + 1) yL_worst (wsH yL_worst cL_worst 4 (some .int) [(0, 9, 12, 13)]) [.ref 0, .int p0, .ref o] h mc ms Pr noT := by
  refine CT_ofH (by decide +kernel) (Nat.le_of_ble_eq_true rfl) rfl fun p e s m args below meth c X => ?_
  refine r_aload_n X dL_worst_0 rfl ?_
  refine r_iconst X dL_worst_1 (v := 0) (by decide) ?_
  refine r_aload_n X dL_worst_2 rfl ?_
  refine r_iload_n X dL_worst_3 rfl ?_
  refine r_callVD X (As := [.int p0]) dL_worst_4 mk_X11_worst ⟨ml_L_100, im_X11_worst, se_X11_worst⟩ (oF_s ho) (ci_X11).1 rfl rfl rfl (by simp [Value.category]) ⟨by show d + 1 ≤ d + 1; omega, by show 60 * (d + 1) + 200 ≤ 60 * (d + 1) + 200; omega⟩ ⟨by show 0 + mc ≤ mc; omega, by show 0 + ms ≤ ms; omega⟩ hM (fun E h' q => ?_) (fun v h' q => ?_)
  · obtain ⟨rfl, hp⟩ := kx E h' q
    refine CaD.mk [] [] (mkE (0, 9, 12, 13)) "java/lang/IllegalArgumentException" 3 1 rfl (fun z hz => absurd hz List.not_mem_nil) (by decide) (by decide) cl_L_13 (hN s X.gk.z).2.1 (Or.inl ⟨3, rfl, rfl, dL_worst_12⟩) (by decide) rfl ?_
    refine r_iconst X dL_worst_13 (v := 1) (by decide) ?_
    exact r_iret X dL_worst_14 rfl hp (by omega) (by omega)
  · obtain ⟨a, h2, rfl, eu, hp⟩ := kk v h' q
    obtain ⟨n2, f2, c2, i2, r2⟩ := uJ_s eu
    subst r2
    refine r_i2l X dL_worst_7 ?_
    refine r_last X dL_worst_8 c2 i2 ?_
    refine r_goto X dL_worst_9 (tgt := 15) (by decide) ?_
    refine r_iconst X dL_worst_15 (v := 0) (by decide) ?_
    exact r_iret X dL_worst_16 rfl hp (by omega) (by omega)
theorem mh_L_meet : Cond.codeWith yL_meet cL_meet 5 (some .int) [(0, 10, 13, 18)] ∈ lwG ∧ Cond.initialized (yL_meet).cls ∈ lwG ∧ ((yL_meet).cls ≠ "java/lang/invoke/MethodHandle" ∧ (yL_meet).cls ≠ "java/lang/invoke/VarHandle" ∧ (parseMethodDescriptor (yL_meet).desc).map (fun d => d.parameters.length) = some 4) ∧ 5 ≤ 40 := ⟨inK6 125 rfl rfl, inK1 0 (by decide +kernel) rfl, by decide +kernel, by decide⟩
theorem l_meet {g : GG} {h : Hp} {o d mc ms : Nat} {fs : List Value} {p0 p1 : Int32} {Pr2 Pr : Option Value → Hp → Prop} {Pt2 : String → Hp → Prop} (hN : GOC g) (ho : oF h 0 10 = some fs) (hM : CT g d yX11_meet (wsC yX11_meet cX11_meet 3 (some (.int))) [.ref 0, .int p0, .int p1] h mc ms Pr2 Pt2)
    (kk : ∀ v h', Pr2 v h' → ∃ a h2, v = some (.int a) ∧ uJ h' o 0 (Int32.toInt64 a) = some h2 ∧ Pr (some (.int 0)) h2) (kx : ∀ E h', Pt2 E h' → (E = "java/util/NoSuchElementException" ∧ Pr (some (.int 1)) h')) : CT g (d + 1) yL_meet (wsH yL_meet cL_meet 5 (some .int) [(0, 10, 13, 18)]) [.ref 0, .int p0, .int p1, .ref o] h mc ms Pr noT := by
  refine CT_ofH (by decide +kernel) (Nat.le_of_ble_eq_true rfl) rfl fun p e s m args below meth c X => ?_
  refine r_aload_n X dL_meet_0 rfl ?_
  refine r_iconst X dL_meet_1 (v := 0) (by decide) ?_
  refine r_aload_n X dL_meet_2 rfl ?_
  refine r_iload_n X dL_meet_3 rfl ?_
  refine r_iload_n X dL_meet_4 rfl ?_
  refine r_callVD X (As := [.int p0, .int p1]) dL_meet_5 mk_X11_meet ⟨ml_L_103, im_X11_meet, se_X11_meet⟩ (oF_s ho) (ci_X11).1 rfl rfl rfl (by simp [Value.category]) ⟨by show d + 1 ≤ d + 1; omega, by show 60 * (d + 1) + 200 ≤ 60 * (d + 1) + 200; omega⟩ ⟨by show 0 + mc ≤ mc; omega, by show 0 + ms ≤ ms; omega⟩ hM (fun E h' q => ?_) (fun v h' q => ?_)
  · obtain ⟨rfl, hp⟩ := kx E h' q
    refine CaD.mk [] [] (mkE (0, 10, 13, 18)) "java/util/NoSuchElementException" 4 2 rfl (fun z hz => absurd hz List.not_mem_nil) (by decide) (by decide) cl_L_18 (hN s X.gk.z).2.2 (Or.inr ⟨rfl, dL_meet_13⟩) (by decide) rfl ?_
    refine r_iconst X dL_meet_15 (v := 1) (by decide) ?_
    exact r_iret X dL_meet_16 rfl hp (by omega) (by omega)
  · obtain ⟨a, h2, rfl, eu, hp⟩ := kk v h' q
    obtain ⟨n2, f2, c2, i2, r2⟩ := uJ_s eu
    subst r2
    refine r_i2l X dL_meet_8 ?_
    refine r_last X dL_meet_9 c2 i2 ?_
    refine r_goto X dL_meet_10 (tgt := 17) (by decide) ?_
    refine r_iconst X dL_meet_17 (v := 0) (by decide) ?_
    exact r_iret X dL_meet_18 rfl hp (by omega) (by omega)
theorem mh_L_bare : Cond.codeWith yL_bare cL_bare 4 (some .int) [(0, 9, 12, 13)] ∈ lwG ∧ Cond.initialized (yL_bare).cls ∈ lwG ∧ ((yL_bare).cls ≠ "java/lang/invoke/MethodHandle" ∧ (yL_bare).cls ≠ "java/lang/invoke/VarHandle" ∧ (parseMethodDescriptor (yL_bare).desc).map (fun d => d.parameters.length) = some 3) ∧ 4 ≤ 40 := ⟨inK6 132 rfl rfl, inK1 0 (by decide +kernel) rfl, by decide +kernel, by decide⟩
theorem l_bare {g : GG} {h : Hp} {o d mc ms : Nat} {fs : List Value} {p0 : Int32} {Pr2 Pr : Option Value → Hp → Prop} {Pt2 : String → Hp → Prop} (hN : GOC g) (ho : oF h 0 10 = some fs) (hM : CT g d yX11_bare (wsC yX11_bare cX11_bare 2 (some (.int))) [.ref 0, .int p0] h mc ms Pr2 Pt2)
    (kk : ∀ v h', Pr2 v h' → ∃ a h2, v = some (.int a) ∧ uJ h' o 0 (Int32.toInt64 a) = some h2 ∧ Pr (some (.int 0)) h2) (kx : ∀ E h', Pt2 E h' → (E = "java/lang/IllegalArgumentException" ∧ Pr (some (.int 1)) h')) : CT g (d + 1) yL_bare (wsH yL_bare cL_bare 4 (some .int) [(0, 9, 12, 13)]) [.ref 0, .int p0, .ref o] h mc ms Pr noT := by
  refine CT_ofH (by decide +kernel) (Nat.le_of_ble_eq_true rfl) rfl fun p e s m args below meth c X => ?_
  refine r_aload_n X dL_bare_0 rfl ?_
  refine r_iconst X dL_bare_1 (v := 0) (by decide) ?_
  refine r_aload_n X dL_bare_2 rfl ?_
  refine r_iload_n X dL_bare_3 rfl ?_
  refine r_callVD X (As := [.int p0]) dL_bare_4 mk_X11_bare ⟨ml_L_106, im_X11_bare, se_X11_bare⟩ (oF_s ho) (ci_X11).1 rfl rfl rfl (by simp [Value.category]) ⟨by show d + 1 ≤ d + 1; omega, by show 60 * (d + 1) + 200 ≤ 60 * (d + 1) + 200; omega⟩ ⟨by show 0 + mc ≤ mc; omega, by show 0 + ms ≤ ms; omega⟩ hM (fun E h' q => ?_) (fun v h' q => ?_)
  · obtain ⟨rfl, hp⟩ := kx E h' q
    refine CaD.mk [] [] (mkE (0, 9, 12, 13)) "java/lang/IllegalArgumentException" 3 1 rfl (fun z hz => absurd hz List.not_mem_nil) (by decide) (by decide) cl_L_13 (hN s X.gk.z).2.1 (Or.inl ⟨3, rfl, rfl, dL_bare_12⟩) (by decide) rfl ?_
    refine r_iconst X dL_bare_13 (v := 1) (by decide) ?_
    exact r_iret X dL_bare_14 rfl hp (by omega) (by omega)
  · obtain ⟨a, h2, rfl, eu, hp⟩ := kk v h' q
    obtain ⟨n2, f2, c2, i2, r2⟩ := uJ_s eu
    subst r2
    refine r_i2l X dL_bare_7 ?_
    refine r_last X dL_bare_8 c2 i2 ?_
    refine r_goto X dL_bare_9 (tgt := 15) (by decide) ?_
    refine r_iconst X dL_bare_15 (v := 0) (by decide) ?_
    exact r_iret X dL_bare_16 rfl hp (by omega) (by omega)
theorem mh_L_load : Cond.codeWith yL_load cL_load 4 (some .int) [(0, 9, 12, 13)] ∈ lwG ∧ Cond.initialized (yL_load).cls ∈ lwG ∧ ((yL_load).cls ≠ "java/lang/invoke/MethodHandle" ∧ (yL_load).cls ≠ "java/lang/invoke/VarHandle" ∧ (parseMethodDescriptor (yL_load).desc).map (fun d => d.parameters.length) = some 3) ∧ 4 ≤ 40 := ⟨inK6 140 rfl rfl, inK1 0 (by decide +kernel) rfl, by decide +kernel, by decide⟩
theorem l_load {g : GG} {h : Hp} {o d mc ms : Nat} {fs : List Value} {p0 : Int32} {Pr2 Pr : Option Value → Hp → Prop} {Pt2 : String → Hp → Prop} (hN : GOC g) (ho : oF h 0 10 = some fs) (hM : CT g d yX11_load (wsC yX11_load cX11_load 2 (some (.int))) [.ref 0, .int p0] h mc ms Pr2 Pt2)
    (kk : ∀ v h', Pr2 v h' → ∃ a h2, v = some (.int a) ∧ uJ h' o 0 (Int32.toInt64 a) = some h2 ∧ Pr (some (.int 0)) h2) (kx : ∀ E h', Pt2 E h' → (E = "java/lang/IllegalArgumentException" ∧ Pr (some (.int 1)) h')) : CT g (d + 1) yL_load (wsH yL_load cL_load 4 (some .int) [(0, 9, 12, 13)]) [.ref 0, .int p0, .ref o] h mc ms Pr noT := by
  refine CT_ofH (by decide +kernel) (Nat.le_of_ble_eq_true rfl) rfl fun p e s m args below meth c X => ?_
  refine r_aload_n X dL_load_0 rfl ?_
  refine r_iconst X dL_load_1 (v := 0) (by decide) ?_
  refine r_aload_n X dL_load_2 rfl ?_
  refine r_iload_n X dL_load_3 rfl ?_
  refine r_callVD X (As := [.int p0]) dL_load_4 mk_X11_load ⟨ml_L_109, im_X11_load, se_X11_load⟩ (oF_s ho) (ci_X11).1 rfl rfl rfl (by simp [Value.category]) ⟨by show d + 1 ≤ d + 1; omega, by show 60 * (d + 1) + 200 ≤ 60 * (d + 1) + 200; omega⟩ ⟨by show 0 + mc ≤ mc; omega, by show 0 + ms ≤ ms; omega⟩ hM (fun E h' q => ?_) (fun v h' q => ?_)
  · obtain ⟨rfl, hp⟩ := kx E h' q
    refine CaD.mk [] [] (mkE (0, 9, 12, 13)) "java/lang/IllegalArgumentException" 3 1 rfl (fun z hz => absurd hz List.not_mem_nil) (by decide) (by decide) cl_L_13 (hN s X.gk.z).2.1 (Or.inl ⟨3, rfl, rfl, dL_load_12⟩) (by decide) rfl ?_
    refine r_iconst X dL_load_13 (v := 1) (by decide) ?_
    exact r_iret X dL_load_14 rfl hp (by omega) (by omega)
  · obtain ⟨a, h2, rfl, eu, hp⟩ := kk v h' q
    obtain ⟨n2, f2, c2, i2, r2⟩ := uJ_s eu
    subst r2
    refine r_i2l X dL_load_7 ?_
    refine r_last X dL_load_8 c2 i2 ?_
    refine r_goto X dL_load_9 (tgt := 15) (by decide) ?_
    refine r_iconst X dL_load_15 (v := 0) (by decide) ?_
    exact r_iret X dL_load_16 rfl hp (by omega) (by omega)
