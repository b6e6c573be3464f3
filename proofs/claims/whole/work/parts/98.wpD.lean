/-! BLOCKS of the words' methods (by program) -/
set_option maxRecDepth 10000 in
theorem b_X10_isSpelled_0 {g : GG} {K : KX} {D mc ms : Nat} {Pr : Option Value → Hp → Prop} {Pt : String → Hp → Prop} {kc ks : Nat} (hg : GOK g) (hO : GOW g) (hD : 8 ≤ D) (hk : kc ≤ mc ∧ ks ≤ ms) (X : CB g K cX10_isSpelled 5 yX10_isSpelled (some (.boolean)) []) (l0 : Nat) (l1 : Nat) (l2 : Int32) (l3 : Int32) (h : Hp)
    (w : (l0 < 16 ∧ ((16 ≤ (16 + l0) ∧ (16 + l0) < 32) ∧ (∃ d1 P1 E1 m1 n1, CT g d1 yJ0_length_8abf5 (wsC yJ0_length_8abf5 cJ0_length_8abf5 1 (some (.int))) [.retAddr ((16 + l0))] h m1 n1 P1 E1 ∧ (d1 + 1 ≤ D ∧ kc + m1 ≤ mc ∧ ks + n1 ≤ ms) ∧ (∀ E h', E1 E h' → Pt E h') ∧ (∀ v h1, P1 v h1 → ∃ v4, v = some (.int v4) ∧ ((¬ (l3 - l2) = v4 → (isB ((0 : Int32)) ∧ Pr (some (.int ((0 : Int32)))) h1)) ∧ ((l3 - l2) = v4 → ((l2 < 0 → (isB ((0 : Int32)) ∧ Pr (some (.int ((0 : Int32)))) h1)) ∧ (¬ l2 < 0 → (∃ v5, lenA h1 l1 = some v5 ∧ ((l3 ≤ v5 → VB g K 5 D mc ms Pr Pt ((kc + m1)) ((ks + n1)) 28 [some (.retAddr l0), some (.ref l1), some (.int l2), some (.int l3), some (.int l2)] [] h1) ∧ (¬ l3 ≤ v5 → (isB ((0 : Int32)) ∧ Pr (some (.int ((0 : Int32)))) h1))))))))))))) : VB g K 5 D mc ms Pr Pt kc ks 0 [some (.retAddr l0), some (.ref l1), some (.int l2), some (.int l3), none] [] h := by
  obtain ⟨p, e, s, m, args, below, meth, c⟩ := K
  have X : CX g p s m args meth c cX10_isSpelled 5 yX10_isSpelled (some (.boolean)) [] := X
  have hz := hg s X.gk.z
  show VV g p e (rmm D mc ms) s m args below meth c 5 (QQ g below args s mc ms Pr Pt) kc ks 0 [some (.retAddr l0), some (.ref l1), some (.int l2), some (.int l3), none] [] h
  have hy := hO s X.gk.z
  refine r_iload_n X dX10_isSpelled_0 rfl ?_
  refine r_iload_n X dX10_isSpelled_1 rfl ?_
  refine r_isub X dX10_isSpelled_2 ?_
  refine r_aload_nR X dX10_isSpelled_3 rfl ?_
  obtain ⟨z1, w⟩ := w
  refine r_getfO X (v := .retAddr (16 + l0)) dX10_isSpelled_4 (hy.2.1 _ z1).2.1 hy.1 fo_X10_73 ?_
  obtain ⟨z3, w⟩ := w
  obtain ⟨d1, P1, E1, m1, n1, ct1, w⟩ := w
  obtain ⟨⟨x1, x2, x3⟩, w⟩ := w
  obtain ⟨x4, w⟩ := w
  refine r_callVR X (As := []) dX10_isSpelled_7 mk_J0_length_8abf5 ⟨ml_X10_88, im_J0_length_8abf5, se_J0_length_8abf5⟩ (hy.s z3) hy.1 rfl rfl (by simp [Value.category]) ⟨x1, by show 60 * (d1 + 1) + 200 ≤ 60 * D + 200; omega⟩ ⟨x2, x3⟩ ct1 x4 (fun _ z => nomatch z) (fun _ => ⟨x2, x3⟩) (fun v h1 w1 => ?_)
  have w := w v h1 w1
  have hk : kc + m1 ≤ mc ∧ ks + n1 ≤ ms := ⟨x2, x3⟩
  obtain ⟨v4, rfl, w⟩ := w
  refine r_icmp_ne X dX10_isSpelled_10 (tgt := 23) (by decide) (fun q => ?_) (fun q => ?_)
  · have w := w.1 q
    refine r_iconst X dX10_isSpelled_23 (v := 0) (by decide) ?_
    exact r_zret X dX10_isSpelled_24 rfl (isB_n w.1) w.2 hk.1 hk.2
  · have w := w.2 q
    refine r_iload_n X dX10_isSpelled_13 rfl ?_
    refine r_if_lt X dX10_isSpelled_14 (tgt := 23) (by decide) (fun q => ?_) (fun q => ?_)
    · have w := w.1 q
      refine r_iconst X dX10_isSpelled_23 (v := 0) (by decide) ?_
      exact r_zret X dX10_isSpelled_24 rfl (isB_n w.1) w.2 hk.1 hk.2
    · have w := w.2 q
      refine r_iload_n X dX10_isSpelled_17 rfl ?_
      refine r_aload_n X dX10_isSpelled_18 rfl ?_
      obtain ⟨v5, ev5, w⟩ := w
      obtain ⟨tv5, nv5, fv5, cv5, iv5, qv5⟩ := lenA_s ev5
      refine r_alen X dX10_isSpelled_19 cv5 iv5 ?_
      rw [qv5]
      refine r_icmp_le X dX10_isSpelled_20 (tgt := 25) (by decide) (fun q => ?_) (fun q => ?_)
      · have w := w.1 q
        refine r_iload_n X dX10_isSpelled_25 rfl ?_
        refine r_istore X dX10_isSpelled_26 (by decide) rfl ?_
        refine VB_wk (ls' := [some (.retAddr l0), some (.ref l1), some (.int l2), some (.int l3), some (.int l2)]) ?_ w
        exact (And.intro rfl (And.intro rfl (And.intro rfl (And.intro rfl (And.intro rfl trivial)))))
      · have w := w.2 q
        refine r_iconst X dX10_isSpelled_23 (v := 0) (by decide) ?_
        exact r_zret X dX10_isSpelled_24 rfl (isB_n w.1) w.2 hk.1 hk.2

set_option maxRecDepth 10000 in
theorem b_X10_isSpelled_28 {g : GG} {K : KX} {D mc ms : Nat} {Pr : Option Value → Hp → Prop} {Pt : String → Hp → Prop} {kc ks : Nat} (hg : GOK g) (hO : GOW g) (hD : 8 ≤ D) (hk : kc ≤ mc ∧ ks ≤ ms) (X : CB g K cX10_isSpelled 5 yX10_isSpelled (some (.boolean)) []) (l0 : Nat) (l1 : Nat) (l2 : Int32) (l3 : Int32) (l4 : Int32) (h : Hp)
    (w : ((l3 ≤ l4 → (isB ((1 : Int32)) ∧ Pr (some (.int ((1 : Int32)))) h)) ∧ (¬ l3 ≤ l4 → (∃ v1, aI h 1 l1 l4 = some v1 ∧ (l0 < 16 ∧ ((16 ≤ (16 + l0) ∧ (16 + l0) < 32) ∧ (∃ d2 P2 E2 m2 n2, CT g d2 yJ0_charAt_5068e (wsC yJ0_charAt_5068e cJ0_charAt_5068e 2 (some (.char))) [.retAddr ((16 + l0)), .int ((l4 - l2))] h m2 n2 P2 E2 ∧ (d2 + 1 ≤ D ∧ kc + m2 ≤ mc ∧ ks + n2 ≤ ms) ∧ (∀ E h', E2 E h' → Pt E h') ∧ (∀ v h2, P2 v h2 → ∃ v5, v = some (.int v5) ∧ ((v1 = v5 → VB g K 5 D mc ms Pr Pt ((kc + m2)) ((ks + n2)) 28 [some (.retAddr l0), some (.ref l1), some (.int l2), some (.int l3), some (.int ((l4 + 1)))] [] h2) ∧ (¬ v1 = v5 → (isB ((0 : Int32)) ∧ Pr (some (.int ((0 : Int32)))) h2))))))))))) : VB g K 5 D mc ms Pr Pt kc ks 28 [some (.retAddr l0), some (.ref l1), some (.int l2), some (.int l3), some (.int l4)] [] h := by
  obtain ⟨p, e, s, m, args, below, meth, c⟩ := K
  have X : CX g p s m args meth c cX10_isSpelled 5 yX10_isSpelled (some (.boolean)) [] := X
  have hz := hg s X.gk.z
  show VV g p e (rmm D mc ms) s m args below meth c 5 (QQ g below args s mc ms Pr Pt) kc ks 28 [some (.retAddr l0), some (.ref l1), some (.int l2), some (.int l3), some (.int l4)] [] h
  have hy := hO s X.gk.z
  refine r_iload X dX10_isSpelled_28 rfl ?_
  refine r_iload_n X dX10_isSpelled_30 rfl ?_
  refine r_icmp_ge X dX10_isSpelled_31 (tgt := 60) (by decide) (fun q => ?_) (fun q => ?_)
  · have w := w.1 q
    refine r_iconst X dX10_isSpelled_60 (v := 1) (by decide) ?_
    exact r_zret X dX10_isSpelled_61 rfl (isB_n w.1) w.2 hk.1 hk.2
  · have w := w.2 q
    refine r_aload_n X dX10_isSpelled_34 rfl ?_
    refine r_iload X dX10_isSpelled_35 rfl ?_
    obtain ⟨v1, ev1, w⟩ := w
    obtain ⟨nv1, fv1, cv1, iv1, qv1⟩ := aI_s ev1
    refine r_bald X dX10_isSpelled_37 cv1 iv1 ?_
    rw [qv1]
    refine r_aload_nR X dX10_isSpelled_38 rfl ?_
    obtain ⟨z2, w⟩ := w
    refine r_getfO X (v := .retAddr (16 + l0)) dX10_isSpelled_39 (hy.2.1 _ z2).2.1 hy.1 fo_X10_73 ?_
    refine r_iload X dX10_isSpelled_42 rfl ?_
    refine r_iload_n X dX10_isSpelled_44 rfl ?_
    refine r_isub X dX10_isSpelled_45 ?_
    obtain ⟨z4, w⟩ := w
    obtain ⟨d2, P2, E2, m2, n2, ct2, w⟩ := w
    obtain ⟨⟨x1, x2, x3⟩, w⟩ := w
    obtain ⟨x4, w⟩ := w
    refine r_callVR X (As := [.int ((l4 - l2))]) dX10_isSpelled_46 mk_J0_charAt_5068e ⟨ml_X10_94, im_J0_charAt_5068e, se_J0_charAt_5068e⟩ (hy.s z4) hy.1 rfl rfl (by simp [Value.category]) ⟨x1, by show 60 * (d2 + 1) + 200 ≤ 60 * D + 200; omega⟩ ⟨x2, x3⟩ ct2 x4 (fun _ z => nomatch z) (fun _ => ⟨x2, x3⟩) (fun v h2 w1 => ?_)
    have w := w v h2 w1
    have hk : kc + m2 ≤ mc ∧ ks + n2 ≤ ms := ⟨x2, x3⟩
    obtain ⟨v5, rfl, w⟩ := w
    refine r_icmp_eq X dX10_isSpelled_49 (tgt := 54) (by decide) (fun q => ?_) (fun q => ?_)
    · have w := w.1 q
      refine r_iinc X dX10_isSpelled_54 rfl (v := (l4 + 1)) rfl (by decide) rfl ?_
      refine r_goto X dX10_isSpelled_57 (tgt := 28) (by decide) ?_
      refine VB_wk (ls' := [some (.retAddr l0), some (.ref l1), some (.int l2), some (.int l3), some (.int ((l4 + 1)))]) ?_ w
      exact (And.intro rfl (And.intro rfl (And.intro rfl (And.intro rfl (And.intro rfl trivial)))))
    · have w := w.2 q
      refine r_iconst X dX10_isSpelled_52 (v := 0) (by decide) ?_
      exact r_zret X dX10_isSpelled_53 rfl (isB_n w.1) w.2 hk.1 hk.2

set_option maxRecDepth 10000 in
theorem b_X10_of_0 {g : GG} {K : KX} {D mc ms : Nat} {Pr : Option Value → Hp → Prop} {Pt : String → Hp → Prop} {kc ks : Nat} (hg : GOK g) (hO : GOW g) (hD : 8 ≤ D) (hk : kc ≤ mc ∧ ks ≤ ms) (X : CB g K cX10_of 4 yX10_of (some (.object "HorizonSeam$Word")) []) (l0 : Nat) (l1 : Int32) (l2 : Int32) (h : Hp)
    (w : VB g K 4 D mc ms Pr Pt kc ks 2 [some (.ref l0), some (.int l1), some (.int l2), some (.int ((0 : Int32)))] [] h) : VB g K 4 D mc ms Pr Pt kc ks 0 [some (.ref l0), some (.int l1), some (.int l2), none] [] h := by
  obtain ⟨p, e, s, m, args, below, meth, c⟩ := K
  have X : CX g p s m args meth c cX10_of 4 yX10_of (some (.object "HorizonSeam$Word")) [] := X
  have hz := hg s X.gk.z
  show VV g p e (rmm D mc ms) s m args below meth c 4 (QQ g below args s mc ms Pr Pt) kc ks 0 [some (.ref l0), some (.int l1), some (.int l2), none] [] h
  have hy := hO s X.gk.z
  refine r_iconst X dX10_of_0 (v := 0) (by decide) ?_
  refine r_istore_n X dX10_of_1 (by decide) rfl ?_
  refine VB_wk (ls' := [some (.ref l0), some (.int l1), some (.int l2), some (.int ((0 : Int32)))]) ?_ w
  exact (And.intro rfl (And.intro rfl (And.intro rfl (And.intro rfl trivial))))

set_option maxRecDepth 10000 in
theorem b_X10_of_2 {g : GG} {K : KX} {D mc ms : Nat} {Pr : Option Value → Hp → Prop} {Pt : String → Hp → Prop} {kc ks : Nat} (hg : GOK g) (hO : GOW g) (hD : 8 ≤ D) (hk : kc ≤ mc ∧ ks ≤ ms) (X : CB g K cX10_of 4 yX10_of (some (.object "HorizonSeam$Word")) []) (l0 : Nat) (l1 : Int32) (l2 : Int32) (l3 : Int32) (h : Hp)
    (w : (((16 : Int32) ≤ l3 → Pr (some (.retAddr 15)) h) ∧ (¬ (16 : Int32) ≤ l3 → (∃ v1, l3 = nI v1 ∧ v1 < 16 ∧ (v1 < 16 ∧ (∃ d1 P1 E1 m1 n1, CT g d1 yX10_isSpelled (wsC yX10_isSpelled cX10_isSpelled 5 (some (.boolean))) [.retAddr v1, .ref l0, .int l1, .int l2] h m1 n1 P1 E1 ∧ (d1 + 1 ≤ D ∧ kc + m1 ≤ mc ∧ ks + n1 ≤ ms) ∧ (∀ E h', E1 E h' → Pt E h') ∧ (∀ v h1, P1 v h1 → ∃ v4, v = some (.int v4) ∧ ((v4 = 0 → VB g K 4 D mc ms Pr Pt ((kc + m1)) ((ks + n1)) 2 [some (.ref l0), some (.int l1), some (.int l2), some (.int ((l3 + 1)))] [] h1) ∧ (¬ v4 = 0 → (∃ v5, l3 = nI v5 ∧ v5 < 16 ∧ Pr (some (.retAddr v5)) h1)))))))))) : VB g K 4 D mc ms Pr Pt kc ks 2 [some (.ref l0), some (.int l1), some (.int l2), some (.int l3)] [] h := by
  obtain ⟨p, e, s, m, args, below, meth, c⟩ := K
  have X : CX g p s m args meth c cX10_of 4 yX10_of (some (.object "HorizonSeam$Word")) [] := X
  have hz := hg s X.gk.z
  show VV g p e (rmm D mc ms) s m args below meth c 4 (QQ g below args s mc ms Pr Pt) kc ks 2 [some (.ref l0), some (.int l1), some (.int l2), some (.int l3)] [] h
  have hy := hO s X.gk.z
  refine r_iload_n X dX10_of_2 rfl ?_
  refine r_getsO X (v := .retAddr 48) dX10_of_3 hy.2.2.2.1 hy.1 fo_X10_81 ?_
  refine r_tlenO X dX10_of_6 hy.2.2.2.2.1 hy.1 (v := 16) (by decide) ?_
  refine r_icmp_ge X dX10_of_7 (tgt := 36) (by decide) (fun q => ?_) (fun q => ?_)
  · have w := w.1 q
    refine r_word X dX10_of_36 hz.2.2.2 (k := 15) (by decide) wl_X10_51 ?_
    exact r_aretR X dX10_of_39 rfl (Or.inl ⟨_, rfl⟩) w hk.1 hk.2
  · have w := w.2 q
    refine r_getsO X (v := .retAddr 48) dX10_of_10 hy.2.2.2.1 hy.1 fo_X10_81 ?_
    refine r_iload_n X dX10_of_13 rfl ?_
    obtain ⟨v1, ev1, iv1, w⟩ := w
    refine r_tqO X dX10_of_14 hy.2.2.2.2.1 hy.1 ev1 iv1 (by decide) ?_
    refine r_aload_n X dX10_of_15 rfl ?_
    refine r_iload_n X dX10_of_16 rfl ?_
    refine r_iload_n X dX10_of_17 rfl ?_
    obtain ⟨z3, w⟩ := w
    obtain ⟨d1, P1, E1, m1, n1, ct1, w⟩ := w
    obtain ⟨⟨x1, x2, x3⟩, w⟩ := w
    obtain ⟨x4, w⟩ := w
    refine r_callVR X (As := [.ref l0, .int l1, .int l2]) dX10_of_18 mk_X10_isSpelled ⟨ml_X10_84, im_X10_isSpelled, se_X10_isSpelled⟩ (hy.w z3) hy.1 rfl rfl (by simp [Value.category]) ⟨x1, by show 60 * (d1 + 1) + 200 ≤ 60 * D + 200; omega⟩ ⟨x2, x3⟩ ct1 x4 (fun _ z => nomatch z) (fun _ => ⟨x2, x3⟩) (fun v h1 w1 => ?_)
    have w := w v h1 w1
    have hk : kc + m1 ≤ mc ∧ ks + n1 ≤ ms := ⟨x2, x3⟩
    obtain ⟨v4, rfl, w⟩ := w
    refine r_if_eq X dX10_of_21 (tgt := 30) (by decide) (fun q => ?_) (fun q => ?_)
    · have w := w.1 q
      refine r_iinc X dX10_of_30 rfl (v := (l3 + 1)) rfl (by decide) rfl ?_
      refine r_goto X dX10_of_33 (tgt := 2) (by decide) ?_
      refine VB_wk (ls' := [some (.ref l0), some (.int l1), some (.int l2), some (.int ((l3 + 1)))]) ?_ w
      exact (And.intro rfl (And.intro rfl (And.intro rfl (And.intro rfl trivial))))
    · have w := w.2 q
      refine r_getsO X (v := .retAddr 48) dX10_of_24 hy.2.2.2.1 hy.1 fo_X10_81 ?_
      refine r_iload_n X dX10_of_27 rfl ?_
      obtain ⟨v5, ev5, iv5, w⟩ := w
      refine r_tqO X dX10_of_28 hy.2.2.2.2.1 hy.1 ev5 iv5 (by decide) ?_
      exact r_aretR X dX10_of_29 rfl (Or.inl ⟨_, rfl⟩) w hk.1 hk.2

set_option maxRecDepth 10000 in
theorem b_X5_isWord_0 {g : GG} {K : KX} {D mc ms : Nat} {Pr : Option Value → Hp → Prop} {Pt : String → Hp → Prop} {kc ks : Nat} (hg : GOK g) (hO : GOW g) (hD : 8 ≤ D) (hk : kc ≤ mc ∧ ks ≤ ms) (X : CB g K cX5_isWord 2 yX5_isWord (some (.boolean)) []) (l0 : Nat) (l1 : Nat) (h : Hp)
    (w : (∃ v1, gI h l0 5 7 = some v1 ∧ ((¬ v1 = (1 : Int32) → (isB ((0 : Int32)) ∧ Pr (some (.int ((0 : Int32)))) h)) ∧ (v1 = (1 : Int32) → (∃ v2, gN h l0 5 2 = some v2 ∧ (∃ v3, gI h l0 5 8 = some v3 ∧ (∃ v4, gI h l0 5 6 = some v4 ∧ (l1 < 16 ∧ (∃ d4 P4 E4 m4 n4, CT g d4 yX10_isSpelled (wsC yX10_isSpelled cX10_isSpelled 5 (some (.boolean))) [.retAddr l1, .ref v2, .int v3, .int v4] h m4 n4 P4 E4 ∧ (d4 + 1 ≤ D ∧ kc + m4 ≤ mc ∧ ks + n4 ≤ ms) ∧ (∀ E h', E4 E h' → Pt E h') ∧ (∀ v h4, P4 v h4 → ∃ v7, v = some (.int v7) ∧ ((v7 = 0 → (isB ((0 : Int32)) ∧ Pr (some (.int ((0 : Int32)))) h4)) ∧ (¬ v7 = 0 → (isB ((1 : Int32)) ∧ Pr (some (.int ((1 : Int32)))) h4))))))))))))) : VB g K 2 D mc ms Pr Pt kc ks 0 [some (.ref l0), some (.retAddr l1)] [] h := by
  obtain ⟨p, e, s, m, args, below, meth, c⟩ := K
  have X : CX g p s m args meth c cX5_isWord 2 yX5_isWord (some (.boolean)) [] := X
  have hz := hg s X.gk.z
  show VV g p e (rmm D mc ms) s m args below meth c 2 (QQ g below args s mc ms Pr Pt) kc ks 0 [some (.ref l0), some (.retAddr l1)] [] h
  have hy := hO s X.gk.z
  refine r_aload_n X dX5_isWord_0 rfl ?_
  obtain ⟨v1, ev1, w⟩ := w
  obtain ⟨fv1, cv1, qv1⟩ := gI_s ev1
  refine r_getf X dX5_isWord_1 fl_X5_21 cv1 qv1 ?_
  refine r_iconst X dX5_isWord_4 (v := 1) (by decide) ?_
  refine r_icmp_ne X dX5_isWord_5 (tgt := 31) (by decide) (fun q => ?_) (fun q => ?_)
  · have w := w.1 q
    refine r_iconst X dX5_isWord_31 (v := 0) (by decide) ?_
    exact r_zret X dX5_isWord_32 rfl (isB_n w.1) w.2 hk.1 hk.2
  · have w := w.2 q
    refine r_aload_nR X dX5_isWord_8 rfl ?_
    refine r_aload_n X dX5_isWord_9 rfl ?_
    obtain ⟨v2, ev2, w⟩ := w
    obtain ⟨fv2, cv2, qv2⟩ := gN_s ev2
    refine r_getf X dX5_isWord_10 fl_X5_33 cv2 qv2 ?_
    refine r_aload_n X dX5_isWord_13 rfl ?_
    obtain ⟨v3, ev3, w⟩ := w
    obtain ⟨fv3, cv3, qv3⟩ := gI_s ev3
    refine r_getf X dX5_isWord_14 fl_X5_24 cv3 qv3 ?_
    refine r_aload_n X dX5_isWord_17 rfl ?_
    obtain ⟨v4, ev4, w⟩ := w
    obtain ⟨fv4, cv4, qv4⟩ := gI_s ev4
    refine r_getf X dX5_isWord_18 fl_X5_18 cv4 qv4 ?_
    obtain ⟨z6, w⟩ := w
    obtain ⟨d4, P4, E4, m4, n4, ct4, w⟩ := w
    obtain ⟨⟨x1, x2, x3⟩, w⟩ := w
    obtain ⟨x4, w⟩ := w
    refine r_callVR X (As := [.ref v2, .int v3, .int v4]) dX5_isWord_21 mk_X10_isSpelled ⟨ml_X5_68, im_X10_isSpelled, se_X10_isSpelled⟩ (hy.w z6) hy.1 rfl rfl (by simp [Value.category]) ⟨x1, by show 60 * (d4 + 1) + 200 ≤ 60 * D + 200; omega⟩ ⟨x2, x3⟩ ct4 x4 (fun _ z => nomatch z) (fun _ => ⟨x2, x3⟩) (fun v h4 w1 => ?_)
    have w := w v h4 w1
    have hk : kc + m4 ≤ mc ∧ ks + n4 ≤ ms := ⟨x2, x3⟩
    obtain ⟨v7, rfl, w⟩ := w
    refine r_if_eq X dX5_isWord_24 (tgt := 31) (by decide) (fun q => ?_) (fun q => ?_)
    · have w := w.1 q
      refine r_iconst X dX5_isWord_31 (v := 0) (by decide) ?_
      exact r_zret X dX5_isWord_32 rfl (isB_n w.1) w.2 hk.1 hk.2
    · have w := w.2 q
      refine r_iconst X dX5_isWord_27 (v := 1) (by decide) ?_
      refine r_goto X dX5_isWord_28 (tgt := 32) (by decide) ?_
      exact r_zret X dX5_isWord_32 rfl (isB_n w.1) w.2 hk.1 hk.2

set_option maxRecDepth 10000 in
theorem b_X5_readPart_0 {g : GG} {K : KX} {D mc ms : Nat} {Pr : Option Value → Hp → Prop} {Pt : String → Hp → Prop} {kc ks : Nat} (hg : GOK g) (hO : GOW g) (hD : 8 ≤ D) (hk : kc ≤ mc ∧ ks ≤ ms) (X : CB g K cX5_readPart 3 yX5_readPart (some (.boolean)) []) (l0 : Nat) (l1 : Int32) (h : Hp)
    (w : (∃ fs0, oF h l0 5 = some fs0 ∧ (∃ d0 P0 E0 m0 n0, CT g d0 yX5_isSign (wsC yX5_isSign cX5_isSign 2 (some (.boolean))) [.ref l0, .int ((40 : Int32))] h m0 n0 P0 E0 ∧ (d0 + 1 ≤ D ∧ kc + m0 ≤ mc ∧ ks + n0 ≤ ms) ∧ (∀ E h', E0 E h' → Pt E h') ∧ (∀ v h0, P0 v h0 → ∃ v2, v = some (.int v2) ∧ ((v2 = 0 → (∃ v3, gI h0 l0 5 7 = some v3 ∧ ((v3 = (1 : Int32) → VB g K 3 D mc ms Pr Pt ((kc + m0)) ((ks + n0)) 60 [some (.ref l0), none, none] [] h0) ∧ (¬ v3 = (1 : Int32) → (∃ v4, gI h0 l0 5 7 = some v4 ∧ ((v4 = (2 : Int32) → VB g K 3 D mc ms Pr Pt ((kc + m0)) ((ks + n0)) 60 [some (.ref l0), none, none] [] h0) ∧ (¬ v4 = (2 : Int32) → (∃ fs4, oF h0 l0 5 = some fs4 ∧ (∃ d4 P4 E4 m4 n4, CT g d4 yX5_fail (wsC yX5_fail cX5_fail 2 (some (.boolean))) [.ref l0, .int ((1 : Int32))] h0 m4 n4 P4 E4 ∧ (d4 + 1 ≤ D ∧ (kc + m0) + m4 ≤ mc ∧ (ks + n0) + n4 ≤ ms) ∧ (∀ E h', E4 E h' → Pt E h') ∧ (∀ v h4, P4 v h4 → ∃ v6, v = some (.int v6) ∧ (isB v6 ∧ Pr (some (.int v6)) h4))))))))))) ∧ (¬ v2 = 0 → (∃ fs6, oF h0 l0 5 = some fs6 ∧ (∃ d6 P6 E6 m6 n6, CT g d6 yX5_takeToken (wsC yX5_takeToken cX5_takeToken 2 none) [.ref l0] h0 m6 n6 P6 E6 ∧ (d6 + 1 ≤ D ∧ (kc + m0) + m6 ≤ mc ∧ (ks + n0) + n6 ≤ ms) ∧ (∀ E h', E6 E h' → Pt E h') ∧ (∀ v h6, P6 v h6 → v = none ∧ (∃ fs7, oF h6 l0 5 = some fs7 ∧ (∃ d7 P7 E7 m7 n7, CT g d7 yX5_readExpr (wsC yX5_readExpr cX5_readExpr 2 (some (.boolean))) [.ref l0, .int ((l1 + (1 : Int32)))] h6 m7 n7 P7 E7 ∧ (d7 + 1 ≤ D ∧ ((kc + m0) + m6) + m7 ≤ mc ∧ ((ks + n0) + n6) + n7 ≤ ms) ∧ (∀ E h', E7 E h' → Pt E h') ∧ (∀ v h7, P7 v h7 → ∃ v9, v = some (.int v9) ∧ ((v9 = 0 → (isB ((0 : Int32)) ∧ Pr (some (.int ((0 : Int32)))) h7)) ∧ (¬ v9 = 0 → (∃ fs9, oF h7 l0 5 = some fs9 ∧ (∃ d9 P9 E9 m9 n9, CT g d9 yX5_passSign (wsC yX5_passSign cX5_passSign 2 (some (.boolean))) [.ref l0, .int ((41 : Int32))] h7 m9 n9 P9 E9 ∧ (d9 + 1 ≤ D ∧ (((kc + m0) + m6) + m7) + m9 ≤ mc ∧ (((ks + n0) + n6) + n7) + n9 ≤ ms) ∧ (∀ E h', E9 E h' → Pt E h') ∧ (∀ v h9, P9 v h9 → ∃ v11, v = some (.int v11) ∧ ((v11 = 0 → (isB ((0 : Int32)) ∧ Pr (some (.int ((0 : Int32)))) h9)) ∧ (¬ v11 = 0 → (isB ((1 : Int32)) ∧ Pr (some (.int ((1 : Int32)))) h9)))))))))))))))))))) : VB g K 3 D mc ms Pr Pt kc ks 0 [some (.ref l0), some (.int l1), none] [] h := by
  obtain ⟨p, e, s, m, args, below, meth, c⟩ := K
  have X : CX g p s m args meth c cX5_readPart 3 yX5_readPart (some (.boolean)) [] := X
  have hz := hg s X.gk.z
  show VV g p e (rmm D mc ms) s m args below meth c 3 (QQ g below args s mc ms Pr Pt) kc ks 0 [some (.ref l0), some (.int l1), none] [] h
  have hy := hO s X.gk.z
  refine r_aload_n X dX5_readPart_0 rfl ?_
  refine r_bipush X dX5_readPart_1 (v := 40) (by decide) ?_
  obtain ⟨fs0, es0, w⟩ := w
  obtain ⟨d0, P0, E0, m0, n0, ct0, w⟩ := w
  obtain ⟨⟨x1, x2, x3⟩, w⟩ := w
  obtain ⟨x4, w⟩ := w
  refine r_callV X (As := [.int ((40 : Int32))]) dX5_readPart_3 mk_X5_isSign ⟨ml_X5_74, im_X5_isSign, se_X5_isSign⟩ (oF_s es0) (ci_X5).1 rfl rfl rfl (by simp [Value.category]) ⟨x1, by show 60 * (d0 + 1) + 200 ≤ 60 * D + 200; omega⟩ ⟨x2, x3⟩ ct0 x4 (fun _ z => nomatch z) (fun _ => ⟨x2, x3⟩) (fun v h0 w1 => ?_)
  have w := w v h0 w1
  have hk : kc + m0 ≤ mc ∧ ks + n0 ≤ ms := ⟨x2, x3⟩
  obtain ⟨v2, rfl, w⟩ := w
  refine r_if_eq X dX5_readPart_6 (tgt := 38) (by decide) (fun q => ?_) (fun q => ?_)
  · have w := w.1 q
    refine r_aload_n X dX5_readPart_38 rfl ?_
    obtain ⟨v3, ev3, w⟩ := w
    obtain ⟨fv3, cv3, qv3⟩ := gI_s ev3
    refine r_getf X dX5_readPart_39 fl_X5_21 cv3 qv3 ?_
    refine r_iconst X dX5_readPart_42 (v := 1) (by decide) ?_
    refine r_icmp_eq X dX5_readPart_43 (tgt := 60) (by decide) (fun q => ?_) (fun q => ?_)
    · have w := w.1 q
      refine VB_wk (ls' := [some (.ref l0), none, none]) ?_ w
      exact (And.intro rfl trivial)
    · have w := w.2 q
      refine r_aload_n X dX5_readPart_46 rfl ?_
      obtain ⟨v4, ev4, w⟩ := w
      obtain ⟨fv4, cv4, qv4⟩ := gI_s ev4
      refine r_getf X dX5_readPart_47 fl_X5_21 cv4 qv4 ?_
      refine r_iconst X dX5_readPart_50 (v := 2) (by decide) ?_
      refine r_icmp_eq X dX5_readPart_51 (tgt := 60) (by decide) (fun q => ?_) (fun q => ?_)
      · have w := w.1 q
        refine VB_wk (ls' := [some (.ref l0), none, none]) ?_ w
        exact (And.intro rfl trivial)
      · have w := w.2 q
        refine r_aload_n X dX5_readPart_54 rfl ?_
        refine r_iconst X dX5_readPart_55 (v := 1) (by decide) ?_
        obtain ⟨fs4, es4, w⟩ := w
        obtain ⟨d4, P4, E4, m4, n4, ct4, w⟩ := w
        obtain ⟨⟨x1, x2, x3⟩, w⟩ := w
        obtain ⟨x4, w⟩ := w
        refine r_callV X (As := [.int ((1 : Int32))]) dX5_readPart_56 mk_X5_fail ⟨ml_X5_78, im_X5_fail, se_X5_fail⟩ (oF_s es4) (ci_X5).1 rfl rfl rfl (by simp [Value.category]) ⟨x1, by show 60 * (d4 + 1) + 200 ≤ 60 * D + 200; omega⟩ ⟨x2, x3⟩ ct4 x4 (fun _ z => nomatch z) (fun _ => ⟨x2, x3⟩) (fun v h4 w1 => ?_)
        have w := w v h4 w1
        have hk : (kc + m0) + m4 ≤ mc ∧ (ks + n0) + n4 ≤ ms := ⟨x2, x3⟩
        obtain ⟨v6, rfl, w⟩ := w
        exact r_zret X dX5_readPart_59 rfl (isB_n w.1) w.2 hk.1 hk.2
  · have w := w.2 q
    refine r_aload_n X dX5_readPart_9 rfl ?_
    obtain ⟨fs6, es6, w⟩ := w
    obtain ⟨d6, P6, E6, m6, n6, ct6, w⟩ := w
    obtain ⟨⟨x1, x2, x3⟩, w⟩ := w
    obtain ⟨x4, w⟩ := w
    refine r_callV X (As := []) dX5_readPart_10 mk_X5_takeToken ⟨ml_X5_54, im_X5_takeToken, se_X5_takeToken⟩ (oF_s es6) (ci_X5).1 rfl rfl rfl (by simp [Value.category]) ⟨x1, by show 60 * (d6 + 1) + 200 ≤ 60 * D + 200; omega⟩ ⟨x2, x3⟩ ct6 x4 (fun _ z => nomatch z) (fun _ => ⟨x2, x3⟩) (fun v h6 w1 => ?_)
    have w := w v h6 w1
    have hk : (kc + m0) + m6 ≤ mc ∧ (ks + n0) + n6 ≤ ms := ⟨x2, x3⟩
    obtain ⟨rfl, w⟩ := w
    refine r_aload_n X dX5_readPart_13 rfl ?_
    refine r_iload_n X dX5_readPart_14 rfl ?_
    refine r_iconst X dX5_readPart_15 (v := 1) (by decide) ?_
    refine r_iadd X dX5_readPart_16 ?_
    obtain ⟨fs7, es7, w⟩ := w
    obtain ⟨d7, P7, E7, m7, n7, ct7, w⟩ := w
    obtain ⟨⟨x1, x2, x3⟩, w⟩ := w
    obtain ⟨x4, w⟩ := w
    refine r_callV X (As := [.int ((l1 + (1 : Int32)))]) dX5_readPart_17 mk_X5_readExpr ⟨ml_X5_195, im_X5_readExpr, se_X5_readExpr⟩ (oF_s es7) (ci_X5).1 rfl rfl rfl (by simp [Value.category]) ⟨x1, by show 60 * (d7 + 1) + 200 ≤ 60 * D + 200; omega⟩ ⟨x2, x3⟩ ct7 x4 (fun _ z => nomatch z) (fun _ => ⟨x2, x3⟩) (fun v h7 w1 => ?_)
    have w := w v h7 w1
    have hk : ((kc + m0) + m6) + m7 ≤ mc ∧ ((ks + n0) + n6) + n7 ≤ ms := ⟨x2, x3⟩
    obtain ⟨v9, rfl, w⟩ := w
    refine r_if_eq X dX5_readPart_20 (tgt := 36) (by decide) (fun q => ?_) (fun q => ?_)
    · have w := w.1 q
      refine r_iconst X dX5_readPart_36 (v := 0) (by decide) ?_
      exact r_zret X dX5_readPart_37 rfl (isB_n w.1) w.2 hk.1 hk.2
    · have w := w.2 q
      refine r_aload_n X dX5_readPart_23 rfl ?_
      refine r_bipush X dX5_readPart_24 (v := 41) (by decide) ?_
      obtain ⟨fs9, es9, w⟩ := w
      obtain ⟨d9, P9, E9, m9, n9, ct9, w⟩ := w
      obtain ⟨⟨x1, x2, x3⟩, w⟩ := w
      obtain ⟨x4, w⟩ := w
      refine r_callV X (As := [.int ((41 : Int32))]) dX5_readPart_26 mk_X5_passSign ⟨ml_X5_143, im_X5_passSign, se_X5_passSign⟩ (oF_s es9) (ci_X5).1 rfl rfl rfl (by simp [Value.category]) ⟨x1, by show 60 * (d9 + 1) + 200 ≤ 60 * D + 200; omega⟩ ⟨x2, x3⟩ ct9 x4 (fun _ z => nomatch z) (fun _ => ⟨x2, x3⟩) (fun v h9 w1 => ?_)
      have w := w v h9 w1
      have hk : (((kc + m0) + m6) + m7) + m9 ≤ mc ∧ (((ks + n0) + n6) + n7) + n9 ≤ ms := ⟨x2, x3⟩
      obtain ⟨v11, rfl, w⟩ := w
      refine r_if_eq X dX5_readPart_29 (tgt := 36) (by decide) (fun q => ?_) (fun q => ?_)
      · have w := w.1 q
        refine r_iconst X dX5_readPart_36 (v := 0) (by decide) ?_
        exact r_zret X dX5_readPart_37 rfl (isB_n w.1) w.2 hk.1 hk.2
      · have w := w.2 q
        refine r_iconst X dX5_readPart_32 (v := 1) (by decide) ?_
        refine r_goto X dX5_readPart_33 (tgt := 37) (by decide) ?_
        exact r_zret X dX5_readPart_37 rfl (isB_n w.1) w.2 hk.1 hk.2

set_option maxRecDepth 10000 in
theorem b_X5_readPart_60 {g : GG} {K : KX} {D mc ms : Nat} {Pr : Option Value → Hp → Prop} {Pt : String → Hp → Prop} {kc ks : Nat} (hg : GOK g) (hO : GOW g) (hD : 8 ≤ D) (hk : kc ≤ mc ∧ ks ≤ ms) (X : CB g K cX5_readPart 3 yX5_readPart (some (.boolean)) []) (l0 : Nat) (h : Hp)
    (w : (∃ v1, gI h l0 5 7 = some v1 ∧ ((¬ v1 = (2 : Int32) → VB g K 3 D mc ms Pr Pt kc ks 82 [some (.ref l0), none, none] [] h) ∧ (v1 = (2 : Int32) → (∃ v2, gI h l0 5 10 = some v2 ∧ ((v2 ≤ (4 : Int32) → VB g K 3 D mc ms Pr Pt kc ks 82 [some (.ref l0), none, none] [] h) ∧ (¬ v2 ≤ (4 : Int32) → (∃ fs2, oF h l0 5 = some fs2 ∧ (∃ d2 P2 E2 m2 n2, CT g d2 yX5_fail (wsC yX5_fail cX5_fail 2 (some (.boolean))) [.ref l0, .int ((2 : Int32))] h m2 n2 P2 E2 ∧ (d2 + 1 ≤ D ∧ kc + m2 ≤ mc ∧ ks + n2 ≤ ms) ∧ (∀ E h', E2 E h' → Pt E h') ∧ (∀ v h2, P2 v h2 → ∃ v4, v = some (.int v4) ∧ (isB v4 ∧ Pr (some (.int v4)) h2))))))))))) : VB g K 3 D mc ms Pr Pt kc ks 60 [some (.ref l0), none, none] [] h := by
  obtain ⟨p, e, s, m, args, below, meth, c⟩ := K
  have X : CX g p s m args meth c cX5_readPart 3 yX5_readPart (some (.boolean)) [] := X
  have hz := hg s X.gk.z
  show VV g p e (rmm D mc ms) s m args below meth c 3 (QQ g below args s mc ms Pr Pt) kc ks 60 [some (.ref l0), none, none] [] h
  have hy := hO s X.gk.z
  refine r_aload_n X dX5_readPart_60 rfl ?_
  obtain ⟨v1, ev1, w⟩ := w
  obtain ⟨fv1, cv1, qv1⟩ := gI_s ev1
  refine r_getf X dX5_readPart_61 fl_X5_21 cv1 qv1 ?_
  refine r_iconst X dX5_readPart_64 (v := 2) (by decide) ?_
  refine r_icmp_ne X dX5_readPart_65 (tgt := 82) (by decide) (fun q => ?_) (fun q => ?_)
  · have w := w.1 q
    refine VB_wk (ls' := [some (.ref l0), none, none]) ?_ w
    exact (And.intro rfl trivial)
  · have w := w.2 q
    refine r_aload_n X dX5_readPart_68 rfl ?_
    obtain ⟨v2, ev2, w⟩ := w
    obtain ⟨fv2, cv2, qv2⟩ := gI_s ev2
    refine r_getf X dX5_readPart_69 fl_X5_30 cv2 qv2 ?_
    refine r_iconst X dX5_readPart_72 (v := 4) (by decide) ?_
    refine r_icmp_le X dX5_readPart_73 (tgt := 82) (by decide) (fun q => ?_) (fun q => ?_)
    · have w := w.1 q
      refine VB_wk (ls' := [some (.ref l0), none, none]) ?_ w
      exact (And.intro rfl trivial)
    · have w := w.2 q
      refine r_aload_n X dX5_readPart_76 rfl ?_
      refine r_iconst X dX5_readPart_77 (v := 2) (by decide) ?_
      obtain ⟨fs2, es2, w⟩ := w
      obtain ⟨d2, P2, E2, m2, n2, ct2, w⟩ := w
      obtain ⟨⟨x1, x2, x3⟩, w⟩ := w
      obtain ⟨x4, w⟩ := w
      refine r_callV X (As := [.int ((2 : Int32))]) dX5_readPart_78 mk_X5_fail ⟨ml_X5_78, im_X5_fail, se_X5_fail⟩ (oF_s es2) (ci_X5).1 rfl rfl rfl (by simp [Value.category]) ⟨x1, by show 60 * (d2 + 1) + 200 ≤ 60 * D + 200; omega⟩ ⟨x2, x3⟩ ct2 x4 (fun _ z => nomatch z) (fun _ => ⟨x2, x3⟩) (fun v h2 w1 => ?_)
      have w := w v h2 w1
      have hk : kc + m2 ≤ mc ∧ ks + n2 ≤ ms := ⟨x2, x3⟩
      obtain ⟨v4, rfl, w⟩ := w
      exact r_zret X dX5_readPart_81 rfl (isB_n w.1) w.2 hk.1 hk.2

set_option maxRecDepth 10000 in
theorem b_X5_readPart_82 {g : GG} {K : KX} {D mc ms : Nat} {Pr : Option Value → Hp → Prop} {Pt : String → Hp → Prop} {kc ks : Nat} (hg : GOK g) (hO : GOW g) (hD : 8 ≤ D) (hk : kc ≤ mc ∧ ks ≤ ms) (X : CB g K cX5_readPart 3 yX5_readPart (some (.boolean)) []) (l0 : Nat) (h : Hp)
    (w : (∃ v1, gI h l0 5 7 = some v1 ∧ ((¬ v1 = (2 : Int32) → (∃ v2, gN h l0 5 2 = some v2 ∧ (∃ v3, gI h l0 5 8 = some v3 ∧ (∃ v4, gI h l0 5 6 = some v4 ∧ (∃ d4 P4 E4 m4 n4, CT g d4 yX10_of (wsC yX10_of cX10_of 4 (some (.object "HorizonSeam$Word"))) [.ref v2, .int v3, .int v4] h m4 n4 P4 E4 ∧ (d4 + 1 ≤ D ∧ kc + m4 ≤ mc ∧ ks + n4 ≤ ms) ∧ (∀ E h', E4 E h' → Pt E h') ∧ (∀ v h4, P4 v h4 → ∃ v6, v = some (.retAddr v6) ∧ (v6 < 16 ∧ VB g K 3 D mc ms Pr Pt ((kc + m4)) ((ks + n4)) 115 [some (.ref l0), none, none] [.int ((wcd v6))] h4))))))) ∧ (v1 = (2 : Int32) → (∃ v8, gI h l0 5 9 = some v8 ∧ VB g K 3 D mc ms Pr Pt kc ks 115 [some (.ref l0), none, none] [.int v8] h))))) : VB g K 3 D mc ms Pr Pt kc ks 82 [some (.ref l0), none, none] [] h := by
  obtain ⟨p, e, s, m, args, below, meth, c⟩ := K
  have X : CX g p s m args meth c cX5_readPart 3 yX5_readPart (some (.boolean)) [] := X
  have hz := hg s X.gk.z
  show VV g p e (rmm D mc ms) s m args below meth c 3 (QQ g below args s mc ms Pr Pt) kc ks 82 [some (.ref l0), none, none] [] h
  have hy := hO s X.gk.z
  refine r_aload_n X dX5_readPart_82 rfl ?_
  obtain ⟨v1, ev1, w⟩ := w
  obtain ⟨fv1, cv1, qv1⟩ := gI_s ev1
  refine r_getf X dX5_readPart_83 fl_X5_21 cv1 qv1 ?_
  refine r_iconst X dX5_readPart_86 (v := 2) (by decide) ?_
  refine r_icmp_ne X dX5_readPart_87 (tgt := 97) (by decide) (fun q => ?_) (fun q => ?_)
  · have w := w.1 q
    refine r_aload_n X dX5_readPart_97 rfl ?_
    obtain ⟨v2, ev2, w⟩ := w
    obtain ⟨fv2, cv2, qv2⟩ := gN_s ev2
    refine r_getf X dX5_readPart_98 fl_X5_33 cv2 qv2 ?_
    refine r_aload_n X dX5_readPart_101 rfl ?_
    obtain ⟨v3, ev3, w⟩ := w
    obtain ⟨fv3, cv3, qv3⟩ := gI_s ev3
    refine r_getf X dX5_readPart_102 fl_X5_24 cv3 qv3 ?_
    refine r_aload_n X dX5_readPart_105 rfl ?_
    obtain ⟨v4, ev4, w⟩ := w
    obtain ⟨fv4, cv4, qv4⟩ := gI_s ev4
    refine r_getf X dX5_readPart_106 fl_X5_18 cv4 qv4 ?_
    obtain ⟨d4, P4, E4, m4, n4, ct4, w⟩ := w
    obtain ⟨⟨x1, x2, x3⟩, w⟩ := w
    obtain ⟨x4, w⟩ := w
    refine r_callS X (As := [.ref v2, .int v3, .int v4]) dX5_readPart_109 mk_X10_of ⟨ml_X5_227, sm_X10_of⟩ rfl rfl (by simp [Value.category]) ⟨x1, by show 60 * (d4 + 1) + 200 ≤ 60 * D + 200; omega⟩ ⟨x2, x3⟩ ct4 x4 (fun _ z => nomatch z) (fun _ => ⟨x2, x3⟩) (fun v h4 w1 => ?_)
    have w := w v h4 w1
    have hk : kc + m4 ≤ mc ∧ ks + n4 ≤ ms := ⟨x2, x3⟩
    obtain ⟨v6, rfl, w⟩ := w
    obtain ⟨z7, w⟩ := w
    refine r_getfO X (v := .int (wcd v6)) dX5_readPart_112 (hy.2.1 _ z7).2.2 hy.1 fo_X5_231 ?_
    refine VB_wk (ls' := [some (.ref l0), none, none]) ?_ w
    exact (And.intro rfl trivial)
  · have w := w.2 q
    refine r_aload_n X dX5_readPart_90 rfl ?_
    obtain ⟨v8, ev8, w⟩ := w
    obtain ⟨fv8, cv8, qv8⟩ := gI_s ev8
    refine r_getf X dX5_readPart_91 fl_X5_27 cv8 qv8 ?_
    refine r_goto X dX5_readPart_94 (tgt := 115) (by decide) ?_
    refine VB_wk (ls' := [some (.ref l0), none, none]) ?_ w
    exact (And.intro rfl trivial)

set_option maxRecDepth 10000 in
theorem b_X5_readPart_115 {g : GG} {K : KX} {D mc ms : Nat} {Pr : Option Value → Hp → Prop} {Pt : String → Hp → Prop} {kc ks : Nat} (hg : GOK g) (hO : GOW g) (hD : 8 ≤ D) (hk : kc ≤ mc ∧ ks ≤ ms) (X : CB g K cX5_readPart 3 yX5_readPart (some (.boolean)) []) (l0 : Nat) (s0 : Int32) (h : Hp)
    (w : (∃ v1, gI h l0 5 7 = some v1 ∧ ((¬ v1 = (1 : Int32) → VB g K 3 D mc ms Pr Pt kc ks 134 [some (.ref l0), none, some (.int s0)] [] h) ∧ (v1 = (1 : Int32) → ((¬ s0 = 0 → VB g K 3 D mc ms Pr Pt kc ks 134 [some (.ref l0), none, some (.int s0)] [] h) ∧ (s0 = 0 → (∃ fs1, oF h l0 5 = some fs1 ∧ (∃ d1 P1 E1 m1 n1, CT g d1 yX5_fail (wsC yX5_fail cX5_fail 2 (some (.boolean))) [.ref l0, .int ((3 : Int32))] h m1 n1 P1 E1 ∧ (d1 + 1 ≤ D ∧ kc + m1 ≤ mc ∧ ks + n1 ≤ ms) ∧ (∀ E h', E1 E h' → Pt E h') ∧ (∀ v h1, P1 v h1 → ∃ v3, v = some (.int v3) ∧ (isB v3 ∧ Pr (some (.int v3)) h1)))))))))) : VB g K 3 D mc ms Pr Pt kc ks 115 [some (.ref l0), none, none] [.int s0] h := by
  obtain ⟨p, e, s, m, args, below, meth, c⟩ := K
  have X : CX g p s m args meth c cX5_readPart 3 yX5_readPart (some (.boolean)) [] := X
  have hz := hg s X.gk.z
  show VV g p e (rmm D mc ms) s m args below meth c 3 (QQ g below args s mc ms Pr Pt) kc ks 115 [some (.ref l0), none, none] [.int s0] h
  have hy := hO s X.gk.z
  refine r_istore_n X dX5_readPart_115 (by decide) rfl ?_
  refine r_aload_n X dX5_readPart_116 rfl ?_
  obtain ⟨v1, ev1, w⟩ := w
  obtain ⟨fv1, cv1, qv1⟩ := gI_s ev1
  refine r_getf X dX5_readPart_117 fl_X5_21 cv1 qv1 ?_
  refine r_iconst X dX5_readPart_120 (v := 1) (by decide) ?_
  refine r_icmp_ne X dX5_readPart_121 (tgt := 134) (by decide) (fun q => ?_) (fun q => ?_)
  · have w := w.1 q
    refine VB_wk (ls' := [some (.ref l0), none, some (.int s0)]) ?_ w
    exact (And.intro rfl (And.intro rfl trivial))
  · have w := w.2 q
    refine r_iload_n X dX5_readPart_124 rfl ?_
    refine r_if_ne X dX5_readPart_125 (tgt := 134) (by decide) (fun q => ?_) (fun q => ?_)
    · have w := w.1 q
      refine VB_wk (ls' := [some (.ref l0), none, some (.int s0)]) ?_ w
      exact (And.intro rfl (And.intro rfl trivial))
    · have w := w.2 q
      refine r_aload_n X dX5_readPart_128 rfl ?_
      refine r_iconst X dX5_readPart_129 (v := 3) (by decide) ?_
      obtain ⟨fs1, es1, w⟩ := w
      obtain ⟨d1, P1, E1, m1, n1, ct1, w⟩ := w
      obtain ⟨⟨x1, x2, x3⟩, w⟩ := w
      obtain ⟨x4, w⟩ := w
      refine r_callV X (As := [.int ((3 : Int32))]) dX5_readPart_130 mk_X5_fail ⟨ml_X5_78, im_X5_fail, se_X5_fail⟩ (oF_s es1) (ci_X5).1 rfl rfl rfl (by simp [Value.category]) ⟨x1, by show 60 * (d1 + 1) + 200 ≤ 60 * D + 200; omega⟩ ⟨x2, x3⟩ ct1 x4 (fun _ z => nomatch z) (fun _ => ⟨x2, x3⟩) (fun v h1 w1 => ?_)
      have w := w v h1 w1
      have hk : kc + m1 ≤ mc ∧ ks + n1 ≤ ms := ⟨x2, x3⟩
      obtain ⟨v3, rfl, w⟩ := w
      exact r_zret X dX5_readPart_133 rfl (isB_n w.1) w.2 hk.1 hk.2

set_option maxRecDepth 10000 in
theorem b_X5_readPart_134 {g : GG} {K : KX} {D mc ms : Nat} {Pr : Option Value → Hp → Prop} {Pt : String → Hp → Prop} {kc ks : Nat} (hg : GOK g) (hO : GOW g) (hD : 8 ≤ D) (hk : kc ≤ mc ∧ ks ≤ ms) (X : CB g K cX5_readPart 3 yX5_readPart (some (.boolean)) []) (l0 : Nat) (l2 : Int32) (h : Hp)
    (w : (∃ v1, gN h l0 5 4 = some v1 ∧ (∃ fs1, oF h v1 9 = some fs1 ∧ (∃ d1 P1 E1 m1 n1, CT g d1 yX9_append (wsC yX9_append cX9_append 2 none) [.ref v1, .int l2] h m1 n1 P1 E1 ∧ (d1 + 1 ≤ D ∧ kc + m1 ≤ mc ∧ ks + n1 ≤ ms) ∧ (∀ E h', E1 E h' → Pt E h') ∧ (∀ v h1, P1 v h1 → v = none ∧ (∃ fs2, oF h1 l0 5 = some fs2 ∧ (∃ d2 P2 E2 m2 n2, CT g d2 yX5_takeToken (wsC yX5_takeToken cX5_takeToken 2 none) [.ref l0] h1 m2 n2 P2 E2 ∧ (d2 + 1 ≤ D ∧ (kc + m1) + m2 ≤ mc ∧ (ks + n1) + n2 ≤ ms) ∧ (∀ E h', E2 E h' → Pt E h') ∧ (∀ v h2, P2 v h2 → v = none ∧ (isB ((1 : Int32)) ∧ Pr (some (.int ((1 : Int32)))) h2))))))))) : VB g K 3 D mc ms Pr Pt kc ks 134 [some (.ref l0), none, some (.int l2)] [] h := by
  obtain ⟨p, e, s, m, args, below, meth, c⟩ := K
  have X : CX g p s m args meth c cX5_readPart 3 yX5_readPart (some (.boolean)) [] := X
  have hz := hg s X.gk.z
  show VV g p e (rmm D mc ms) s m args below meth c 3 (QQ g below args s mc ms Pr Pt) kc ks 134 [some (.ref l0), none, some (.int l2)] [] h
  have hy := hO s X.gk.z
  refine r_aload_n X dX5_readPart_134 rfl ?_
  obtain ⟨v1, ev1, w⟩ := w
  obtain ⟨fv1, cv1, qv1⟩ := gN_s ev1
  refine r_getf X dX5_readPart_135 fl_X5_46 cv1 qv1 ?_
  refine r_iload_n X dX5_readPart_138 rfl ?_
  obtain ⟨fs1, es1, w⟩ := w
  obtain ⟨d1, P1, E1, m1, n1, ct1, w⟩ := w
  obtain ⟨⟨x1, x2, x3⟩, w⟩ := w
  obtain ⟨x4, w⟩ := w
  refine r_callV X (As := [.int l2]) dX5_readPart_139 mk_X9_append ⟨ml_X5_214, im_X9_append, se_X9_append⟩ (oF_s es1) (ci_X9).1 rfl rfl rfl (by simp [Value.category]) ⟨x1, by show 60 * (d1 + 1) + 200 ≤ 60 * D + 200; omega⟩ ⟨x2, x3⟩ ct1 x4 (fun _ z => nomatch z) (fun _ => ⟨x2, x3⟩) (fun v h1 w1 => ?_)
  have w := w v h1 w1
  have hk : kc + m1 ≤ mc ∧ ks + n1 ≤ ms := ⟨x2, x3⟩
  obtain ⟨rfl, w⟩ := w
  refine r_aload_n X dX5_readPart_142 rfl ?_
  obtain ⟨fs2, es2, w⟩ := w
  obtain ⟨d2, P2, E2, m2, n2, ct2, w⟩ := w
  obtain ⟨⟨x1, x2, x3⟩, w⟩ := w
  obtain ⟨x4, w⟩ := w
  refine r_callV X (As := []) dX5_readPart_143 mk_X5_takeToken ⟨ml_X5_54, im_X5_takeToken, se_X5_takeToken⟩ (oF_s es2) (ci_X5).1 rfl rfl rfl (by simp [Value.category]) ⟨x1, by show 60 * (d2 + 1) + 200 ≤ 60 * D + 200; omega⟩ ⟨x2, x3⟩ ct2 x4 (fun _ z => nomatch z) (fun _ => ⟨x2, x3⟩) (fun v h2 w1 => ?_)
  have w := w v h2 w1
  have hk : (kc + m1) + m2 ≤ mc ∧ (ks + n1) + n2 ≤ ms := ⟨x2, x3⟩
  obtain ⟨rfl, w⟩ := w
  refine r_iconst X dX5_readPart_146 (v := 1) (by decide) ?_
  exact r_zret X dX5_readPart_147 rfl (isB_n w.1) w.2 hk.1 hk.2

