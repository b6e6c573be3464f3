set_option maxRecDepth 10000 in
theorem b_X0_init_0 {g : GG} {K : KX} {D mc ms : Nat} {Pr : Option Value → Hp → Prop} {Pt : String → Hp → Prop} {kc ks : Nat} (hg : GOK g) (hD : 8 ≤ D) (hk : kc ≤ mc ∧ ks ≤ ms) (X : CB g K cX0_init 1 yX0_init none []) (l0 : Nat) (h : Hp)
    (w : ((kc + 1 ≤ mc ∧ ks + 7 ≤ ms) ∧ (∃ d1 P1 m1 n1, CT g d1 yX2_init (wsC yX2_init cX2_init 1 none) [.ref ((h).length)] ((h ++ [.inr (2, [.int 0, .null, .null, .null, .null, .null, .null])])) m1 n1 P1 noT ∧ (d1 + 1 ≤ D ∧ (kc + 1) + m1 ≤ mc ∧ (ks + 7) + n1 ≤ ms) ∧ (∀ v h1, P1 v h1 → v = none ∧ (∃ h3, pF h1 l0 0 2 (.ref ((h).length)) = some h3 ∧ ((((kc + 1) + m1) + 1 ≤ mc ∧ ((ks + 7) + n1) + 12 ≤ ms) ∧ (∃ h5, pF ((h3 ++ [arr0 0 12])) l0 0 3 (.ref ((h3).length)) = some h5 ∧ (((((kc + 1) + m1) + 1) + 1 ≤ mc ∧ (((ks + 7) + n1) + 12) + 12 ≤ ms) ∧ (∃ h7, pF ((h5 ++ [arr0 2 12])) l0 0 4 (.ref ((h5).length)) = some h7 ∧ ((((((kc + 1) + m1) + 1) + 1) + 1 ≤ mc ∧ ((((ks + 7) + n1) + 12) + 12) + 12 ≤ ms) ∧ (∃ h9, pF ((h7 ++ [arr0 2 12])) l0 0 5 (.ref ((h7).length)) = some h9 ∧ Pr none h9))))))))))) : VB g K 1 D mc ms Pr Pt kc ks 0 [some (.ref l0)] [] h := by
  obtain ⟨p, e, s, m, args, below, meth, c⟩ := K
  have X : CX g p s m args meth c cX0_init 1 yX0_init none [] := X
  have hz := hg s X.gk.z
  show VV g p e (rmm D mc ms) s m args below meth c 1 (QQ g below args s mc ms Pr Pt) kc ks 0 [some (.ref l0)] [] h
  refine r_aload_n X dX0_init_0 rfl ?_
  refine r_objInit X dX0_init_1 ob_X0_3 (by show 1 ≤ D; omega) (by simp [rmm, Value.category]) ?_
  refine r_aload_n X dX0_init_4 rfl ?_
  obtain ⟨q1, w⟩ := w
  refine r_new X dX0_init_5 ci_X2 nc_X0_9 (fs := [.int 0, .null, .null, .null, .null, .null, .null]) rfl q1.1 q1.2 ?_
  have hk : (kc + 1) ≤ mc ∧ (ks + 7) ≤ ms := q1
  refine r_dup X dX0_init_8 rfl ?_
  obtain ⟨d1, P1, m1, n1, ct1, w⟩ := w
  obtain ⟨⟨x1, x2, x3⟩, w⟩ := w
  refine r_callIN X (As := []) dX0_init_9 mk_X2_init im_X2_init (hz.2.2.1 (.methodLinkNest RX0 11 yX2_init "HorizonSeam") (by decide +kernel)) rfl rfl rfl (by simp [Value.category]) ⟨x1, by show 60 * (d1 + 1) + 200 ≤ 60 * D + 200; omega⟩ ⟨x2, x3⟩ ct1 (fun v h1 w1 => ?_)
  have w := w v h1 w1
  have hk : (kc + 1) + m1 ≤ mc ∧ (ks + 7) + n1 ≤ ms := ⟨x2, x3⟩
  obtain ⟨rfl, w⟩ := w
  obtain ⟨h3, eh3, w⟩ := w
  obtain ⟨fh3, ch3, lh3, rh3⟩ := pF_s eh3
  subst rh3
  refine r_putF X dX0_init_12 fw_X0_12 rfl ch3 lh3 rfl rfl ?_
  refine r_aload_n X dX0_init_15 rfl ?_
  refine r_bipush X dX0_init_16 (v := 12) (by decide) ?_
  obtain ⟨q4, w⟩ := w
  refine r_newa X dX0_init_18 (t := 0) (N := 12) (by decide) rfl ar_int (by decide) (by decide) (by decide) q4.1 q4.2 ?_
  have hk : (((kc + 1) + m1) + 1) ≤ mc ∧ (((ks + 7) + n1) + 12) ≤ ms := q4
  obtain ⟨h5, eh5, w⟩ := w
  obtain ⟨fh5, ch5, lh5, rh5⟩ := pF_s eh5
  subst rh5
  refine r_putF X dX0_init_20 fw_X0_18 rfl ch5 lh5 rfl rfl ?_
  refine r_aload_n X dX0_init_23 rfl ?_
  refine r_bipush X dX0_init_24 (v := 12) (by decide) ?_
  obtain ⟨q6, w⟩ := w
  refine r_newa X dX0_init_26 (t := 2) (N := 12) (by decide) rfl ar_long (by decide) (by decide) (by decide) q6.1 q6.2 ?_
  have hk : ((((kc + 1) + m1) + 1) + 1) ≤ mc ∧ ((((ks + 7) + n1) + 12) + 12) ≤ ms := q6
  obtain ⟨h7, eh7, w⟩ := w
  obtain ⟨fh7, ch7, lh7, rh7⟩ := pF_s eh7
  subst rh7
  refine r_putF X dX0_init_28 fw_X0_22 rfl ch7 lh7 rfl rfl ?_
  refine r_aload_n X dX0_init_31 rfl ?_
  refine r_bipush X dX0_init_32 (v := 12) (by decide) ?_
  obtain ⟨q8, w⟩ := w
  refine r_newa X dX0_init_34 (t := 2) (N := 12) (by decide) rfl ar_long (by decide) (by decide) (by decide) q8.1 q8.2 ?_
  have hk : (((((kc + 1) + m1) + 1) + 1) + 1) ≤ mc ∧ (((((ks + 7) + n1) + 12) + 12) + 12) ≤ ms := q8
  obtain ⟨h9, eh9, w⟩ := w
  obtain ⟨fh9, ch9, lh9, rh9⟩ := pF_s eh9
  subst rh9
  refine r_putF X dX0_init_36 fw_X0_26 rfl ch9 lh9 rfl rfl ?_
  exact r_vret X dX0_init_39 rfl w hk.1 hk.2

set_option maxRecDepth 10000 in
theorem b_X0_isSo_0 {g : GG} {K : KX} {D mc ms : Nat} {Pr : Option Value → Hp → Prop} {Pt : String → Hp → Prop} {kc ks : Nat} (hg : GOK g) (hD : 8 ≤ D) (hk : kc ≤ mc ∧ ks ≤ ms) (X : CB g K cX0_isSo 6 yX0_isSo (some (.boolean)) []) (l0 : Nat) (l1 : Nat) (l2 : Nat) (l3 : Int32) (h : Hp)
    (w : (∃ fs0, oF h l2 7 = some fs0 ∧ (∃ d0 P0 E0 m0 n0, CT g d0 yX7_lastDay (wsC yX7_lastDay cX7_lastDay 3 (some (.int))) [.ref l2] h m0 n0 P0 E0 ∧ (d0 + 1 ≤ D ∧ kc + m0 ≤ mc ∧ ks + n0 ≤ ms) ∧ (∀ E h', E0 E h' → Pt E h') ∧ (∀ v h0, P0 v h0 → ∃ v2, v = some (.int v2) ∧ VB g K 6 D mc ms Pr Pt ((kc + m0)) ((ks + n0)) 13 [some (.ref l0), some (.ref l1), some (.ref l2), some (.int l3), some (.int ((if v2 < l3 then l3 else v2))), some (.int ((0 : Int32)))] [] h0)))) : VB g K 6 D mc ms Pr Pt kc ks 0 [some (.ref l0), some (.ref l1), some (.ref l2), some (.int l3), none, none] [] h := by
  obtain ⟨p, e, s, m, args, below, meth, c⟩ := K
  have X : CX g p s m args meth c cX0_isSo 6 yX0_isSo (some (.boolean)) [] := X
  have hz := hg s X.gk.z
  show VV g p e (rmm D mc ms) s m args below meth c 6 (QQ g below args s mc ms Pr Pt) kc ks 0 [some (.ref l0), some (.ref l1), some (.ref l2), some (.int l3), none, none] [] h
  refine r_aload_n X dX0_isSo_0 rfl ?_
  obtain ⟨fs0, es0, w⟩ := w
  obtain ⟨d0, P0, E0, m0, n0, ct0, w⟩ := w
  obtain ⟨⟨x1, x2, x3⟩, w⟩ := w
  obtain ⟨x4, w⟩ := w
  refine r_callV X (As := []) dX0_isSo_1 mk_X7_lastDay ⟨ml_X0_75, im_X7_lastDay, se_X7_lastDay⟩ (oF_s es0) (ci_X7).1 rfl rfl rfl (by simp [Value.category]) ⟨x1, by show 60 * (d0 + 1) + 200 ≤ 60 * D + 200; omega⟩ ⟨x2, x3⟩ ct0 x4 (fun _ z => nomatch z) (fun _ => ⟨x2, x3⟩) (fun v h0 w1 => ?_)
  have w := w v h0 w1
  have hk : kc + m0 ≤ mc ∧ ks + n0 ≤ ms := ⟨x2, x3⟩
  obtain ⟨v2, rfl, w⟩ := w
  refine r_iload_n X dX0_isSo_4 rfl ?_
  refine r_mmax X dX0_isSo_5 ma_X0_81 (by refine ⟨?_, ?_, ?_, ?_⟩ <;> simp [rmm, Value.category] <;> omega) ?_
  refine r_istore X dX0_isSo_8 (by decide) rfl ?_
  refine r_iconst X dX0_isSo_10 (v := 0) (by decide) ?_
  refine r_istore X dX0_isSo_11 (by decide) rfl ?_
  refine VB_wk (ls' := [some (.ref l0), some (.ref l1), some (.ref l2), some (.int l3), some (.int ((if v2 < l3 then l3 else v2))), some (.int ((0 : Int32)))]) ?_ w
  exact (And.intro rfl (And.intro rfl (And.intro rfl (And.intro rfl (And.intro rfl (And.intro rfl trivial))))))

set_option maxRecDepth 10000 in
theorem b_X0_isSo_13 {g : GG} {K : KX} {D mc ms : Nat} {Pr : Option Value → Hp → Prop} {Pt : String → Hp → Prop} {kc ks : Nat} (hg : GOK g) (hD : 8 ≤ D) (hk : kc ≤ mc ∧ ks ≤ ms) (X : CB g K cX0_isSo 6 yX0_isSo (some (.boolean)) []) (l0 : Nat) (l1 : Nat) (l2 : Nat) (l3 : Int32) (l4 : Int32) (l5 : Int32) (h : Hp)
    (w : ((l4 < l5 → (isB ((1 : Int32)) ∧ Pr (some (.int ((1 : Int32)))) h)) ∧ (¬ l4 < l5 → (∃ v1, gN h l0 0 2 = some v1 ∧ (∃ fs1, oF h l2 7 = some fs1 ∧ (∃ d1 P1 E1 m1 n1, CT g d1 yX7_isSo (wsC yX7_isSo cX7_isSo 4 (some (.boolean))) [.ref l2, .ref v1, .int l5] h m1 n1 P1 E1 ∧ (d1 + 1 ≤ D ∧ kc + m1 ≤ mc ∧ ks + n1 ≤ ms) ∧ (∀ E h', E1 E h' → Pt E h') ∧ (∀ v h1, P1 v h1 → ∃ v3, v = some (.int v3) ∧ ((¬ v3 = 0 → ((¬ l5 = l3 → VB g K 6 D mc ms Pr Pt ((kc + m1)) ((ks + n1)) 59 [some (.ref l0), some (.ref l1), some (.ref l2), some (.int l3), some (.int l4), some (.int l5)] [] h1) ∧ (l5 = l3 → (∃ v4, gN h1 l0 0 2 = some v4 ∧ (∃ v5, gN h1 v4 2 2 = some v5 ∧ (∃ v6, gN h1 l0 0 3 = some v6 ∧ (∃ h7, cpA h1 v5 ((0 : Int32)) v6 ((0 : Int32)) ((12 : Int32)) = some h7 ∧ VB g K 6 D mc ms Pr Pt ((kc + m1)) ((ks + n1)) 59 [some (.ref l0), some (.ref l1), some (.ref l2), some (.int l3), some (.int l4), some (.int l5)] [] h7))))))) ∧ (v3 = 0 → (isB ((0 : Int32)) ∧ Pr (some (.int ((0 : Int32)))) h1)))))))))) : VB g K 6 D mc ms Pr Pt kc ks 13 [some (.ref l0), some (.ref l1), some (.ref l2), some (.int l3), some (.int l4), some (.int l5)] [] h := by
  obtain ⟨p, e, s, m, args, below, meth, c⟩ := K
  have X : CX g p s m args meth c cX0_isSo 6 yX0_isSo (some (.boolean)) [] := X
  have hz := hg s X.gk.z
  show VV g p e (rmm D mc ms) s m args below meth c 6 (QQ g below args s mc ms Pr Pt) kc ks 13 [some (.ref l0), some (.ref l1), some (.ref l2), some (.int l3), some (.int l4), some (.int l5)] [] h
  refine r_iload X dX0_isSo_13 rfl ?_
  refine r_iload X dX0_isSo_15 rfl ?_
  refine r_icmp_gt X dX0_isSo_17 (tgt := 80) (by decide) (fun q => ?_) (fun q => ?_)
  · have w := w.1 q
    refine r_iconst X dX0_isSo_80 (v := 1) (by decide) ?_
    exact r_zret X dX0_isSo_81 rfl (isB_n w.1) w.2 hk.1 hk.2
  · have w := w.2 q
    refine r_aload_n X dX0_isSo_20 rfl ?_
    refine r_aload_n X dX0_isSo_21 rfl ?_
    obtain ⟨v1, ev1, w⟩ := w
    obtain ⟨fv1, cv1, qv1⟩ := gN_s ev1
    refine r_getf X dX0_isSo_22 fl_X0_12 cv1 qv1 ?_
    refine r_iload X dX0_isSo_25 rfl ?_
    obtain ⟨fs1, es1, w⟩ := w
    obtain ⟨d1, P1, E1, m1, n1, ct1, w⟩ := w
    obtain ⟨⟨x1, x2, x3⟩, w⟩ := w
    obtain ⟨x4, w⟩ := w
    refine r_callV X (As := [.ref v1, .int l5]) dX0_isSo_27 mk_X7_isSo ⟨ml_X0_84, im_X7_isSo, se_X7_isSo⟩ (oF_s es1) (ci_X7).1 rfl rfl rfl (by simp [Value.category]) ⟨x1, by show 60 * (d1 + 1) + 200 ≤ 60 * D + 200; omega⟩ ⟨x2, x3⟩ ct1 x4 (fun _ z => nomatch z) (fun _ => ⟨x2, x3⟩) (fun v h1 w1 => ?_)
    have w := w v h1 w1
    have hk : kc + m1 ≤ mc ∧ ks + n1 ≤ ms := ⟨x2, x3⟩
    obtain ⟨v3, rfl, w⟩ := w
    refine r_if_ne X dX0_isSo_30 (tgt := 35) (by decide) (fun q => ?_) (fun q => ?_)
    · have w := w.1 q
      refine r_iload X dX0_isSo_35 rfl ?_
      refine r_iload_n X dX0_isSo_37 rfl ?_
      refine r_icmp_ne X dX0_isSo_38 (tgt := 59) (by decide) (fun q => ?_) (fun q => ?_)
      · have w := w.1 q
        refine VB_wk (ls' := [some (.ref l0), some (.ref l1), some (.ref l2), some (.int l3), some (.int l4), some (.int l5)]) ?_ w
        exact (And.intro rfl (And.intro rfl (And.intro rfl (And.intro rfl (And.intro rfl (And.intro rfl trivial))))))
      · have w := w.2 q
        refine r_aload_n X dX0_isSo_41 rfl ?_
        obtain ⟨v4, ev4, w⟩ := w
        obtain ⟨fv4, cv4, qv4⟩ := gN_s ev4
        refine r_getf X dX0_isSo_42 fl_X0_12 cv4 qv4 ?_
        obtain ⟨v5, ev5, w⟩ := w
        obtain ⟨fv5, cv5, qv5⟩ := gN_s ev5
        refine r_getf X dX0_isSo_45 fl_X0_58 cv5 qv5 ?_
        refine r_iconst X dX0_isSo_48 (v := 0) (by decide) ?_
        refine r_aload_n X dX0_isSo_49 rfl ?_
        obtain ⟨v6, ev6, w⟩ := w
        obtain ⟨fv6, cv6, qv6⟩ := gN_s ev6
        refine r_getf X dX0_isSo_50 fl_X0_18 cv6 qv6 ?_
        refine r_iconst X dX0_isSo_53 (v := 0) (by decide) ?_
        refine r_bipush X dX0_isSo_54 (v := 12) (by decide) ?_
        obtain ⟨h7, eh7, w⟩ := w
        obtain ⟨nh7, fh7, mh7, kh7, x1, x2, x3, x4, x5, x6, x7, rh7⟩ := cpA_s eh7
        subst rh7
        refine r_copy X dX0_isSo_56 ac_X0_87 x1 x2 x3 x4 x5 x6 x7 (by refine ⟨?_, ?_⟩ <;> simp [rmm, Value.category, nativeFrameWords] <;> omega) ?_
        refine VB_wk (ls' := [some (.ref l0), some (.ref l1), some (.ref l2), some (.int l3), some (.int l4), some (.int l5)]) ?_ w
        exact (And.intro rfl (And.intro rfl (And.intro rfl (And.intro rfl (And.intro rfl (And.intro rfl trivial))))))
    · have w := w.2 q
      refine r_iconst X dX0_isSo_33 (v := 0) (by decide) ?_
      exact r_zret X dX0_isSo_34 rfl (isB_n w.1) w.2 hk.1 hk.2

set_option maxRecDepth 10000 in
theorem b_X0_isSo_59 {g : GG} {K : KX} {D mc ms : Nat} {Pr : Option Value → Hp → Prop} {Pt : String → Hp → Prop} {kc ks : Nat} (hg : GOK g) (hD : 8 ≤ D) (hk : kc ≤ mc ∧ ks ≤ ms) (X : CB g K cX0_isSo 6 yX0_isSo (some (.boolean)) []) (l0 : Nat) (l1 : Nat) (l2 : Nat) (l3 : Int32) (l4 : Int32) (l5 : Int32) (h : Hp)
    (w : ((l4 ≤ l5 → VB g K 6 D mc ms Pr Pt kc ks 74 [some (.ref l0), some (.ref l1), some (.ref l2), some (.int l3), some (.int l4), some (.int l5)] [] h) ∧ (¬ l4 ≤ l5 → (∃ v1, gN h l0 0 2 = some v1 ∧ (∃ fs1, oF h v1 2 = some fs1 ∧ (∃ d1 P1 E1 m1 n1, CT g d1 yX2_passDay (wsC yX2_passDay cX2_passDay 3 none) [.ref v1, .ref l1] h m1 n1 P1 E1 ∧ (d1 + 1 ≤ D ∧ kc + m1 ≤ mc ∧ ks + n1 ≤ ms) ∧ (∀ E h', E1 E h' → Pt E h') ∧ (∀ v h1, P1 v h1 → v = none ∧ VB g K 6 D mc ms Pr Pt ((kc + m1)) ((ks + n1)) 74 [some (.ref l0), some (.ref l1), some (.ref l2), some (.int l3), some (.int l4), some (.int l5)] [] h1))))))) : VB g K 6 D mc ms Pr Pt kc ks 59 [some (.ref l0), some (.ref l1), some (.ref l2), some (.int l3), some (.int l4), some (.int l5)] [] h := by
  obtain ⟨p, e, s, m, args, below, meth, c⟩ := K
  have X : CX g p s m args meth c cX0_isSo 6 yX0_isSo (some (.boolean)) [] := X
  have hz := hg s X.gk.z
  show VV g p e (rmm D mc ms) s m args below meth c 6 (QQ g below args s mc ms Pr Pt) kc ks 59 [some (.ref l0), some (.ref l1), some (.ref l2), some (.int l3), some (.int l4), some (.int l5)] [] h
  refine r_iload X dX0_isSo_59 rfl ?_
  refine r_iload X dX0_isSo_61 rfl ?_
  refine r_icmp_ge X dX0_isSo_63 (tgt := 74) (by decide) (fun q => ?_) (fun q => ?_)
  · have w := w.1 q
    refine VB_wk (ls' := [some (.ref l0), some (.ref l1), some (.ref l2), some (.int l3), some (.int l4), some (.int l5)]) ?_ w
    exact (And.intro rfl (And.intro rfl (And.intro rfl (And.intro rfl (And.intro rfl (And.intro rfl trivial))))))
  · have w := w.2 q
    refine r_aload_n X dX0_isSo_66 rfl ?_
    obtain ⟨v1, ev1, w⟩ := w
    obtain ⟨fv1, cv1, qv1⟩ := gN_s ev1
    refine r_getf X dX0_isSo_67 fl_X0_12 cv1 qv1 ?_
    refine r_aload_n X dX0_isSo_70 rfl ?_
    obtain ⟨fs1, es1, w⟩ := w
    obtain ⟨d1, P1, E1, m1, n1, ct1, w⟩ := w
    obtain ⟨⟨x1, x2, x3⟩, w⟩ := w
    obtain ⟨x4, w⟩ := w
    refine r_callV X (As := [.ref l1]) dX0_isSo_71 mk_X2_passDay ⟨ml_X0_93, im_X2_passDay, se_X2_passDay⟩ (oF_s es1) (ci_X2).1 rfl rfl rfl (by simp [Value.category]) ⟨x1, by show 60 * (d1 + 1) + 200 ≤ 60 * D + 200; omega⟩ ⟨x2, x3⟩ ct1 x4 (fun _ z => nomatch z) (fun _ => ⟨x2, x3⟩) (fun v h1 w1 => ?_)
    have w := w v h1 w1
    have hk : kc + m1 ≤ mc ∧ ks + n1 ≤ ms := ⟨x2, x3⟩
    obtain ⟨rfl, w⟩ := w
    refine VB_wk (ls' := [some (.ref l0), some (.ref l1), some (.ref l2), some (.int l3), some (.int l4), some (.int l5)]) ?_ w
    exact (And.intro rfl (And.intro rfl (And.intro rfl (And.intro rfl (And.intro rfl (And.intro rfl trivial))))))

set_option maxRecDepth 10000 in
theorem b_X0_isSo_74 {g : GG} {K : KX} {D mc ms : Nat} {Pr : Option Value → Hp → Prop} {Pt : String → Hp → Prop} {kc ks : Nat} (hg : GOK g) (hD : 8 ≤ D) (hk : kc ≤ mc ∧ ks ≤ ms) (X : CB g K cX0_isSo 6 yX0_isSo (some (.boolean)) []) (l0 : Nat) (l1 : Nat) (l2 : Nat) (l3 : Int32) (l4 : Int32) (l5 : Int32) (h : Hp)
    (w : VB g K 6 D mc ms Pr Pt kc ks 13 [some (.ref l0), some (.ref l1), some (.ref l2), some (.int l3), some (.int l4), some (.int ((l5 + 1)))] [] h) : VB g K 6 D mc ms Pr Pt kc ks 74 [some (.ref l0), some (.ref l1), some (.ref l2), some (.int l3), some (.int l4), some (.int l5)] [] h := by
  obtain ⟨p, e, s, m, args, below, meth, c⟩ := K
  have X : CX g p s m args meth c cX0_isSo 6 yX0_isSo (some (.boolean)) [] := X
  have hz := hg s X.gk.z
  show VV g p e (rmm D mc ms) s m args below meth c 6 (QQ g below args s mc ms Pr Pt) kc ks 74 [some (.ref l0), some (.ref l1), some (.ref l2), some (.int l3), some (.int l4), some (.int l5)] [] h
  refine r_iinc X dX0_isSo_74 rfl (v := (l5 + 1)) rfl (by decide) rfl ?_
  refine r_goto X dX0_isSo_77 (tgt := 13) (by decide) ?_
  refine VB_wk (ls' := [some (.ref l0), some (.ref l1), some (.ref l2), some (.int l3), some (.int l4), some (.int ((l5 + 1)))]) ?_ w
  exact (And.intro rfl (And.intro rfl (And.intro rfl (And.intro rfl (And.intro rfl (And.intro rfl trivial))))))

set_option maxRecDepth 10000 in
theorem b_X0_isSoWithout_0 {g : GG} {K : KX} {D mc ms : Nat} {Pr : Option Value → Hp → Prop} {Pt : String → Hp → Prop} {kc ks : Nat} (hg : GOK g) (hD : 8 ≤ D) (hk : kc ≤ mc ∧ ks ≤ ms) (X : CB g K cX0_isSoWithout 3 yX0_isSoWithout (some (.boolean)) []) (l0 : Nat) (l1 : Nat) (l2 : Nat) (h : Hp)
    (w : (∃ v1, gN h l0 0 2 = some v1 ∧ (∃ v2, gN h l2 3 0 = some v2 ∧ (∃ fs2, oF h v1 2 = some fs2 ∧ (∃ d2 P2 E2 m2 n2, CT g d2 yX2_copyFrom (wsC yX2_copyFrom cX2_copyFrom 2 none) [.ref v1, .ref v2] h m2 n2 P2 E2 ∧ (d2 + 1 ≤ D ∧ kc + m2 ≤ mc ∧ ks + n2 ≤ ms) ∧ (∀ E h', E2 E h' → Pt E h') ∧ (∀ v h2, P2 v h2 → v = none ∧ (∃ v4, gN h2 l2 3 2 = some v4 ∧ (∃ fs4, oF h2 l0 0 = some fs4 ∧ (∃ d4 P4 E4 m4 n4, CT g d4 yX0_isSo (wsC yX0_isSo cX0_isSo 6 (some (.boolean))) [.ref l0, .ref l1, .ref v4, .int ((0 : Int32))] h2 m4 n4 P4 E4 ∧ (d4 + 1 ≤ D ∧ (kc + m2) + m4 ≤ mc ∧ (ks + n2) + n4 ≤ ms) ∧ (∀ E h', E4 E h' → Pt E h') ∧ (∀ v h4, P4 v h4 → ∃ v6, v = some (.int v6) ∧ (isB v6 ∧ Pr (some (.int v6)) h4))))))))))) : VB g K 3 D mc ms Pr Pt kc ks 0 [some (.ref l0), some (.ref l1), some (.ref l2)] [] h := by
  obtain ⟨p, e, s, m, args, below, meth, c⟩ := K
  have X : CX g p s m args meth c cX0_isSoWithout 3 yX0_isSoWithout (some (.boolean)) [] := X
  have hz := hg s X.gk.z
  show VV g p e (rmm D mc ms) s m args below meth c 3 (QQ g below args s mc ms Pr Pt) kc ks 0 [some (.ref l0), some (.ref l1), some (.ref l2)] [] h
  refine r_aload_n X dX0_isSoWithout_0 rfl ?_
  obtain ⟨v1, ev1, w⟩ := w
  obtain ⟨fv1, cv1, qv1⟩ := gN_s ev1
  refine r_getf X dX0_isSoWithout_1 fl_X0_12 cv1 qv1 ?_
  refine r_aload_n X dX0_isSoWithout_4 rfl ?_
  obtain ⟨v2, ev2, w⟩ := w
  obtain ⟨fv2, cv2, qv2⟩ := gN_s ev2
  refine r_getf X dX0_isSoWithout_5 fl_X0_29 cv2 qv2 ?_
  obtain ⟨fs2, es2, w⟩ := w
  obtain ⟨d2, P2, E2, m2, n2, ct2, w⟩ := w
  obtain ⟨⟨x1, x2, x3⟩, w⟩ := w
  obtain ⟨x4, w⟩ := w
  refine r_callV X (As := [.ref v2]) dX0_isSoWithout_8 mk_X2_copyFrom ⟨ml_X0_34, im_X2_copyFrom, se_X2_copyFrom⟩ (oF_s es2) (ci_X2).1 rfl rfl rfl (by simp [Value.category]) ⟨x1, by show 60 * (d2 + 1) + 200 ≤ 60 * D + 200; omega⟩ ⟨x2, x3⟩ ct2 x4 (fun _ z => nomatch z) (fun _ => ⟨x2, x3⟩) (fun v h2 w1 => ?_)
  have w := w v h2 w1
  have hk : kc + m2 ≤ mc ∧ ks + n2 ≤ ms := ⟨x2, x3⟩
  obtain ⟨rfl, w⟩ := w
  refine r_aload_n X dX0_isSoWithout_11 rfl ?_
  refine r_aload_n X dX0_isSoWithout_12 rfl ?_
  refine r_aload_n X dX0_isSoWithout_13 rfl ?_
  obtain ⟨v4, ev4, w⟩ := w
  obtain ⟨fv4, cv4, qv4⟩ := gN_s ev4
  refine r_getf X dX0_isSoWithout_14 fl_X0_38 cv4 qv4 ?_
  refine r_iconst X dX0_isSoWithout_17 (v := 0) (by decide) ?_
  obtain ⟨fs4, es4, w⟩ := w
  obtain ⟨d4, P4, E4, m4, n4, ct4, w⟩ := w
  obtain ⟨⟨x1, x2, x3⟩, w⟩ := w
  obtain ⟨x4, w⟩ := w
  refine r_callV X (As := [.ref l1, .ref v4, .int ((0 : Int32))]) dX0_isSoWithout_18 mk_X0_isSo ⟨ml_X0_42, im_X0_isSo, se_X0_isSo⟩ (oF_s es4) (ci_X0).1 rfl rfl rfl (by simp [Value.category]) ⟨x1, by show 60 * (d4 + 1) + 200 ≤ 60 * D + 200; omega⟩ ⟨x2, x3⟩ ct4 x4 (fun _ z => nomatch z) (fun _ => ⟨x2, x3⟩) (fun v h4 w1 => ?_)
  have w := w v h4 w1
  have hk : (kc + m2) + m4 ≤ mc ∧ (ks + n2) + n4 ≤ ms := ⟨x2, x3⟩
  obtain ⟨v6, rfl, w⟩ := w
  exact r_zret X dX0_isSoWithout_21 rfl (isB_n w.1) w.2 hk.1 hk.2

set_option maxRecDepth 10000 in
theorem b_X0_mark_0 {g : GG} {K : KX} {D mc ms : Nat} {Pr : Option Value → Hp → Prop} {Pt : String → Hp → Prop} {kc ks : Nat} (hg : GOK g) (hD : 8 ≤ D) (hk : kc ≤ mc ∧ ks ≤ ms) (X : CB g K cX0_mark 3 yX0_mark none []) (l0 : Nat) (l1 : Nat) (h : Hp)
    (w : VB g K 3 D mc ms Pr Pt kc ks 2 [some (.ref l0), some (.ref l1), some (.int ((0 : Int32)))] [] h) : VB g K 3 D mc ms Pr Pt kc ks 0 [some (.ref l0), some (.ref l1), none] [] h := by
  obtain ⟨p, e, s, m, args, below, meth, c⟩ := K
  have X : CX g p s m args meth c cX0_mark 3 yX0_mark none [] := X
  have hz := hg s X.gk.z
  show VV g p e (rmm D mc ms) s m args below meth c 3 (QQ g below args s mc ms Pr Pt) kc ks 0 [some (.ref l0), some (.ref l1), none] [] h
  refine r_iconst X dX0_mark_0 (v := 0) (by decide) ?_
  refine r_istore_n X dX0_mark_1 (by decide) rfl ?_
  refine VB_wk (ls' := [some (.ref l0), some (.ref l1), some (.int ((0 : Int32)))]) ?_ w
  exact (And.intro rfl (And.intro rfl (And.intro rfl trivial)))

set_option maxRecDepth 10000 in
theorem b_X0_mark_2 {g : GG} {K : KX} {D mc ms : Nat} {Pr : Option Value → Hp → Prop} {Pt : String → Hp → Prop} {kc ks : Nat} (hg : GOK g) (hD : 8 ≤ D) (hk : kc ≤ mc ∧ ks ≤ ms) (X : CB g K cX0_mark 3 yX0_mark none []) (l0 : Nat) (l1 : Nat) (l2 : Int32) (h : Hp)
    (w : (∃ v1, gI h l1 9 0 = some v1 ∧ ((v1 ≤ l2 → Pr none h) ∧ (¬ v1 ≤ l2 → (∃ v2, gN h l0 0 3 = some v2 ∧ (∃ v3, aI h 0 v2 l2 = some v3 ∧ (((64 : Int32) ≤ v3 → (∃ v4, gN h l0 0 5 = some v4 ∧ (∃ v5, aJ h v4 l2 = some v5 ∧ (∃ v6, gN h l0 0 3 = some v6 ∧ (∃ v7, aI h 0 v6 l2 = some v7 ∧ (∃ h8, uJ h v4 l2 ((v5 ||| ((1 : Int64) <<< (Int32.toInt64 ((v7 - (64 : Int32))) &&& 63)))) = some h8 ∧ VB g K 3 D mc ms Pr Pt kc ks 61 [some (.ref l0), some (.ref l1), some (.int l2)] [] h8)))))) ∧ (¬ (64 : Int32) ≤ v3 → (∃ v9, gN h l0 0 4 = some v9 ∧ (∃ v10, aJ h v9 l2 = some v10 ∧ (∃ v11, gN h l0 0 3 = some v11 ∧ (∃ v12, aI h 0 v11 l2 = some v12 ∧ (∃ h13, uJ h v9 l2 ((v10 ||| ((1 : Int64) <<< (Int32.toInt64 v12 &&& 63)))) = some h13 ∧ VB g K 3 D mc ms Pr Pt kc ks 61 [some (.ref l0), some (.ref l1), some (.int l2)] [] h13))))))))))))) : VB g K 3 D mc ms Pr Pt kc ks 2 [some (.ref l0), some (.ref l1), some (.int l2)] [] h := by
  obtain ⟨p, e, s, m, args, below, meth, c⟩ := K
  have X : CX g p s m args meth c cX0_mark 3 yX0_mark none [] := X
  have hz := hg s X.gk.z
  show VV g p e (rmm D mc ms) s m args below meth c 3 (QQ g below args s mc ms Pr Pt) kc ks 2 [some (.ref l0), some (.ref l1), some (.int l2)] [] h
  refine r_iload_n X dX0_mark_2 rfl ?_
  refine r_aload_n X dX0_mark_3 rfl ?_
  obtain ⟨v1, ev1, w⟩ := w
  obtain ⟨fv1, cv1, qv1⟩ := gI_s ev1
  refine r_getf X dX0_mark_4 fl_X0_53 cv1 qv1 ?_
  refine r_icmp_ge X dX0_mark_7 (tgt := 67) (by decide) (fun q => ?_) (fun q => ?_)
  · have w := w.1 q
    exact r_vret X dX0_mark_67 rfl w hk.1 hk.2
  · have w := w.2 q
    refine r_aload_n X dX0_mark_10 rfl ?_
    obtain ⟨v2, ev2, w⟩ := w
    obtain ⟨fv2, cv2, qv2⟩ := gN_s ev2
    refine r_getf X dX0_mark_11 fl_X0_18 cv2 qv2 ?_
    refine r_iload_n X dX0_mark_14 rfl ?_
    obtain ⟨v3, ev3, w⟩ := w
    obtain ⟨nv3, fv3, cv3, iv3, qv3⟩ := aI_s ev3
    refine r_iald X dX0_mark_15 cv3 iv3 ?_
    rw [qv3]
    refine r_bipush X dX0_mark_16 (v := 64) (by decide) ?_
    refine r_icmp_ge X dX0_mark_18 (tgt := 41) (by decide) (fun q => ?_) (fun q => ?_)
    · have w := w.1 q
      refine r_aload_n X dX0_mark_41 rfl ?_
      obtain ⟨v4, ev4, w⟩ := w
      obtain ⟨fv4, cv4, qv4⟩ := gN_s ev4
      refine r_getf X dX0_mark_42 fl_X0_26 cv4 qv4 ?_
      refine r_iload_n X dX0_mark_45 rfl ?_
      refine r_dup2 X dX0_mark_46 rfl rfl ?_
      obtain ⟨v5, ev5, w⟩ := w
      obtain ⟨nv5, fv5, cv5, iv5, qv5⟩ := aJ_s ev5
      refine r_lald X dX0_mark_47 cv5 iv5 ?_
      rw [qv5]
      refine r_lconst X dX0_mark_48 (v := 1) (by decide) ?_
      refine r_aload_n X dX0_mark_49 rfl ?_
      obtain ⟨v6, ev6, w⟩ := w
      obtain ⟨fv6, cv6, qv6⟩ := gN_s ev6
      refine r_getf X dX0_mark_50 fl_X0_18 cv6 qv6 ?_
      refine r_iload_n X dX0_mark_53 rfl ?_
      obtain ⟨v7, ev7, w⟩ := w
      obtain ⟨nv7, fv7, cv7, iv7, qv7⟩ := aI_s ev7
      refine r_iald X dX0_mark_54 cv7 iv7 ?_
      rw [qv7]
      refine r_bipush X dX0_mark_55 (v := 64) (by decide) ?_
      refine r_isub X dX0_mark_57 ?_
      refine r_lshl X dX0_mark_58 ?_
      refine r_lor X dX0_mark_59 ?_
      obtain ⟨h8, eh8, w⟩ := w
      obtain ⟨nh8, fh8, ch8, ih8, rh8⟩ := uJ_s eh8
      subst rh8
      refine r_last X dX0_mark_60 ch8 ih8 ?_
      refine VB_wk (ls' := [some (.ref l0), some (.ref l1), some (.int l2)]) ?_ w
      exact (And.intro rfl (And.intro rfl (And.intro rfl trivial)))
    · have w := w.2 q
      refine r_aload_n X dX0_mark_21 rfl ?_
      obtain ⟨v9, ev9, w⟩ := w
      obtain ⟨fv9, cv9, qv9⟩ := gN_s ev9
      refine r_getf X dX0_mark_22 fl_X0_22 cv9 qv9 ?_
      refine r_iload_n X dX0_mark_25 rfl ?_
      refine r_dup2 X dX0_mark_26 rfl rfl ?_
      obtain ⟨v10, ev10, w⟩ := w
      obtain ⟨nv10, fv10, cv10, iv10, qv10⟩ := aJ_s ev10
      refine r_lald X dX0_mark_27 cv10 iv10 ?_
      rw [qv10]
      refine r_lconst X dX0_mark_28 (v := 1) (by decide) ?_
      refine r_aload_n X dX0_mark_29 rfl ?_
      obtain ⟨v11, ev11, w⟩ := w
      obtain ⟨fv11, cv11, qv11⟩ := gN_s ev11
      refine r_getf X dX0_mark_30 fl_X0_18 cv11 qv11 ?_
      refine r_iload_n X dX0_mark_33 rfl ?_
      obtain ⟨v12, ev12, w⟩ := w
      obtain ⟨nv12, fv12, cv12, iv12, qv12⟩ := aI_s ev12
      refine r_iald X dX0_mark_34 cv12 iv12 ?_
      rw [qv12]
      refine r_lshl X dX0_mark_35 ?_
      refine r_lor X dX0_mark_36 ?_
      obtain ⟨h13, eh13, w⟩ := w
      obtain ⟨nh13, fh13, ch13, ih13, rh13⟩ := uJ_s eh13
      subst rh13
      refine r_last X dX0_mark_37 ch13 ih13 ?_
      refine r_goto X dX0_mark_38 (tgt := 61) (by decide) ?_
      refine VB_wk (ls' := [some (.ref l0), some (.ref l1), some (.int l2)]) ?_ w
      exact (And.intro rfl (And.intro rfl (And.intro rfl trivial)))

set_option maxRecDepth 10000 in
theorem b_X0_mark_61 {g : GG} {K : KX} {D mc ms : Nat} {Pr : Option Value → Hp → Prop} {Pt : String → Hp → Prop} {kc ks : Nat} (hg : GOK g) (hD : 8 ≤ D) (hk : kc ≤ mc ∧ ks ≤ ms) (X : CB g K cX0_mark 3 yX0_mark none []) (l0 : Nat) (l1 : Nat) (l2 : Int32) (h : Hp)
    (w : VB g K 3 D mc ms Pr Pt kc ks 2 [some (.ref l0), some (.ref l1), some (.int ((l2 + 1)))] [] h) : VB g K 3 D mc ms Pr Pt kc ks 61 [some (.ref l0), some (.ref l1), some (.int l2)] [] h := by
  obtain ⟨p, e, s, m, args, below, meth, c⟩ := K
  have X : CX g p s m args meth c cX0_mark 3 yX0_mark none [] := X
  have hz := hg s X.gk.z
  show VV g p e (rmm D mc ms) s m args below meth c 3 (QQ g below args s mc ms Pr Pt) kc ks 61 [some (.ref l0), some (.ref l1), some (.int l2)] [] h
  refine r_iinc X dX0_mark_61 rfl (v := (l2 + 1)) rfl (by decide) rfl ?_
  refine r_goto X dX0_mark_64 (tgt := 2) (by decide) ?_
  refine VB_wk (ls' := [some (.ref l0), some (.ref l1), some (.int ((l2 + 1)))]) ?_ w
  exact (And.intro rfl (And.intro rfl (And.intro rfl trivial)))

set_option maxRecDepth 10000 in
theorem b_X0_unlikeSeams_0 {g : GG} {K : KX} {D mc ms : Nat} {Pr : Option Value → Hp → Prop} {Pt : String → Hp → Prop} {kc ks : Nat} (hg : GOK g) (hD : 8 ≤ D) (hk : kc ≤ mc ∧ ks ≤ ms) (X : CB g K cX0_unlikeSeams 2 yX0_unlikeSeams (some (.int)) []) (l0 : Nat) (l1 : Int32) (h : Hp)
    (w : (∃ v1, gN h l0 0 4 = some v1 ∧ (∃ v2, aJ h v1 l1 = some v2 ∧ (∃ d2 P2 E2 m2 n2, CT g d2 yJ13_bitCount_95d88 (wsC yJ13_bitCount_95d88 cJ13_bitCount_95d88 2 (some (.int))) [.long v2] h m2 n2 P2 E2 ∧ (d2 + 1 ≤ D ∧ kc + m2 ≤ mc ∧ ks + n2 ≤ ms) ∧ (∀ E h', E2 E h' → Pt E h') ∧ (∀ v h2, P2 v h2 → ∃ v4, v = some (.int v4) ∧ (∃ v5, gN h2 l0 0 5 = some v5 ∧ (∃ v6, aJ h2 v5 l1 = some v6 ∧ (∃ d6 P6 E6 m6 n6, CT g d6 yJ13_bitCount_95d88 (wsC yJ13_bitCount_95d88 cJ13_bitCount_95d88 2 (some (.int))) [.long v6] h2 m6 n6 P6 E6 ∧ (d6 + 1 ≤ D ∧ (kc + m2) + m6 ≤ mc ∧ (ks + n2) + n6 ≤ ms) ∧ (∀ E h', E6 E h' → Pt E h') ∧ (∀ v h6, P6 v h6 → ∃ v8, v = some (.int v8) ∧ Pr (some (.int ((v4 + v8)))) h6))))))))) : VB g K 2 D mc ms Pr Pt kc ks 0 [some (.ref l0), some (.int l1)] [] h := by
  obtain ⟨p, e, s, m, args, below, meth, c⟩ := K
  have X : CX g p s m args meth c cX0_unlikeSeams 2 yX0_unlikeSeams (some (.int)) [] := X
  have hz := hg s X.gk.z
  show VV g p e (rmm D mc ms) s m args below meth c 2 (QQ g below args s mc ms Pr Pt) kc ks 0 [some (.ref l0), some (.int l1)] [] h
  refine r_aload_n X dX0_unlikeSeams_0 rfl ?_
  obtain ⟨v1, ev1, w⟩ := w
  obtain ⟨fv1, cv1, qv1⟩ := gN_s ev1
  refine r_getf X dX0_unlikeSeams_1 fl_X0_22 cv1 qv1 ?_
  refine r_iload_n X dX0_unlikeSeams_4 rfl ?_
  obtain ⟨v2, ev2, w⟩ := w
  obtain ⟨nv2, fv2, cv2, iv2, qv2⟩ := aJ_s ev2
  refine r_lald X dX0_unlikeSeams_5 cv2 iv2 ?_
  rw [qv2]
  obtain ⟨d2, P2, E2, m2, n2, ct2, w⟩ := w
  obtain ⟨⟨x1, x2, x3⟩, w⟩ := w
  obtain ⟨x4, w⟩ := w
  refine r_callS X (As := [.long v2]) dX0_unlikeSeams_6 mk_J13_bitCount_95d88 ⟨ml_X0_96, sm_J13_bitCount_95d88⟩ rfl rfl (by simp [Value.category]) ⟨x1, by show 60 * (d2 + 1) + 200 ≤ 60 * D + 200; omega⟩ ⟨x2, x3⟩ ct2 x4 (fun _ z => nomatch z) (fun _ => ⟨x2, x3⟩) (fun v h2 w1 => ?_)
  have w := w v h2 w1
  have hk : kc + m2 ≤ mc ∧ ks + n2 ≤ ms := ⟨x2, x3⟩
  obtain ⟨v4, rfl, w⟩ := w
  refine r_aload_n X dX0_unlikeSeams_9 rfl ?_
  obtain ⟨v5, ev5, w⟩ := w
  obtain ⟨fv5, cv5, qv5⟩ := gN_s ev5
  refine r_getf X dX0_unlikeSeams_10 fl_X0_26 cv5 qv5 ?_
  refine r_iload_n X dX0_unlikeSeams_13 rfl ?_
  obtain ⟨v6, ev6, w⟩ := w
  obtain ⟨nv6, fv6, cv6, iv6, qv6⟩ := aJ_s ev6
  refine r_lald X dX0_unlikeSeams_14 cv6 iv6 ?_
  rw [qv6]
  obtain ⟨d6, P6, E6, m6, n6, ct6, w⟩ := w
  obtain ⟨⟨x1, x2, x3⟩, w⟩ := w
  obtain ⟨x4, w⟩ := w
  refine r_callS X (As := [.long v6]) dX0_unlikeSeams_15 mk_J13_bitCount_95d88 ⟨ml_X0_96, sm_J13_bitCount_95d88⟩ rfl rfl (by simp [Value.category]) ⟨x1, by show 60 * (d6 + 1) + 200 ≤ 60 * D + 200; omega⟩ ⟨x2, x3⟩ ct6 x4 (fun _ z => nomatch z) (fun _ => ⟨x2, x3⟩) (fun v h6 w1 => ?_)
  have w := w v h6 w1
  have hk : (kc + m2) + m6 ≤ mc ∧ (ks + n2) + n6 ≤ ms := ⟨x2, x3⟩
  obtain ⟨v8, rfl, w⟩ := w
  refine r_iadd X dX0_unlikeSeams_18 ?_
  exact r_iret X dX0_unlikeSeams_19 rfl w hk.1 hk.2

set_option maxRecDepth 10000 in
theorem b_X0_weighTears_0 {g : GG} {K : KX} {D mc ms : Nat} {Pr : Option Value → Hp → Prop} {Pt : String → Hp → Prop} {kc ks : Nat} (hg : GOK g) (hD : 8 ≤ D) (hk : kc ≤ mc ∧ ks ≤ ms) (X : CB g K cX0_weighTears 8 yX0_weighTears none []) (l0 : Nat) (l1 : Nat) (l2 : Nat) (l3 : Int32) (h : Hp)
    (w : (∃ h1, pF h l0 0 0 (.int ((0 : Int32))) = some h1 ∧ (∃ h2, pF h1 l0 0 1 (.int ((-1 : Int32))) = some h2 ∧ VB g K 8 D mc ms Pr Pt kc ks 13 [some (.ref l0), some (.ref l1), some (.ref l2), some (.int l3), some (.int ((0 : Int32))), none, none, none] [] h2))) : VB g K 8 D mc ms Pr Pt kc ks 0 [some (.ref l0), some (.ref l1), some (.ref l2), some (.int l3), none, none, none, none] [] h := by
  obtain ⟨p, e, s, m, args, below, meth, c⟩ := K
  have X : CX g p s m args meth c cX0_weighTears 8 yX0_weighTears none [] := X
  have hz := hg s X.gk.z
  show VV g p e (rmm D mc ms) s m args below meth c 8 (QQ g below args s mc ms Pr Pt) kc ks 0 [some (.ref l0), some (.ref l1), some (.ref l2), some (.int l3), none, none, none, none] [] h
  refine r_aload_n X dX0_weighTears_0 rfl ?_
  refine r_iconst X dX0_weighTears_1 (v := 0) (by decide) ?_
  obtain ⟨h1, eh1, w⟩ := w
  obtain ⟨fh1, ch1, lh1, rh1⟩ := pF_s eh1
  subst rh1
  refine r_putf X dX0_weighTears_2 fw_X0_46 ch1 lh1 rfl rfl ?_
  refine r_aload_n X dX0_weighTears_5 rfl ?_
  refine r_iconst X dX0_weighTears_6 (v := -1) (by decide) ?_
  obtain ⟨h2, eh2, w⟩ := w
  obtain ⟨fh2, ch2, lh2, rh2⟩ := pF_s eh2
  subst rh2
  refine r_putf X dX0_weighTears_7 fw_X0_50 ch2 lh2 rfl rfl ?_
  refine r_iconst X dX0_weighTears_10 (v := 0) (by decide) ?_
  refine r_istore X dX0_weighTears_11 (by decide) rfl ?_
  refine VB_wk (ls' := [some (.ref l0), some (.ref l1), some (.ref l2), some (.int l3), some (.int ((0 : Int32))), none, none, none]) ?_ w
  exact (And.intro rfl (And.intro rfl (And.intro rfl (And.intro rfl (And.intro rfl trivial)))))

set_option maxRecDepth 10000 in
theorem b_X0_weighTears_13 {g : GG} {K : KX} {D mc ms : Nat} {Pr : Option Value → Hp → Prop} {Pt : String → Hp → Prop} {kc ks : Nat} (hg : GOK g) (hD : 8 ≤ D) (hk : kc ≤ mc ∧ ks ≤ ms) (X : CB g K cX0_weighTears 8 yX0_weighTears none []) (l0 : Nat) (l1 : Nat) (l2 : Nat) (l3 : Int32) (l4 : Int32) (h : Hp)
    (w : (((12 : Int32) ≤ l4 → VB g K 8 D mc ms Pr Pt kc ks 45 [some (.ref l0), some (.ref l1), some (.ref l2), some (.int l3), some (.int ((0 : Int32))), none, none, none] [] h) ∧ (¬ (12 : Int32) ≤ l4 → (∃ v1, gN h l0 0 4 = some v1 ∧ (∃ h2, uJ h v1 l4 ((0 : Int64)) = some h2 ∧ (∃ v3, gN h2 l0 0 5 = some v3 ∧ (∃ h4, uJ h2 v3 l4 ((0 : Int64)) = some h4 ∧ VB g K 8 D mc ms Pr Pt kc ks 13 [some (.ref l0), some (.ref l1), some (.ref l2), some (.int l3), some (.int ((l4 + 1))), none, none, none] [] h4))))))) : VB g K 8 D mc ms Pr Pt kc ks 13 [some (.ref l0), some (.ref l1), some (.ref l2), some (.int l3), some (.int l4), none, none, none] [] h := by
  obtain ⟨p, e, s, m, args, below, meth, c⟩ := K
  have X : CX g p s m args meth c cX0_weighTears 8 yX0_weighTears none [] := X
  have hz := hg s X.gk.z
  show VV g p e (rmm D mc ms) s m args below meth c 8 (QQ g below args s mc ms Pr Pt) kc ks 13 [some (.ref l0), some (.ref l1), some (.ref l2), some (.int l3), some (.int l4), none, none, none] [] h
  refine r_iload X dX0_weighTears_13 rfl ?_
  refine r_bipush X dX0_weighTears_15 (v := 12) (by decide) ?_
  refine r_icmp_ge X dX0_weighTears_17 (tgt := 42) (by decide) (fun q => ?_) (fun q => ?_)
  · have w := w.1 q
    refine r_iconst X dX0_weighTears_42 (v := 0) (by decide) ?_
    refine r_istore X dX0_weighTears_43 (by decide) rfl ?_
    refine VB_wk (ls' := [some (.ref l0), some (.ref l1), some (.ref l2), some (.int l3), some (.int ((0 : Int32))), none, none, none]) ?_ w
    exact (And.intro rfl (And.intro rfl (And.intro rfl (And.intro rfl (And.intro rfl trivial)))))
  · have w := w.2 q
    refine r_aload_n X dX0_weighTears_20 rfl ?_
    obtain ⟨v1, ev1, w⟩ := w
    obtain ⟨fv1, cv1, qv1⟩ := gN_s ev1
    refine r_getf X dX0_weighTears_21 fl_X0_22 cv1 qv1 ?_
    refine r_iload X dX0_weighTears_24 rfl ?_
    refine r_lconst X dX0_weighTears_26 (v := 0) (by decide) ?_
    obtain ⟨h2, eh2, w⟩ := w
    obtain ⟨nh2, fh2, ch2, ih2, rh2⟩ := uJ_s eh2
    subst rh2
    refine r_last X dX0_weighTears_27 ch2 ih2 ?_
    refine r_aload_n X dX0_weighTears_28 rfl ?_
    obtain ⟨v3, ev3, w⟩ := w
    obtain ⟨fv3, cv3, qv3⟩ := gN_s ev3
    refine r_getf X dX0_weighTears_29 fl_X0_26 cv3 qv3 ?_
    refine r_iload X dX0_weighTears_32 rfl ?_
    refine r_lconst X dX0_weighTears_34 (v := 0) (by decide) ?_
    obtain ⟨h4, eh4, w⟩ := w
    obtain ⟨nh4, fh4, ch4, ih4, rh4⟩ := uJ_s eh4
    subst rh4
    refine r_last X dX0_weighTears_35 ch4 ih4 ?_
    refine r_iinc X dX0_weighTears_36 rfl (v := (l4 + 1)) rfl (by decide) rfl ?_
    refine r_goto X dX0_weighTears_39 (tgt := 13) (by decide) ?_
    refine VB_wk (ls' := [some (.ref l0), some (.ref l1), some (.ref l2), some (.int l3), some (.int ((l4 + 1))), none, none, none]) ?_ w
    exact (And.intro rfl (And.intro rfl (And.intro rfl (And.intro rfl (And.intro rfl trivial)))))

set_option maxRecDepth 10000 in
theorem b_X0_weighTears_45 {g : GG} {K : KX} {D mc ms : Nat} {Pr : Option Value → Hp → Prop} {Pt : String → Hp → Prop} {kc ks : Nat} (hg : GOK g) (hD : 8 ≤ D) (hk : kc ≤ mc ∧ ks ≤ ms) (X : CB g K cX0_weighTears 8 yX0_weighTears none []) (l0 : Nat) (l1 : Nat) (l2 : Nat) (l3 : Int32) (l4 : Int32) (h : Hp)
    (w : (∃ v1, gI h l1 9 0 = some v1 ∧ ((v1 ≤ l4 → Pr none h) ∧ (¬ v1 ≤ l4 → (∃ v2, gN h l2 3 0 = some v2 ∧ (∃ v3, gN h v2 2 2 = some v3 ∧ (∃ v4, aI h 0 v3 l4 = some v4 ∧ VB g K 8 D mc ms Pr Pt kc ks 74 [some (.ref l0), some (.ref l1), some (.ref l2), some (.int l3), some (.int l4), some (.int ((if (50 : Int32) < v4 then (50 : Int32) else v4))), some (.int ((1 : Int32))), none] [] h))))))) : VB g K 8 D mc ms Pr Pt kc ks 45 [some (.ref l0), some (.ref l1), some (.ref l2), some (.int l3), some (.int l4), none, none, none] [] h := by
  obtain ⟨p, e, s, m, args, below, meth, c⟩ := K
  have X : CX g p s m args meth c cX0_weighTears 8 yX0_weighTears none [] := X
  have hz := hg s X.gk.z
  show VV g p e (rmm D mc ms) s m args below meth c 8 (QQ g below args s mc ms Pr Pt) kc ks 45 [some (.ref l0), some (.ref l1), some (.ref l2), some (.int l3), some (.int l4), none, none, none] [] h
  refine r_iload X dX0_weighTears_45 rfl ?_
  refine r_aload_n X dX0_weighTears_47 rfl ?_
  obtain ⟨v1, ev1, w⟩ := w
  obtain ⟨fv1, cv1, qv1⟩ := gI_s ev1
  refine r_getf X dX0_weighTears_48 fl_X0_53 cv1 qv1 ?_
  refine r_icmp_ge X dX0_weighTears_51 (tgt := 191) (by decide) (fun q => ?_) (fun q => ?_)
  · have w := w.1 q
    exact r_vret X dX0_weighTears_191 rfl w hk.1 hk.2
  · have w := w.2 q
    refine r_aload_n X dX0_weighTears_54 rfl ?_
    obtain ⟨v2, ev2, w⟩ := w
    obtain ⟨fv2, cv2, qv2⟩ := gN_s ev2
    refine r_getf X dX0_weighTears_55 fl_X0_29 cv2 qv2 ?_
    obtain ⟨v3, ev3, w⟩ := w
    obtain ⟨fv3, cv3, qv3⟩ := gN_s ev3
    refine r_getf X dX0_weighTears_58 fl_X0_58 cv3 qv3 ?_
    refine r_iload X dX0_weighTears_61 rfl ?_
    obtain ⟨v4, ev4, w⟩ := w
    obtain ⟨nv4, fv4, cv4, iv4, qv4⟩ := aI_s ev4
    refine r_iald X dX0_weighTears_63 cv4 iv4 ?_
    rw [qv4]
    refine r_bipush X dX0_weighTears_64 (v := 50) (by decide) ?_
    refine r_mmin X dX0_weighTears_66 ma_X0_61 (by refine ⟨?_, ?_, ?_, ?_⟩ <;> simp [rmm, Value.category] <;> omega) ?_
    refine r_istore X dX0_weighTears_69 (by decide) rfl ?_
    refine r_iconst X dX0_weighTears_71 (v := 1) (by decide) ?_
    refine r_istore X dX0_weighTears_72 (by decide) rfl ?_
    refine VB_wk (ls' := [some (.ref l0), some (.ref l1), some (.ref l2), some (.int l3), some (.int l4), some (.int ((if (50 : Int32) < v4 then (50 : Int32) else v4))), some (.int ((1 : Int32))), none]) ?_ w
    exact (And.intro rfl (And.intro rfl (And.intro rfl (And.intro rfl (And.intro rfl (And.intro rfl (And.intro rfl trivial)))))))

set_option maxRecDepth 10000 in
theorem b_X0_weighTears_74 {g : GG} {K : KX} {D mc ms : Nat} {Pr : Option Value → Hp → Prop} {Pt : String → Hp → Prop} {kc ks : Nat} (hg : GOK g) (hD : 8 ≤ D) (hk : kc ≤ mc ∧ ks ≤ ms) (X : CB g K cX0_weighTears 8 yX0_weighTears none []) (l0 : Nat) (l1 : Nat) (l2 : Nat) (l3 : Int32) (l4 : Int32) (l5 : Int32) (l6 : Int32) (h : Hp)
    (w : ((l5 < l6 → VB g K 8 D mc ms Pr Pt kc ks 45 [some (.ref l0), some (.ref l1), some (.ref l2), some (.int l3), some (.int ((l4 + 1))), none, none, none] [] h) ∧ (¬ l5 < l6 → (∃ v1, gN h l0 0 2 = some v1 ∧ (∃ v2, gN h l2 3 0 = some v2 ∧ (∃ fs2, oF h v1 2 = some fs2 ∧ (∃ d2 P2 E2 m2 n2, CT g d2 yX2_copyFrom (wsC yX2_copyFrom cX2_copyFrom 2 none) [.ref v1, .ref v2] h m2 n2 P2 E2 ∧ (d2 + 1 ≤ D ∧ kc + m2 ≤ mc ∧ ks + n2 ≤ ms) ∧ (∀ E h', E2 E h' → Pt E h') ∧ (∀ v h2, P2 v h2 → v = none ∧ (∃ v4, gN h2 l0 0 2 = some v4 ∧ (∃ fs4, oF h2 v4 2 = some fs4 ∧ (∃ d4 P4 E4 m4 n4, CT g d4 yX2_tearOff (wsC yX2_tearOff cX2_tearOff 4 none) [.ref v4, .ref l1, .int l4, .int l6] h2 m4 n4 P4 E4 ∧ (d4 + 1 ≤ D ∧ (kc + m2) + m4 ≤ mc ∧ (ks + n2) + n4 ≤ ms) ∧ (∀ E h', E4 E h' → Pt E h') ∧ (∀ v h4, P4 v h4 → v = none ∧ (∃ v6, gN h4 l2 3 2 = some v6 ∧ (∃ fs6, oF h4 l0 0 = some fs6 ∧ (∃ d6 P6 E6 m6 n6, CT g d6 yX0_isSo (wsC yX0_isSo cX0_isSo 6 (some (.boolean))) [.ref l0, .ref l1, .ref v6, .int l3] h4 m6 n6 P6 E6 ∧ (d6 + 1 ≤ D ∧ ((kc + m2) + m4) + m6 ≤ mc ∧ ((ks + n2) + n4) + n6 ≤ ms) ∧ (∀ E h', E6 E h' → Pt E h') ∧ (∀ v h6, P6 v h6 → ∃ v8, v = some (.int v8) ∧ ((v8 = 0 → VB g K 8 D mc ms Pr Pt ((((kc + m2) + m4) + m6)) ((((ks + n2) + n4) + n6)) 179 [some (.ref l0), some (.ref l1), some (.ref l2), some (.int l3), some (.int l4), some (.int l5), some (.int l6), none] [] h6) ∧ (¬ v8 = 0 → ((¬ l6 = l5 → VB g K 8 D mc ms Pr Pt ((((kc + m2) + m4) + m6)) ((((ks + n2) + n4) + n6)) 135 [some (.ref l0), some (.ref l1), some (.ref l2), some (.int l3), some (.int l4), some (.int l5), some (.int l6), none] [.int ((1 : Int32))] h6) ∧ (l6 = l5 → VB g K 8 D mc ms Pr Pt ((((kc + m2) + m4) + m6)) ((((ks + n2) + n4) + n6)) 135 [some (.ref l0), some (.ref l1), some (.ref l2), some (.int l3), some (.int l4), some (.int l5), some (.int l6), none] [.int ((((50 : Int32) - l5) + (1 : Int32)))] h6)))))))))))))))))))) : VB g K 8 D mc ms Pr Pt kc ks 74 [some (.ref l0), some (.ref l1), some (.ref l2), some (.int l3), some (.int l4), some (.int l5), some (.int l6), none] [] h := by
  obtain ⟨p, e, s, m, args, below, meth, c⟩ := K
  have X : CX g p s m args meth c cX0_weighTears 8 yX0_weighTears none [] := X
  have hz := hg s X.gk.z
  show VV g p e (rmm D mc ms) s m args below meth c 8 (QQ g below args s mc ms Pr Pt) kc ks 74 [some (.ref l0), some (.ref l1), some (.ref l2), some (.int l3), some (.int l4), some (.int l5), some (.int l6), none] [] h
  refine r_iload X dX0_weighTears_74 rfl ?_
  refine r_iload X dX0_weighTears_76 rfl ?_
  refine r_icmp_gt X dX0_weighTears_78 (tgt := 185) (by decide) (fun q => ?_) (fun q => ?_)
  · have w := w.1 q
    refine r_iinc X dX0_weighTears_185 rfl (v := (l4 + 1)) rfl (by decide) rfl ?_
    refine r_goto X dX0_weighTears_188 (tgt := 45) (by decide) ?_
    refine VB_wk (ls' := [some (.ref l0), some (.ref l1), some (.ref l2), some (.int l3), some (.int ((l4 + 1))), none, none, none]) ?_ w
    exact (And.intro rfl (And.intro rfl (And.intro rfl (And.intro rfl (And.intro rfl trivial)))))
  · have w := w.2 q
    refine r_aload_n X dX0_weighTears_81 rfl ?_
    obtain ⟨v1, ev1, w⟩ := w
    obtain ⟨fv1, cv1, qv1⟩ := gN_s ev1
    refine r_getf X dX0_weighTears_82 fl_X0_12 cv1 qv1 ?_
    refine r_aload_n X dX0_weighTears_85 rfl ?_
    obtain ⟨v2, ev2, w⟩ := w
    obtain ⟨fv2, cv2, qv2⟩ := gN_s ev2
    refine r_getf X dX0_weighTears_86 fl_X0_29 cv2 qv2 ?_
    obtain ⟨fs2, es2, w⟩ := w
    obtain ⟨d2, P2, E2, m2, n2, ct2, w⟩ := w
    obtain ⟨⟨x1, x2, x3⟩, w⟩ := w
    obtain ⟨x4, w⟩ := w
    refine r_callV X (As := [.ref v2]) dX0_weighTears_89 mk_X2_copyFrom ⟨ml_X0_34, im_X2_copyFrom, se_X2_copyFrom⟩ (oF_s es2) (ci_X2).1 rfl rfl rfl (by simp [Value.category]) ⟨x1, by show 60 * (d2 + 1) + 200 ≤ 60 * D + 200; omega⟩ ⟨x2, x3⟩ ct2 x4 (fun _ z => nomatch z) (fun _ => ⟨x2, x3⟩) (fun v h2 w1 => ?_)
    have w := w v h2 w1
    have hk : kc + m2 ≤ mc ∧ ks + n2 ≤ ms := ⟨x2, x3⟩
    obtain ⟨rfl, w⟩ := w
    refine r_aload_n X dX0_weighTears_92 rfl ?_
    obtain ⟨v4, ev4, w⟩ := w
    obtain ⟨fv4, cv4, qv4⟩ := gN_s ev4
    refine r_getf X dX0_weighTears_93 fl_X0_12 cv4 qv4 ?_
    refine r_aload_n X dX0_weighTears_96 rfl ?_
    refine r_iload X dX0_weighTears_97 rfl ?_
    refine r_iload X dX0_weighTears_99 rfl ?_
    obtain ⟨fs4, es4, w⟩ := w
    obtain ⟨d4, P4, E4, m4, n4, ct4, w⟩ := w
    obtain ⟨⟨x1, x2, x3⟩, w⟩ := w
    obtain ⟨x4, w⟩ := w
    refine r_callV X (As := [.ref l1, .int l4, .int l6]) dX0_weighTears_101 mk_X2_tearOff ⟨ml_X0_67, im_X2_tearOff, se_X2_tearOff⟩ (oF_s es4) (ci_X2).1 rfl rfl rfl (by simp [Value.category]) ⟨x1, by show 60 * (d4 + 1) + 200 ≤ 60 * D + 200; omega⟩ ⟨x2, x3⟩ ct4 x4 (fun _ z => nomatch z) (fun _ => ⟨x2, x3⟩) (fun v h4 w1 => ?_)
    have w := w v h4 w1
    have hk : (kc + m2) + m4 ≤ mc ∧ (ks + n2) + n4 ≤ ms := ⟨x2, x3⟩
    obtain ⟨rfl, w⟩ := w
    refine r_aload_n X dX0_weighTears_104 rfl ?_
    refine r_aload_n X dX0_weighTears_105 rfl ?_
    refine r_aload_n X dX0_weighTears_106 rfl ?_
    obtain ⟨v6, ev6, w⟩ := w
    obtain ⟨fv6, cv6, qv6⟩ := gN_s ev6
    refine r_getf X dX0_weighTears_107 fl_X0_38 cv6 qv6 ?_
    refine r_iload_n X dX0_weighTears_110 rfl ?_
    obtain ⟨fs6, es6, w⟩ := w
    obtain ⟨d6, P6, E6, m6, n6, ct6, w⟩ := w
    obtain ⟨⟨x1, x2, x3⟩, w⟩ := w
    obtain ⟨x4, w⟩ := w
    refine r_callV X (As := [.ref l1, .ref v6, .int l3]) dX0_weighTears_111 mk_X0_isSo ⟨ml_X0_42, im_X0_isSo, se_X0_isSo⟩ (oF_s es6) (ci_X0).1 rfl rfl rfl (by simp [Value.category]) ⟨x1, by show 60 * (d6 + 1) + 200 ≤ 60 * D + 200; omega⟩ ⟨x2, x3⟩ ct6 x4 (fun _ z => nomatch z) (fun _ => ⟨x2, x3⟩) (fun v h6 w1 => ?_)
    have w := w v h6 w1
    have hk : ((kc + m2) + m4) + m6 ≤ mc ∧ ((ks + n2) + n4) + n6 ≤ ms := ⟨x2, x3⟩
    obtain ⟨v8, rfl, w⟩ := w
    refine r_if_eq X dX0_weighTears_114 (tgt := 179) (by decide) (fun q => ?_) (fun q => ?_)
    · have w := w.1 q
      refine VB_wk (ls' := [some (.ref l0), some (.ref l1), some (.ref l2), some (.int l3), some (.int l4), some (.int l5), some (.int l6), none]) ?_ w
      exact (And.intro rfl (And.intro rfl (And.intro rfl (And.intro rfl (And.intro rfl (And.intro rfl (And.intro rfl trivial)))))))
    · have w := w.2 q
      refine r_iload X dX0_weighTears_117 rfl ?_
      refine r_iload X dX0_weighTears_119 rfl ?_
      refine r_icmp_ne X dX0_weighTears_121 (tgt := 134) (by decide) (fun q => ?_) (fun q => ?_)
      · have w := w.1 q
        refine r_iconst X dX0_weighTears_134 (v := 1) (by decide) ?_
        refine VB_wk (ls' := [some (.ref l0), some (.ref l1), some (.ref l2), some (.int l3), some (.int l4), some (.int l5), some (.int l6), none]) ?_ w
        exact (And.intro rfl (And.intro rfl (And.intro rfl (And.intro rfl (And.intro rfl (And.intro rfl (And.intro rfl trivial)))))))
      · have w := w.2 q
        refine r_bipush X dX0_weighTears_124 (v := 50) (by decide) ?_
        refine r_iload X dX0_weighTears_126 rfl ?_
        refine r_isub X dX0_weighTears_128 ?_
        refine r_iconst X dX0_weighTears_129 (v := 1) (by decide) ?_
        refine r_iadd X dX0_weighTears_130 ?_
        refine r_goto X dX0_weighTears_131 (tgt := 135) (by decide) ?_
        refine VB_wk (ls' := [some (.ref l0), some (.ref l1), some (.ref l2), some (.int l3), some (.int l4), some (.int l5), some (.int l6), none]) ?_ w
        exact (And.intro rfl (And.intro rfl (And.intro rfl (And.intro rfl (And.intro rfl (And.intro rfl (And.intro rfl trivial)))))))

set_option maxRecDepth 10000 in
theorem b_X0_weighTears_135 {g : GG} {K : KX} {D mc ms : Nat} {Pr : Option Value → Hp → Prop} {Pt : String → Hp → Prop} {kc ks : Nat} (hg : GOK g) (hD : 8 ≤ D) (hk : kc ≤ mc ∧ ks ≤ ms) (X : CB g K cX0_weighTears 8 yX0_weighTears none []) (l0 : Nat) (l1 : Nat) (l2 : Nat) (l3 : Int32) (l4 : Int32) (l5 : Int32) (l6 : Int32) (s0 : Int32) (h : Hp)
    (w : (∃ v1, gI h l0 0 0 = some v1 ∧ ((¬ v1 = 0 → (∃ v2, gI h l0 0 1 = some v2 ∧ VB g K 8 D mc ms Pr Pt kc ks 160 [some (.ref l0), some (.ref l1), some (.ref l2), some (.int l3), some (.int l4), some (.int l5), some (.int l6), some (.int s0)] [.int v2, .ref l0] h)) ∧ (v1 = 0 → VB g K 8 D mc ms Pr Pt kc ks 160 [some (.ref l0), some (.ref l1), some (.ref l2), some (.int l3), some (.int l4), some (.int l5), some (.int l6), some (.int s0)] [.int ((((100 : Int32) * l4) + l6)), .ref l0] h)))) : VB g K 8 D mc ms Pr Pt kc ks 135 [some (.ref l0), some (.ref l1), some (.ref l2), some (.int l3), some (.int l4), some (.int l5), some (.int l6), none] [.int s0] h := by
  obtain ⟨p, e, s, m, args, below, meth, c⟩ := K
  have X : CX g p s m args meth c cX0_weighTears 8 yX0_weighTears none [] := X
  have hz := hg s X.gk.z
  show VV g p e (rmm D mc ms) s m args below meth c 8 (QQ g below args s mc ms Pr Pt) kc ks 135 [some (.ref l0), some (.ref l1), some (.ref l2), some (.int l3), some (.int l4), some (.int l5), some (.int l6), none] [.int s0] h
  refine r_istore X dX0_weighTears_135 (by decide) rfl ?_
  refine r_aload_n X dX0_weighTears_137 rfl ?_
  refine r_aload_n X dX0_weighTears_138 rfl ?_
  obtain ⟨v1, ev1, w⟩ := w
  obtain ⟨fv1, cv1, qv1⟩ := gI_s ev1
  refine r_getf X dX0_weighTears_139 fl_X0_46 cv1 qv1 ?_
  refine r_if_ne X dX0_weighTears_142 (tgt := 156) (by decide) (fun q => ?_) (fun q => ?_)
  · have w := w.1 q
    refine r_aload_n X dX0_weighTears_156 rfl ?_
    obtain ⟨v2, ev2, w⟩ := w
    obtain ⟨fv2, cv2, qv2⟩ := gI_s ev2
    refine r_getf X dX0_weighTears_157 fl_X0_50 cv2 qv2 ?_
    refine VB_wk (ls' := [some (.ref l0), some (.ref l1), some (.ref l2), some (.int l3), some (.int l4), some (.int l5), some (.int l6), some (.int s0)]) ?_ w
    exact (And.intro rfl (And.intro rfl (And.intro rfl (And.intro rfl (And.intro rfl (And.intro rfl (And.intro rfl (And.intro rfl trivial))))))))
  · have w := w.2 q
    refine r_bipush X dX0_weighTears_145 (v := 100) (by decide) ?_
    refine r_iload X dX0_weighTears_147 rfl ?_
    refine r_imul X dX0_weighTears_149 ?_
    refine r_iload X dX0_weighTears_150 rfl ?_
    refine r_iadd X dX0_weighTears_152 ?_
    refine r_goto X dX0_weighTears_153 (tgt := 160) (by decide) ?_
    refine VB_wk (ls' := [some (.ref l0), some (.ref l1), some (.ref l2), some (.int l3), some (.int l4), some (.int l5), some (.int l6), some (.int s0)]) ?_ w
    exact (And.intro rfl (And.intro rfl (And.intro rfl (And.intro rfl (And.intro rfl (And.intro rfl (And.intro rfl (And.intro rfl trivial))))))))

set_option maxRecDepth 10000 in
theorem b_X0_weighTears_160 {g : GG} {K : KX} {D mc ms : Nat} {Pr : Option Value → Hp → Prop} {Pt : String → Hp → Prop} {kc ks : Nat} (hg : GOK g) (hD : 8 ≤ D) (hk : kc ≤ mc ∧ ks ≤ ms) (X : CB g K cX0_weighTears 8 yX0_weighTears none []) (l0 : Nat) (l1 : Nat) (l2 : Nat) (l3 : Int32) (l4 : Int32) (l5 : Int32) (l6 : Int32) (l7 : Int32) (s0 : Nat) (s1 : Int32) (h : Hp)
    (w : (∃ h1, pF h s0 0 1 (.int s1) = some h1 ∧ (∃ v2, gI h1 l0 0 0 = some v2 ∧ (∃ h3, pF h1 l0 0 0 (.int ((v2 + l7))) = some h3 ∧ (∃ fs3, oF h3 l0 0 = some fs3 ∧ (∃ d3 P3 E3 m3 n3, CT g d3 yX0_mark (wsC yX0_mark cX0_mark 3 none) [.ref l0, .ref l1] h3 m3 n3 P3 E3 ∧ (d3 + 1 ≤ D ∧ kc + m3 ≤ mc ∧ ks + n3 ≤ ms) ∧ (∀ E h', E3 E h' → Pt E h') ∧ (∀ v h3, P3 v h3 → v = none ∧ VB g K 8 D mc ms Pr Pt ((kc + m3)) ((ks + n3)) 179 [some (.ref l0), some (.ref l1), some (.ref l2), some (.int l3), some (.int l4), some (.int l5), some (.int l6), none] [] h3))))))) : VB g K 8 D mc ms Pr Pt kc ks 160 [some (.ref l0), some (.ref l1), some (.ref l2), some (.int l3), some (.int l4), some (.int l5), some (.int l6), some (.int l7)] [.int s1, .ref s0] h := by
  obtain ⟨p, e, s, m, args, below, meth, c⟩ := K
  have X : CX g p s m args meth c cX0_weighTears 8 yX0_weighTears none [] := X
  have hz := hg s X.gk.z
  show VV g p e (rmm D mc ms) s m args below meth c 8 (QQ g below args s mc ms Pr Pt) kc ks 160 [some (.ref l0), some (.ref l1), some (.ref l2), some (.int l3), some (.int l4), some (.int l5), some (.int l6), some (.int l7)] [.int s1, .ref s0] h
  obtain ⟨h1, eh1, w⟩ := w
  obtain ⟨fh1, ch1, lh1, rh1⟩ := pF_s eh1
  subst rh1
  refine r_putf X dX0_weighTears_160 fw_X0_50 ch1 lh1 rfl rfl ?_
  refine r_aload_n X dX0_weighTears_163 rfl ?_
  refine r_dup X dX0_weighTears_164 rfl ?_
  obtain ⟨v2, ev2, w⟩ := w
  obtain ⟨fv2, cv2, qv2⟩ := gI_s ev2
  refine r_getf X dX0_weighTears_165 fl_X0_46 cv2 qv2 ?_
  refine r_iload X dX0_weighTears_168 rfl ?_
  refine r_iadd X dX0_weighTears_170 ?_
  obtain ⟨h3, eh3, w⟩ := w
  obtain ⟨fh3, ch3, lh3, rh3⟩ := pF_s eh3
  subst rh3
  refine r_putf X dX0_weighTears_171 fw_X0_46 ch3 lh3 rfl rfl ?_
  refine r_aload_n X dX0_weighTears_174 rfl ?_
  refine r_aload_n X dX0_weighTears_175 rfl ?_
  obtain ⟨fs3, es3, w⟩ := w
  obtain ⟨d3, P3, E3, m3, n3, ct3, w⟩ := w
  obtain ⟨⟨x1, x2, x3⟩, w⟩ := w
  obtain ⟨x4, w⟩ := w
  refine r_callV X (As := [.ref l1]) dX0_weighTears_176 mk_X0_mark ⟨ml_X0_71, im_X0_mark, se_X0_mark⟩ (oF_s es3) (ci_X0).1 rfl rfl rfl (by simp [Value.category]) ⟨x1, by show 60 * (d3 + 1) + 200 ≤ 60 * D + 200; omega⟩ ⟨x2, x3⟩ ct3 x4 (fun _ z => nomatch z) (fun _ => ⟨x2, x3⟩) (fun v h3 w1 => ?_)
  have w := w v h3 w1
  have hk : kc + m3 ≤ mc ∧ ks + n3 ≤ ms := ⟨x2, x3⟩
  obtain ⟨rfl, w⟩ := w
  refine VB_wk (ls' := [some (.ref l0), some (.ref l1), some (.ref l2), some (.int l3), some (.int l4), some (.int l5), some (.int l6), none]) ?_ w
  exact (And.intro rfl (And.intro rfl (And.intro rfl (And.intro rfl (And.intro rfl (And.intro rfl (And.intro rfl trivial)))))))

set_option maxRecDepth 10000 in
theorem b_X0_weighTears_179 {g : GG} {K : KX} {D mc ms : Nat} {Pr : Option Value → Hp → Prop} {Pt : String → Hp → Prop} {kc ks : Nat} (hg : GOK g) (hD : 8 ≤ D) (hk : kc ≤ mc ∧ ks ≤ ms) (X : CB g K cX0_weighTears 8 yX0_weighTears none []) (l0 : Nat) (l1 : Nat) (l2 : Nat) (l3 : Int32) (l4 : Int32) (l5 : Int32) (l6 : Int32) (h : Hp)
    (w : VB g K 8 D mc ms Pr Pt kc ks 74 [some (.ref l0), some (.ref l1), some (.ref l2), some (.int l3), some (.int l4), some (.int l5), some (.int ((l6 + 1))), none] [] h) : VB g K 8 D mc ms Pr Pt kc ks 179 [some (.ref l0), some (.ref l1), some (.ref l2), some (.int l3), some (.int l4), some (.int l5), some (.int l6), none] [] h := by
  obtain ⟨p, e, s, m, args, below, meth, c⟩ := K
  have X : CX g p s m args meth c cX0_weighTears 8 yX0_weighTears none [] := X
  have hz := hg s X.gk.z
  show VV g p e (rmm D mc ms) s m args below meth c 8 (QQ g below args s mc ms Pr Pt) kc ks 179 [some (.ref l0), some (.ref l1), some (.ref l2), some (.int l3), some (.int l4), some (.int l5), some (.int l6), none] [] h
  refine r_iinc X dX0_weighTears_179 rfl (v := (l6 + 1)) rfl (by decide) rfl ?_
  refine r_goto X dX0_weighTears_182 (tgt := 74) (by decide) ?_
  refine VB_wk (ls' := [some (.ref l0), some (.ref l1), some (.ref l2), some (.int l3), some (.int l4), some (.int l5), some (.int ((l6 + 1))), none]) ?_ w
  exact (And.intro rfl (And.intro rfl (And.intro rfl (And.intro rfl (And.intro rfl (And.intro rfl (And.intro rfl trivial)))))))

set_option maxRecDepth 10000 in
theorem b_X1_has_0 {g : GG} {K : KX} {D mc ms : Nat} {Pr : Option Value → Hp → Prop} {Pt : String → Hp → Prop} {kc ks : Nat} (hg : GOK g) (hD : 8 ≤ D) (hk : kc ≤ mc ∧ ks ≤ ms) (X : CB g K cX1_has 4 yX1_has (some (.boolean)) []) (l0 : Nat) (l1 : Int32) (l2 : Int32) (h : Hp)
    (w : VB g K 4 D mc ms Pr Pt kc ks 2 [some (.ref l0), some (.int l1), some (.int l2), some (.int ((0 : Int32)))] [] h) : VB g K 4 D mc ms Pr Pt kc ks 0 [some (.ref l0), some (.int l1), some (.int l2), none] [] h := by
  obtain ⟨p, e, s, m, args, below, meth, c⟩ := K
  have X : CX g p s m args meth c cX1_has 4 yX1_has (some (.boolean)) [] := X
  have hz := hg s X.gk.z
  show VV g p e (rmm D mc ms) s m args below meth c 4 (QQ g below args s mc ms Pr Pt) kc ks 0 [some (.ref l0), some (.int l1), some (.int l2), none] [] h
  refine r_iconst X dX1_has_0 (v := 0) (by decide) ?_
  refine r_istore_n X dX1_has_1 (by decide) rfl ?_
  refine VB_wk (ls' := [some (.ref l0), some (.int l1), some (.int l2), some (.int ((0 : Int32)))]) ?_ w
  exact (And.intro rfl (And.intro rfl (And.intro rfl (And.intro rfl trivial))))

set_option maxRecDepth 10000 in
theorem b_X1_has_2 {g : GG} {K : KX} {D mc ms : Nat} {Pr : Option Value → Hp → Prop} {Pt : String → Hp → Prop} {kc ks : Nat} (hg : GOK g) (hD : 8 ≤ D) (hk : kc ≤ mc ∧ ks ≤ ms) (X : CB g K cX1_has 4 yX1_has (some (.boolean)) []) (l0 : Nat) (l1 : Int32) (l2 : Int32) (l3 : Int32) (h : Hp)
    (w : (∃ v1, gI h l0 1 0 = some v1 ∧ ((v1 ≤ l3 → (isB ((0 : Int32)) ∧ Pr (some (.int ((0 : Int32)))) h)) ∧ (¬ v1 ≤ l3 → (∃ v2, gN h l0 1 1 = some v2 ∧ (∃ v3, aI h 0 v2 l3 = some v3 ∧ ((¬ v3 = l1 → VB g K 4 D mc ms Pr Pt kc ks 32 [some (.ref l0), some (.int l1), some (.int l2), some (.int l3)] [] h) ∧ (v3 = l1 → (∃ v4, gN h l0 1 2 = some v4 ∧ (∃ v5, aI h 0 v4 l3 = some v5 ∧ ((¬ v5 = l2 → VB g K 4 D mc ms Pr Pt kc ks 32 [some (.ref l0), some (.int l1), some (.int l2), some (.int l3)] [] h) ∧ (v5 = l2 → (isB ((1 : Int32)) ∧ Pr (some (.int ((1 : Int32)))) h))))))))))))) : VB g K 4 D mc ms Pr Pt kc ks 2 [some (.ref l0), some (.int l1), some (.int l2), some (.int l3)] [] h := by
  obtain ⟨p, e, s, m, args, below, meth, c⟩ := K
  have X : CX g p s m args meth c cX1_has 4 yX1_has (some (.boolean)) [] := X
  have hz := hg s X.gk.z
  show VV g p e (rmm D mc ms) s m args below meth c 4 (QQ g below args s mc ms Pr Pt) kc ks 2 [some (.ref l0), some (.int l1), some (.int l2), some (.int l3)] [] h
  refine r_iload_n X dX1_has_2 rfl ?_
  refine r_aload_n X dX1_has_3 rfl ?_
  obtain ⟨v1, ev1, w⟩ := w
  obtain ⟨fv1, cv1, qv1⟩ := gI_s ev1
  refine r_getf X dX1_has_4 fl_X1_27 cv1 qv1 ?_
  refine r_icmp_ge X dX1_has_7 (tgt := 38) (by decide) (fun q => ?_) (fun q => ?_)
  · have w := w.1 q
    refine r_iconst X dX1_has_38 (v := 0) (by decide) ?_
    exact r_zret X dX1_has_39 rfl (isB_n w.1) w.2 hk.1 hk.2
  · have w := w.2 q
    refine r_aload_n X dX1_has_10 rfl ?_
    obtain ⟨v2, ev2, w⟩ := w
    obtain ⟨fv2, cv2, qv2⟩ := gN_s ev2
    refine r_getf X dX1_has_11 fl_X1_9 cv2 qv2 ?_
    refine r_iload_n X dX1_has_14 rfl ?_
    obtain ⟨v3, ev3, w⟩ := w
    obtain ⟨nv3, fv3, cv3, iv3, qv3⟩ := aI_s ev3
    refine r_iald X dX1_has_15 cv3 iv3 ?_
    rw [qv3]
    refine r_iload_n X dX1_has_16 rfl ?_
    refine r_icmp_ne X dX1_has_17 (tgt := 32) (by decide) (fun q => ?_) (fun q => ?_)
    · have w := w.1 q
      refine VB_wk (ls' := [some (.ref l0), some (.int l1), some (.int l2), some (.int l3)]) ?_ w
      exact (And.intro rfl (And.intro rfl (And.intro rfl (And.intro rfl trivial))))
    · have w := w.2 q
      refine r_aload_n X dX1_has_20 rfl ?_
      obtain ⟨v4, ev4, w⟩ := w
      obtain ⟨fv4, cv4, qv4⟩ := gN_s ev4
      refine r_getf X dX1_has_21 fl_X1_15 cv4 qv4 ?_
      refine r_iload_n X dX1_has_24 rfl ?_
      obtain ⟨v5, ev5, w⟩ := w
      obtain ⟨nv5, fv5, cv5, iv5, qv5⟩ := aI_s ev5
      refine r_iald X dX1_has_25 cv5 iv5 ?_
      rw [qv5]
      refine r_iload_n X dX1_has_26 rfl ?_
      refine r_icmp_ne X dX1_has_27 (tgt := 32) (by decide) (fun q => ?_) (fun q => ?_)
      · have w := w.1 q
        refine VB_wk (ls' := [some (.ref l0), some (.int l1), some (.int l2), some (.int l3)]) ?_ w
        exact (And.intro rfl (And.intro rfl (And.intro rfl (And.intro rfl trivial))))
      · have w := w.2 q
        refine r_iconst X dX1_has_30 (v := 1) (by decide) ?_
        exact r_zret X dX1_has_31 rfl (isB_n w.1) w.2 hk.1 hk.2

set_option maxRecDepth 10000 in
theorem b_X1_has_32 {g : GG} {K : KX} {D mc ms : Nat} {Pr : Option Value → Hp → Prop} {Pt : String → Hp → Prop} {kc ks : Nat} (hg : GOK g) (hD : 8 ≤ D) (hk : kc ≤ mc ∧ ks ≤ ms) (X : CB g K cX1_has 4 yX1_has (some (.boolean)) []) (l0 : Nat) (l1 : Int32) (l2 : Int32) (l3 : Int32) (h : Hp)
    (w : VB g K 4 D mc ms Pr Pt kc ks 2 [some (.ref l0), some (.int l1), some (.int l2), some (.int ((l3 + 1)))] [] h) : VB g K 4 D mc ms Pr Pt kc ks 32 [some (.ref l0), some (.int l1), some (.int l2), some (.int l3)] [] h := by
  obtain ⟨p, e, s, m, args, below, meth, c⟩ := K
  have X : CX g p s m args meth c cX1_has 4 yX1_has (some (.boolean)) [] := X
  have hz := hg s X.gk.z
  show VV g p e (rmm D mc ms) s m args below meth c 4 (QQ g below args s mc ms Pr Pt) kc ks 32 [some (.ref l0), some (.int l1), some (.int l2), some (.int l3)] [] h
  refine r_iinc X dX1_has_32 rfl (v := (l3 + 1)) rfl (by decide) rfl ?_
  refine r_goto X dX1_has_35 (tgt := 2) (by decide) ?_
  refine VB_wk (ls' := [some (.ref l0), some (.int l1), some (.int l2), some (.int ((l3 + 1)))]) ?_ w
  exact (And.intro rfl (And.intro rfl (And.intro rfl (And.intro rfl trivial))))

set_option maxRecDepth 10000 in
theorem b_X1_init_0 {g : GG} {K : KX} {D mc ms : Nat} {Pr : Option Value → Hp → Prop} {Pt : String → Hp → Prop} {kc ks : Nat} (hg : GOK g) (hD : 8 ≤ D) (hk : kc ≤ mc ∧ ks ≤ ms) (X : CB g K cX1_init 1 yX1_init none []) (l0 : Nat) (h : Hp)
    (w : ((kc + 1 ≤ mc ∧ ks + 8 ≤ ms) ∧ (∃ h2, pF ((h ++ [arr0 0 8])) l0 1 1 (.ref ((h).length)) = some h2 ∧ (((kc + 1) + 1 ≤ mc ∧ (ks + 8) + 8 ≤ ms) ∧ (∃ h4, pF ((h2 ++ [arr0 0 8])) l0 1 2 (.ref ((h2).length)) = some h4 ∧ ((((kc + 1) + 1) + 1 ≤ mc ∧ ((ks + 8) + 8) + 9 ≤ ms) ∧ (∃ h6, pF ((h4 ++ [arr0 0 9])) l0 1 3 (.ref ((h4).length)) = some h6 ∧ (((((kc + 1) + 1) + 1) + 1 ≤ mc ∧ (((ks + 8) + 8) + 9) + 10 ≤ ms) ∧ (∃ h8, pF ((h6 ++ [arr0 0 10])) l0 1 4 (.ref ((h6).length)) = some h8 ∧ ((((((kc + 1) + 1) + 1) + 1) + 1 ≤ mc ∧ ((((ks + 8) + 8) + 9) + 10) + 10 ≤ ms) ∧ (∃ h10, pF ((h8 ++ [arr0 0 10])) l0 1 5 (.ref ((h8).length)) = some h10 ∧ Pr none h10))))))))))) : VB g K 1 D mc ms Pr Pt kc ks 0 [some (.ref l0)] [] h := by
  obtain ⟨p, e, s, m, args, below, meth, c⟩ := K
  have X : CX g p s m args meth c cX1_init 1 yX1_init none [] := X
  have hz := hg s X.gk.z
  show VV g p e (rmm D mc ms) s m args below meth c 1 (QQ g below args s mc ms Pr Pt) kc ks 0 [some (.ref l0)] [] h
  refine r_aload_n X dX1_init_0 rfl ?_
  refine r_objInit X dX1_init_1 ob_X1_3 (by show 1 ≤ D; omega) (by simp [rmm, Value.category]) ?_
  refine r_aload_n X dX1_init_4 rfl ?_
  refine r_bipush X dX1_init_5 (v := 8) (by decide) ?_
  obtain ⟨q1, w⟩ := w
  refine r_newa X dX1_init_7 (t := 0) (N := 8) (by decide) rfl ar_int (by decide) (by decide) (by decide) q1.1 q1.2 ?_
  have hk : (kc + 1) ≤ mc ∧ (ks + 8) ≤ ms := q1
  obtain ⟨h2, eh2, w⟩ := w
  obtain ⟨fh2, ch2, lh2, rh2⟩ := pF_s eh2
  subst rh2
  refine r_putF X dX1_init_9 fw_X1_9 rfl ch2 lh2 rfl rfl ?_
  refine r_aload_n X dX1_init_12 rfl ?_
  refine r_bipush X dX1_init_13 (v := 8) (by decide) ?_
  obtain ⟨q3, w⟩ := w
  refine r_newa X dX1_init_15 (t := 0) (N := 8) (by decide) rfl ar_int (by decide) (by decide) (by decide) q3.1 q3.2 ?_
  have hk : ((kc + 1) + 1) ≤ mc ∧ ((ks + 8) + 8) ≤ ms := q3
  obtain ⟨h4, eh4, w⟩ := w
  obtain ⟨fh4, ch4, lh4, rh4⟩ := pF_s eh4
  subst rh4
  refine r_putF X dX1_init_17 fw_X1_15 rfl ch4 lh4 rfl rfl ?_
  refine r_aload_n X dX1_init_20 rfl ?_
  refine r_bipush X dX1_init_21 (v := 9) (by decide) ?_
  obtain ⟨q5, w⟩ := w
  refine r_newa X dX1_init_23 (t := 0) (N := 9) (by decide) rfl ar_int (by decide) (by decide) (by decide) q5.1 q5.2 ?_
  have hk : (((kc + 1) + 1) + 1) ≤ mc ∧ (((ks + 8) + 8) + 9) ≤ ms := q5
  obtain ⟨h6, eh6, w⟩ := w
  obtain ⟨fh6, ch6, lh6, rh6⟩ := pF_s eh6
  subst rh6
  refine r_putF X dX1_init_25 fw_X1_18 rfl ch6 lh6 rfl rfl ?_
  refine r_aload_n X dX1_init_28 rfl ?_
  refine r_bipush X dX1_init_29 (v := 10) (by decide) ?_
  obtain ⟨q7, w⟩ := w
  refine r_newa X dX1_init_31 (t := 0) (N := 10) (by decide) rfl ar_int (by decide) (by decide) (by decide) q7.1 q7.2 ?_
  have hk : ((((kc + 1) + 1) + 1) + 1) ≤ mc ∧ ((((ks + 8) + 8) + 9) + 10) ≤ ms := q7
  obtain ⟨h8, eh8, w⟩ := w
  obtain ⟨fh8, ch8, lh8, rh8⟩ := pF_s eh8
  subst rh8
  refine r_putF X dX1_init_33 fw_X1_21 rfl ch8 lh8 rfl rfl ?_
  refine r_aload_n X dX1_init_36 rfl ?_
  refine r_bipush X dX1_init_37 (v := 10) (by decide) ?_
  obtain ⟨q9, w⟩ := w
  refine r_newa X dX1_init_39 (t := 0) (N := 10) (by decide) rfl ar_int (by decide) (by decide) (by decide) q9.1 q9.2 ?_
  have hk : (((((kc + 1) + 1) + 1) + 1) + 1) ≤ mc ∧ (((((ks + 8) + 8) + 9) + 10) + 10) ≤ ms := q9
  obtain ⟨h10, eh10, w⟩ := w
  obtain ⟨fh10, ch10, lh10, rh10⟩ := pF_s eh10
  subst rh10
  refine r_putF X dX1_init_41 fw_X1_24 rfl ch10 lh10 rfl rfl ?_
  exact r_vret X dX1_init_44 rfl w hk.1 hk.2

set_option maxRecDepth 10000 in
theorem b_X1_spell_0 {g : GG} {K : KX} {D mc ms : Nat} {Pr : Option Value → Hp → Prop} {Pt : String → Hp → Prop} {kc ks : Nat} (hg : GOK g) (hD : 8 ≤ D) (hk : kc ≤ mc ∧ ks ≤ ms) (X : CB g K cX1_spell 5 yX1_spell (some (.int)) []) (l0 : Nat) (l1 : Int32) (h : Hp)
    (w : VB g K 5 D mc ms Pr Pt kc ks 7 [some (.ref l0), some (.int l1), some (.int ((1 : Int32))), some (.int ((l1 / (10 : Int32)))), none] [] h) : VB g K 5 D mc ms Pr Pt kc ks 0 [some (.ref l0), some (.int l1), none, none, none] [] h := by
  obtain ⟨p, e, s, m, args, below, meth, c⟩ := K
  have X : CX g p s m args meth c cX1_spell 5 yX1_spell (some (.int)) [] := X
  have hz := hg s X.gk.z
  show VV g p e (rmm D mc ms) s m args below meth c 5 (QQ g below args s mc ms Pr Pt) kc ks 0 [some (.ref l0), some (.int l1), none, none, none] [] h
  refine r_iconst X dX1_spell_0 (v := 1) (by decide) ?_
  refine r_istore_n X dX1_spell_1 (by decide) rfl ?_
  refine r_iload_n X dX1_spell_2 rfl ?_
  refine r_bipush X dX1_spell_3 (v := 10) (by decide) ?_
  refine r_idiv X dX1_spell_5 (by decide) ?_
  refine r_istore_n X dX1_spell_6 (by decide) rfl ?_
  refine VB_wk (ls' := [some (.ref l0), some (.int l1), some (.int ((1 : Int32))), some (.int ((l1 / (10 : Int32)))), none]) ?_ w
  exact (And.intro rfl (And.intro rfl (And.intro rfl (And.intro rfl trivial))))

set_option maxRecDepth 10000 in
theorem b_X1_spell_7 {g : GG} {K : KX} {D mc ms : Nat} {Pr : Option Value → Hp → Prop} {Pt : String → Hp → Prop} {kc ks : Nat} (hg : GOK g) (hD : 8 ≤ D) (hk : kc ≤ mc ∧ ks ≤ ms) (X : CB g K cX1_spell 5 yX1_spell (some (.int)) []) (l0 : Nat) (l1 : Int32) (l2 : Int32) (l3 : Int32) (h : Hp)
    (w : ((l3 ≤ 0 → VB g K 5 D mc ms Pr Pt kc ks 31 [some (.ref l0), some (.int l1), some (.int l2), none, none] [] h) ∧ (¬ l3 ≤ 0 → (∃ v1, gN h l0 1 3 = some v1 ∧ (∃ v2, lenA h v1 = some v2 ∧ ((v2 ≤ l2 → VB g K 5 D mc ms Pr Pt kc ks 31 [some (.ref l0), some (.int l1), some (.int l2), none, none] [] h) ∧ (¬ v2 ≤ l2 → VB g K 5 D mc ms Pr Pt kc ks 7 [some (.ref l0), some (.int l1), some (.int ((l2 + 1))), some (.int ((l3 / (10 : Int32)))), none] [] h))))))) : VB g K 5 D mc ms Pr Pt kc ks 7 [some (.ref l0), some (.int l1), some (.int l2), some (.int l3), none] [] h := by
  obtain ⟨p, e, s, m, args, below, meth, c⟩ := K
  have X : CX g p s m args meth c cX1_spell 5 yX1_spell (some (.int)) [] := X
  have hz := hg s X.gk.z
  show VV g p e (rmm D mc ms) s m args below meth c 5 (QQ g below args s mc ms Pr Pt) kc ks 7 [some (.ref l0), some (.int l1), some (.int l2), some (.int l3), none] [] h
  refine r_iload_n X dX1_spell_7 rfl ?_
  refine r_if_le X dX1_spell_8 (tgt := 31) (by decide) (fun q => ?_) (fun q => ?_)
  · have w := w.1 q
    refine VB_wk (ls' := [some (.ref l0), some (.int l1), some (.int l2), none, none]) ?_ w
    exact (And.intro rfl (And.intro rfl (And.intro rfl trivial)))
  · have w := w.2 q
    refine r_iload_n X dX1_spell_11 rfl ?_
    refine r_aload_n X dX1_spell_12 rfl ?_
    obtain ⟨v1, ev1, w⟩ := w
    obtain ⟨fv1, cv1, qv1⟩ := gN_s ev1
    refine r_getf X dX1_spell_13 fl_X1_18 cv1 qv1 ?_
    obtain ⟨v2, ev2, w⟩ := w
    obtain ⟨tv2, nv2, fv2, cv2, iv2, qv2⟩ := lenA_s ev2
    refine r_alen X dX1_spell_16 cv2 iv2 ?_
    rw [qv2]
    refine r_icmp_ge X dX1_spell_17 (tgt := 31) (by decide) (fun q => ?_) (fun q => ?_)
    · have w := w.1 q
      refine VB_wk (ls' := [some (.ref l0), some (.int l1), some (.int l2), none, none]) ?_ w
      exact (And.intro rfl (And.intro rfl (And.intro rfl trivial)))
    · have w := w.2 q
      refine r_iinc X dX1_spell_20 rfl (v := (l2 + 1)) rfl (by decide) rfl ?_
      refine r_iload_n X dX1_spell_23 rfl ?_
      refine r_bipush X dX1_spell_24 (v := 10) (by decide) ?_
      refine r_idiv X dX1_spell_26 (by decide) ?_
      refine r_istore_n X dX1_spell_27 (by decide) rfl ?_
      refine r_goto X dX1_spell_28 (tgt := 7) (by decide) ?_
      refine VB_wk (ls' := [some (.ref l0), some (.int l1), some (.int ((l2 + 1))), some (.int ((l3 / (10 : Int32)))), none]) ?_ w
      exact (And.intro rfl (And.intro rfl (And.intro rfl (And.intro rfl trivial))))

set_option maxRecDepth 10000 in
theorem b_X1_spell_31 {g : GG} {K : KX} {D mc ms : Nat} {Pr : Option Value → Hp → Prop} {Pt : String → Hp → Prop} {kc ks : Nat} (hg : GOK g) (hD : 8 ≤ D) (hk : kc ≤ mc ∧ ks ≤ ms) (X : CB g K cX1_spell 5 yX1_spell (some (.int)) []) (l0 : Nat) (l1 : Int32) (l2 : Int32) (h : Hp)
    (w : VB g K 5 D mc ms Pr Pt kc ks 38 [some (.ref l0), none, some (.int l2), some (.int l1), some (.int ((l2 - (1 : Int32))))] [] h) : VB g K 5 D mc ms Pr Pt kc ks 31 [some (.ref l0), some (.int l1), some (.int l2), none, none] [] h := by
  obtain ⟨p, e, s, m, args, below, meth, c⟩ := K
  have X : CX g p s m args meth c cX1_spell 5 yX1_spell (some (.int)) [] := X
  have hz := hg s X.gk.z
  show VV g p e (rmm D mc ms) s m args below meth c 5 (QQ g below args s mc ms Pr Pt) kc ks 31 [some (.ref l0), some (.int l1), some (.int l2), none, none] [] h
  refine r_iload_n X dX1_spell_31 rfl ?_
  refine r_istore_n X dX1_spell_32 (by decide) rfl ?_
  refine r_iload_n X dX1_spell_33 rfl ?_
  refine r_iconst X dX1_spell_34 (v := 1) (by decide) ?_
  refine r_isub X dX1_spell_35 ?_
  refine r_istore X dX1_spell_36 (by decide) rfl ?_
  refine VB_wk (ls' := [some (.ref l0), none, some (.int l2), some (.int l1), some (.int ((l2 - (1 : Int32))))]) ?_ w
  exact (And.intro rfl (And.intro rfl (And.intro rfl (And.intro rfl trivial))))

set_option maxRecDepth 10000 in
theorem b_X1_spell_38 {g : GG} {K : KX} {D mc ms : Nat} {Pr : Option Value → Hp → Prop} {Pt : String → Hp → Prop} {kc ks : Nat} (hg : GOK g) (hD : 8 ≤ D) (hk : kc ≤ mc ∧ ks ≤ ms) (X : CB g K cX1_spell 5 yX1_spell (some (.int)) []) (l0 : Nat) (l2 : Int32) (l3 : Int32) (l4 : Int32) (h : Hp)
    (w : ((l4 < 0 → Pr (some (.int l2)) h) ∧ (¬ l4 < 0 → (∃ v1, gN h l0 1 3 = some v1 ∧ (∃ h2, uI h 0 v1 l4 ((l3 - l3 / (10 : Int32) * (10 : Int32))) = some h2 ∧ VB g K 5 D mc ms Pr Pt kc ks 38 [some (.ref l0), none, some (.int l2), some (.int ((l3 / (10 : Int32)))), some (.int ((l4 + (-1))))] [] h2))))) : VB g K 5 D mc ms Pr Pt kc ks 38 [some (.ref l0), none, some (.int l2), some (.int l3), some (.int l4)] [] h := by
  obtain ⟨p, e, s, m, args, below, meth, c⟩ := K
  have X : CX g p s m args meth c cX1_spell 5 yX1_spell (some (.int)) [] := X
  have hz := hg s X.gk.z
  show VV g p e (rmm D mc ms) s m args below meth c 5 (QQ g below args s mc ms Pr Pt) kc ks 38 [some (.ref l0), none, some (.int l2), some (.int l3), some (.int l4)] [] h
  refine r_iload X dX1_spell_38 rfl ?_
  refine r_if_lt X dX1_spell_40 (tgt := 65) (by decide) (fun q => ?_) (fun q => ?_)
  · have w := w.1 q
    refine r_iload_n X dX1_spell_65 rfl ?_
    exact r_iret X dX1_spell_66 rfl w hk.1 hk.2
  · have w := w.2 q
    refine r_aload_n X dX1_spell_43 rfl ?_
    obtain ⟨v1, ev1, w⟩ := w
    obtain ⟨fv1, cv1, qv1⟩ := gN_s ev1
    refine r_getf X dX1_spell_44 fl_X1_18 cv1 qv1 ?_
    refine r_iload X dX1_spell_47 rfl ?_
    refine r_iload_n X dX1_spell_49 rfl ?_
    refine r_bipush X dX1_spell_50 (v := 10) (by decide) ?_
    refine r_irem X dX1_spell_52 (by decide) ?_
    obtain ⟨h2, eh2, w⟩ := w
    obtain ⟨nh2, fh2, ch2, ih2, rh2⟩ := uI_s eh2
    subst rh2
    refine r_iast X dX1_spell_53 ch2 ih2 ?_
    refine r_iload_n X dX1_spell_54 rfl ?_
    refine r_bipush X dX1_spell_55 (v := 10) (by decide) ?_
    refine r_idiv X dX1_spell_57 (by decide) ?_
    refine r_istore_n X dX1_spell_58 (by decide) rfl ?_
    refine r_iinc X dX1_spell_59 rfl (v := (l4 + (-1))) rfl (by decide) rfl ?_
    refine r_goto X dX1_spell_62 (tgt := 38) (by decide) ?_
    refine VB_wk (ls' := [some (.ref l0), none, some (.int l2), some (.int ((l3 / (10 : Int32)))), some (.int ((l4 + (-1))))]) ?_ w
    exact (And.intro rfl (And.intro rfl (And.intro rfl (And.intro rfl trivial))))

set_option maxRecDepth 10000 in
theorem b_X1_tie_0 {g : GG} {K : KX} {D mc ms : Nat} {Pr : Option Value → Hp → Prop} {Pt : String → Hp → Prop} {kc ks : Nat} (hg : GOK g) (hD : 8 ≤ D) (hk : kc ≤ mc ∧ ks ≤ ms) (X : CB g K cX1_tie 3 yX1_tie none []) (l0 : Nat) (l1 : Int32) (l2 : Int32) (h : Hp)
    (w : (∃ v1, gI h l0 1 0 = some v1 ∧ (((8 : Int32) ≤ v1 → Pr none h) ∧ (¬ (8 : Int32) ≤ v1 → (∃ v2, gN h l0 1 1 = some v2 ∧ (∃ v3, gI h l0 1 0 = some v3 ∧ (∃ h4, uI h 0 v2 v3 l1 = some h4 ∧ (∃ v5, gN h4 l0 1 2 = some v5 ∧ (∃ v6, gI h4 l0 1 0 = some v6 ∧ (∃ h7, uI h4 0 v5 v6 l2 = some h7 ∧ (∃ v8, gI h7 l0 1 0 = some v8 ∧ (∃ h9, pF h7 l0 1 0 (.int ((v8 + (1 : Int32)))) = some h9 ∧ Pr none h9)))))))))))) : VB g K 3 D mc ms Pr Pt kc ks 0 [some (.ref l0), some (.int l1), some (.int l2)] [] h := by
  obtain ⟨p, e, s, m, args, below, meth, c⟩ := K
  have X : CX g p s m args meth c cX1_tie 3 yX1_tie none [] := X
  have hz := hg s X.gk.z
  show VV g p e (rmm D mc ms) s m args below meth c 3 (QQ g below args s mc ms Pr Pt) kc ks 0 [some (.ref l0), some (.int l1), some (.int l2)] [] h
  refine r_aload_n X dX1_tie_0 rfl ?_
  obtain ⟨v1, ev1, w⟩ := w
  obtain ⟨fv1, cv1, qv1⟩ := gI_s ev1
  refine r_getf X dX1_tie_1 fl_X1_27 cv1 qv1 ?_
  refine r_bipush X dX1_tie_4 (v := 8) (by decide) ?_
  refine r_icmp_ge X dX1_tie_6 (tgt := 39) (by decide) (fun q => ?_) (fun q => ?_)
  · have w := w.1 q
    exact r_vret X dX1_tie_39 rfl w hk.1 hk.2
  · have w := w.2 q
    refine r_aload_n X dX1_tie_9 rfl ?_
    obtain ⟨v2, ev2, w⟩ := w
    obtain ⟨fv2, cv2, qv2⟩ := gN_s ev2
    refine r_getf X dX1_tie_10 fl_X1_9 cv2 qv2 ?_
    refine r_aload_n X dX1_tie_13 rfl ?_
    obtain ⟨v3, ev3, w⟩ := w
    obtain ⟨fv3, cv3, qv3⟩ := gI_s ev3
    refine r_getf X dX1_tie_14 fl_X1_27 cv3 qv3 ?_
    refine r_iload_n X dX1_tie_17 rfl ?_
    obtain ⟨h4, eh4, w⟩ := w
    obtain ⟨nh4, fh4, ch4, ih4, rh4⟩ := uI_s eh4
    subst rh4
    refine r_iast X dX1_tie_18 ch4 ih4 ?_
    refine r_aload_n X dX1_tie_19 rfl ?_
    obtain ⟨v5, ev5, w⟩ := w
    obtain ⟨fv5, cv5, qv5⟩ := gN_s ev5
    refine r_getf X dX1_tie_20 fl_X1_15 cv5 qv5 ?_
    refine r_aload_n X dX1_tie_23 rfl ?_
    obtain ⟨v6, ev6, w⟩ := w
    obtain ⟨fv6, cv6, qv6⟩ := gI_s ev6
    refine r_getf X dX1_tie_24 fl_X1_27 cv6 qv6 ?_
    refine r_iload_n X dX1_tie_27 rfl ?_
    obtain ⟨h7, eh7, w⟩ := w
    obtain ⟨nh7, fh7, ch7, ih7, rh7⟩ := uI_s eh7
    subst rh7
    refine r_iast X dX1_tie_28 ch7 ih7 ?_
    refine r_aload_n X dX1_tie_29 rfl ?_
    refine r_dup X dX1_tie_30 rfl ?_
    obtain ⟨v8, ev8, w⟩ := w
    obtain ⟨fv8, cv8, qv8⟩ := gI_s ev8
    refine r_getf X dX1_tie_31 fl_X1_27 cv8 qv8 ?_
    refine r_iconst X dX1_tie_34 (v := 1) (by decide) ?_
    refine r_iadd X dX1_tie_35 ?_
    obtain ⟨h9, eh9, w⟩ := w
    obtain ⟨fh9, ch9, lh9, rh9⟩ := pF_s eh9
    subst rh9
    refine r_putf X dX1_tie_36 fw_X1_27 ch9 lh9 rfl rfl ?_
    exact r_vret X dX1_tie_39 rfl w hk.1 hk.2

set_option maxRecDepth 10000 in
theorem b_X1_untie_0 {g : GG} {K : KX} {D mc ms : Nat} {Pr : Option Value → Hp → Prop} {Pt : String → Hp → Prop} {kc ks : Nat} (hg : GOK g) (hD : 8 ≤ D) (hk : kc ≤ mc ∧ ks ≤ ms) (X : CB g K cX1_untie 4 yX1_untie none []) (l0 : Nat) (l1 : Int32) (h : Hp)
    (w : (∃ fs0, oF h l0 1 = some fs0 ∧ (∃ d0 P0 E0 m0 n0, CT g d0 yX1_spell (wsC yX1_spell cX1_spell 5 (some (.int))) [.ref l0, .int l1] h m0 n0 P0 E0 ∧ (d0 + 1 ≤ D ∧ kc + m0 ≤ mc ∧ ks + n0 ≤ ms) ∧ (∀ E h', E0 E h' → Pt E h') ∧ (∀ v h0, P0 v h0 → ∃ v2, v = some (.int v2) ∧ (∃ v3, gN h0 l0 1 4 = some v3 ∧ (∃ h4, uI h0 0 v3 v2 ((1 : Int32)) = some h4 ∧ (∃ v5, gN h4 l0 1 5 = some v5 ∧ (∃ h6, uI h4 0 v5 v2 ((0 : Int32)) = some h6 ∧ VB g K 4 D mc ms Pr Pt ((kc + m0)) ((ks + n0)) 24 [some (.ref l0), none, some (.int v2), some (.int ((v2 - (1 : Int32))))] [] h6)))))))) : VB g K 4 D mc ms Pr Pt kc ks 0 [some (.ref l0), some (.int l1), none, none] [] h := by
  obtain ⟨p, e, s, m, args, below, meth, c⟩ := K
  have X : CX g p s m args meth c cX1_untie 4 yX1_untie none [] := X
  have hz := hg s X.gk.z
  show VV g p e (rmm D mc ms) s m args below meth c 4 (QQ g below args s mc ms Pr Pt) kc ks 0 [some (.ref l0), some (.int l1), none, none] [] h
  refine r_aload_n X dX1_untie_0 rfl ?_
  refine r_iload_n X dX1_untie_1 rfl ?_
  obtain ⟨fs0, es0, w⟩ := w
  obtain ⟨d0, P0, E0, m0, n0, ct0, w⟩ := w
  obtain ⟨⟨x1, x2, x3⟩, w⟩ := w
  obtain ⟨x4, w⟩ := w
  refine r_callV X (As := [.int l1]) dX1_untie_2 mk_X1_spell ⟨ml_X1_31, im_X1_spell, se_X1_spell⟩ (oF_s es0) (ci_X1).1 rfl rfl rfl (by simp [Value.category]) ⟨x1, by show 60 * (d0 + 1) + 200 ≤ 60 * D + 200; omega⟩ ⟨x2, x3⟩ ct0 x4 (fun _ z => nomatch z) (fun _ => ⟨x2, x3⟩) (fun v h0 w1 => ?_)
  have w := w v h0 w1
  have hk : kc + m0 ≤ mc ∧ ks + n0 ≤ ms := ⟨x2, x3⟩
  obtain ⟨v2, rfl, w⟩ := w
  refine r_istore_n X dX1_untie_5 (by decide) rfl ?_
  refine r_aload_n X dX1_untie_6 rfl ?_
  obtain ⟨v3, ev3, w⟩ := w
  obtain ⟨fv3, cv3, qv3⟩ := gN_s ev3
  refine r_getf X dX1_untie_7 fl_X1_21 cv3 qv3 ?_
  refine r_iload_n X dX1_untie_10 rfl ?_
  refine r_iconst X dX1_untie_11 (v := 1) (by decide) ?_
  obtain ⟨h4, eh4, w⟩ := w
  obtain ⟨nh4, fh4, ch4, ih4, rh4⟩ := uI_s eh4
  subst rh4
  refine r_iast X dX1_untie_12 ch4 ih4 ?_
  refine r_aload_n X dX1_untie_13 rfl ?_
  obtain ⟨v5, ev5, w⟩ := w
  obtain ⟨fv5, cv5, qv5⟩ := gN_s ev5
  refine r_getf X dX1_untie_14 fl_X1_24 cv5 qv5 ?_
  refine r_iload_n X dX1_untie_17 rfl ?_
  refine r_iconst X dX1_untie_18 (v := 0) (by decide) ?_
  obtain ⟨h6, eh6, w⟩ := w
  obtain ⟨nh6, fh6, ch6, ih6, rh6⟩ := uI_s eh6
  subst rh6
  refine r_iast X dX1_untie_19 ch6 ih6 ?_
  refine r_iload_n X dX1_untie_20 rfl ?_
  refine r_iconst X dX1_untie_21 (v := 1) (by decide) ?_
  refine r_isub X dX1_untie_22 ?_
  refine r_istore_n X dX1_untie_23 (by decide) rfl ?_
  refine VB_wk (ls' := [some (.ref l0), none, some (.int v2), some (.int ((v2 - (1 : Int32))))]) ?_ w
  exact (And.intro rfl (And.intro rfl (And.intro rfl trivial)))

set_option maxRecDepth 10000 in
theorem b_X1_untie_24 {g : GG} {K : KX} {D mc ms : Nat} {Pr : Option Value → Hp → Prop} {Pt : String → Hp → Prop} {kc ks : Nat} (hg : GOK g) (hD : 8 ≤ D) (hk : kc ≤ mc ∧ ks ≤ ms) (X : CB g K cX1_untie 4 yX1_untie none []) (l0 : Nat) (l2 : Int32) (l3 : Int32) (h : Hp)
    (w : ((l3 < 0 → Pr none h) ∧ (¬ l3 < 0 → (∃ fs0, oF h l0 1 = some fs0 ∧ (∃ d0 P0 E0 m0 n0, CT g d0 yX1_untieFrom (wsC yX1_untieFrom cX1_untieFrom 6 none) [.ref l0, .int l3, .int l2] h m0 n0 P0 E0 ∧ (d0 + 1 ≤ D ∧ kc + m0 ≤ mc ∧ ks + n0 ≤ ms) ∧ (∀ E h', E0 E h' → Pt E h') ∧ (∀ v h0, P0 v h0 → v = none ∧ VB g K 4 D mc ms Pr Pt ((kc + m0)) ((ks + n0)) 24 [some (.ref l0), none, some (.int l2), some (.int ((l3 + (-1))))] [] h0)))))) : VB g K 4 D mc ms Pr Pt kc ks 24 [some (.ref l0), none, some (.int l2), some (.int l3)] [] h := by
  obtain ⟨p, e, s, m, args, below, meth, c⟩ := K
  have X : CX g p s m args meth c cX1_untie 4 yX1_untie none [] := X
  have hz := hg s X.gk.z
  show VV g p e (rmm D mc ms) s m args below meth c 4 (QQ g below args s mc ms Pr Pt) kc ks 24 [some (.ref l0), none, some (.int l2), some (.int l3)] [] h
  refine r_iload_n X dX1_untie_24 rfl ?_
  refine r_if_lt X dX1_untie_25 (tgt := 40) (by decide) (fun q => ?_) (fun q => ?_)
  · have w := w.1 q
    exact r_vret X dX1_untie_40 rfl w hk.1 hk.2
  · have w := w.2 q
    refine r_aload_n X dX1_untie_28 rfl ?_
    refine r_iload_n X dX1_untie_29 rfl ?_
    refine r_iload_n X dX1_untie_30 rfl ?_
    obtain ⟨fs0, es0, w⟩ := w
    obtain ⟨d0, P0, E0, m0, n0, ct0, w⟩ := w
    obtain ⟨⟨x1, x2, x3⟩, w⟩ := w
    obtain ⟨x4, w⟩ := w
    refine r_callV X (As := [.int l3, .int l2]) dX1_untie_31 mk_X1_untieFrom ⟨ml_X1_35, im_X1_untieFrom, se_X1_untieFrom⟩ (oF_s es0) (ci_X1).1 rfl rfl rfl (by simp [Value.category]) ⟨x1, by show 60 * (d0 + 1) + 200 ≤ 60 * D + 200; omega⟩ ⟨x2, x3⟩ ct0 x4 (fun _ z => nomatch z) (fun _ => ⟨x2, x3⟩) (fun v h0 w1 => ?_)
    have w := w v h0 w1
    have hk : kc + m0 ≤ mc ∧ ks + n0 ≤ ms := ⟨x2, x3⟩
    obtain ⟨rfl, w⟩ := w
    refine r_iinc X dX1_untie_34 rfl (v := (l3 + (-1))) rfl (by decide) rfl ?_
    refine r_goto X dX1_untie_37 (tgt := 24) (by decide) ?_
    refine VB_wk (ls' := [some (.ref l0), none, some (.int l2), some (.int ((l3 + (-1))))]) ?_ w
    exact (And.intro rfl (And.intro rfl (And.intro rfl trivial)))

set_option maxRecDepth 10000 in
theorem b_X1_untieFrom_0 {g : GG} {K : KX} {D mc ms : Nat} {Pr : Option Value → Hp → Prop} {Pt : String → Hp → Prop} {kc ks : Nat} (hg : GOK g) (hD : 8 ≤ D) (hk : kc ≤ mc ∧ ks ≤ ms) (X : CB g K cX1_untieFrom 6 yX1_untieFrom none []) (l0 : Nat) (l1 : Int32) (l2 : Int32) (h : Hp)
    (w : (∃ v1, gN h l0 1 4 = some v1 ∧ (∃ h2, uI h 0 v1 l1 ((0 : Int32)) = some h2 ∧ (∃ v3, gN h2 l0 1 5 = some v3 ∧ (∃ h4, uI h2 0 v3 l1 ((-1 : Int32)) = some h4 ∧ VB g K 6 D mc ms Pr Pt kc ks 21 [some (.ref l0), some (.int l1), some (.int l2), some (.int ((0 : Int32))), some (.int ((l1 + (1 : Int32)))), none] [] h4))))) : VB g K 6 D mc ms Pr Pt kc ks 0 [some (.ref l0), some (.int l1), some (.int l2), none, none, none] [] h := by
  obtain ⟨p, e, s, m, args, below, meth, c⟩ := K
  have X : CX g p s m args meth c cX1_untieFrom 6 yX1_untieFrom none [] := X
  have hz := hg s X.gk.z
  show VV g p e (rmm D mc ms) s m args below meth c 6 (QQ g below args s mc ms Pr Pt) kc ks 0 [some (.ref l0), some (.int l1), some (.int l2), none, none, none] [] h
  refine r_aload_n X dX1_untieFrom_0 rfl ?_
  obtain ⟨v1, ev1, w⟩ := w
  obtain ⟨fv1, cv1, qv1⟩ := gN_s ev1
  refine r_getf X dX1_untieFrom_1 fl_X1_21 cv1 qv1 ?_
  refine r_iload_n X dX1_untieFrom_4 rfl ?_
  refine r_iconst X dX1_untieFrom_5 (v := 0) (by decide) ?_
  obtain ⟨h2, eh2, w⟩ := w
  obtain ⟨nh2, fh2, ch2, ih2, rh2⟩ := uI_s eh2
  subst rh2
  refine r_iast X dX1_untieFrom_6 ch2 ih2 ?_
  refine r_aload_n X dX1_untieFrom_7 rfl ?_
  obtain ⟨v3, ev3, w⟩ := w
  obtain ⟨fv3, cv3, qv3⟩ := gN_s ev3
  refine r_getf X dX1_untieFrom_8 fl_X1_24 cv3 qv3 ?_
  refine r_iload_n X dX1_untieFrom_11 rfl ?_
  refine r_iconst X dX1_untieFrom_12 (v := -1) (by decide) ?_
  obtain ⟨h4, eh4, w⟩ := w
  obtain ⟨nh4, fh4, ch4, ih4, rh4⟩ := uI_s eh4
  subst rh4
  refine r_iast X dX1_untieFrom_13 ch4 ih4 ?_
  refine r_iconst X dX1_untieFrom_14 (v := 0) (by decide) ?_
  refine r_istore_n X dX1_untieFrom_15 (by decide) rfl ?_
  refine r_iload_n X dX1_untieFrom_16 rfl ?_
  refine r_iconst X dX1_untieFrom_17 (v := 1) (by decide) ?_
  refine r_iadd X dX1_untieFrom_18 ?_
  refine r_istore X dX1_untieFrom_19 (by decide) rfl ?_
  refine VB_wk (ls' := [some (.ref l0), some (.int l1), some (.int l2), some (.int ((0 : Int32))), some (.int ((l1 + (1 : Int32)))), none]) ?_ w
  exact (And.intro rfl (And.intro rfl (And.intro rfl (And.intro rfl (And.intro rfl trivial)))))

set_option maxRecDepth 10000 in
theorem b_X1_untieFrom_21 {g : GG} {K : KX} {D mc ms : Nat} {Pr : Option Value → Hp → Prop} {Pt : String → Hp → Prop} {kc ks : Nat} (hg : GOK g) (hD : 8 ≤ D) (hk : kc ≤ mc ∧ ks ≤ ms) (X : CB g K cX1_untieFrom 6 yX1_untieFrom none []) (l0 : Nat) (l1 : Int32) (l2 : Int32) (l3 : Int32) (l4 : Int32) (h : Hp)
    (w : ((l2 < l4 → Pr none h) ∧ (¬ l2 < l4 → (((l1 + (4 : Int32)) < l4 → Pr none h) ∧ (¬ (l1 + (4 : Int32)) < l4 → (∃ v1, gN h l0 1 3 = some v1 ∧ (∃ v2, aI h 0 v1 ((l4 - (1 : Int32))) = some v2 ∧ (∃ v3, gN h l0 1 4 = some v3 ∧ (∃ v4, aI h 0 v3 l4 = some v4 ∧ ((v4 ≤ 0 → VB g K 6 D mc ms Pr Pt kc ks 131 [some (.ref l0), some (.int l1), some (.int l2), some (.int ((((10 : Int32) * l3) + v2))), some (.int l4), none] [] h) ∧ (¬ v4 ≤ 0 → (∃ fs4, oF h l0 1 = some fs4 ∧ (∃ d4 P4 E4 m4 n4, CT g d4 yX1_has (wsC yX1_has cX1_has 4 (some (.boolean))) [.ref l0, .int ((((10 : Int32) * l3) + v2)), .int ((l4 - l1))] h m4 n4 P4 E4 ∧ (d4 + 1 ≤ D ∧ kc + m4 ≤ mc ∧ ks + n4 ≤ ms) ∧ (∀ E h', E4 E h' → Pt E h') ∧ (∀ v h4, P4 v h4 → ∃ v6, v = some (.int v6) ∧ ((v6 = 0 → VB g K 6 D mc ms Pr Pt ((kc + m4)) ((ks + n4)) 131 [some (.ref l0), some (.int l1), some (.int l2), some (.int ((((10 : Int32) * l3) + v2))), some (.int l4), none] [] h4) ∧ (¬ v6 = 0 → (∃ v7, gN h4 l0 1 4 = some v7 ∧ (∃ v8, aI h4 0 v7 l1 = some v8 ∧ (∃ v9, gN h4 l0 1 4 = some v9 ∧ (∃ v10, aI h4 0 v9 l4 = some v10 ∧ (∃ h11, uI h4 0 v7 l1 ((v8 + v10)) = some h11 ∧ (∃ v12, gN h11 l0 1 5 = some v12 ∧ (∃ v13, aI h11 0 v12 l4 = some v13 ∧ (∃ v14, gN h11 l0 1 5 = some v14 ∧ (∃ v15, gN h11 l0 1 5 = some v15 ∧ (∃ v16, aI h11 0 v15 l1 = some v16 ∧ ((¬ v16 = (-1 : Int32) → (∃ v17, gN h11 l0 1 5 = some v17 ∧ (∃ v18, aI h11 0 v17 l1 = some v18 ∧ VB g K 6 D mc ms Pr Pt ((kc + m4)) ((ks + n4)) 130 [some (.ref l0), some (.int l1), some (.int l2), some (.int ((((10 : Int32) * l3) + v2))), some (.int l4), none] [.int ((if (v13 + (1 : Int32)) < v18 then (v13 + (1 : Int32)) else v18)), .int l1, .ref v14] h11))) ∧ (v16 = (-1 : Int32) → VB g K 6 D mc ms Pr Pt ((kc + m4)) ((ks + n4)) 130 [some (.ref l0), some (.int l1), some (.int l2), some (.int ((((10 : Int32) * l3) + v2))), some (.int l4), none] [.int ((v13 + (1 : Int32))), .int l1, .ref v14] h11)))))))))))))))))))))))))))) : VB g K 6 D mc ms Pr Pt kc ks 21 [some (.ref l0), some (.int l1), some (.int l2), some (.int l3), some (.int l4), none] [] h := by
  obtain ⟨p, e, s, m, args, below, meth, c⟩ := K
  have X : CX g p s m args meth c cX1_untieFrom 6 yX1_untieFrom none [] := X
  have hz := hg s X.gk.z
  show VV g p e (rmm D mc ms) s m args below meth c 6 (QQ g below args s mc ms Pr Pt) kc ks 21 [some (.ref l0), some (.int l1), some (.int l2), some (.int l3), some (.int l4), none] [] h
  refine r_iload X dX1_untieFrom_21 rfl ?_
  refine r_iload_n X dX1_untieFrom_23 rfl ?_
  refine r_icmp_gt X dX1_untieFrom_24 (tgt := 137) (by decide) (fun q => ?_) (fun q => ?_)
  · have w := w.1 q
    exact r_vret X dX1_untieFrom_137 rfl w hk.1 hk.2
  · have w := w.2 q
    refine r_iload X dX1_untieFrom_27 rfl ?_
    refine r_iload_n X dX1_untieFrom_29 rfl ?_
    refine r_iconst X dX1_untieFrom_30 (v := 4) (by decide) ?_
    refine r_iadd X dX1_untieFrom_31 ?_
    refine r_icmp_gt X dX1_untieFrom_32 (tgt := 137) (by decide) (fun q => ?_) (fun q => ?_)
    · have w := w.1 q
      exact r_vret X dX1_untieFrom_137 rfl w hk.1 hk.2
    · have w := w.2 q
      refine r_bipush X dX1_untieFrom_35 (v := 10) (by decide) ?_
      refine r_iload_n X dX1_untieFrom_37 rfl ?_
      refine r_imul X dX1_untieFrom_38 ?_
      refine r_aload_n X dX1_untieFrom_39 rfl ?_
      obtain ⟨v1, ev1, w⟩ := w
      obtain ⟨fv1, cv1, qv1⟩ := gN_s ev1
      refine r_getf X dX1_untieFrom_40 fl_X1_18 cv1 qv1 ?_
      refine r_iload X dX1_untieFrom_43 rfl ?_
      refine r_iconst X dX1_untieFrom_45 (v := 1) (by decide) ?_
      refine r_isub X dX1_untieFrom_46 ?_
      obtain ⟨v2, ev2, w⟩ := w
      obtain ⟨nv2, fv2, cv2, iv2, qv2⟩ := aI_s ev2
      refine r_iald X dX1_untieFrom_47 cv2 iv2 ?_
      rw [qv2]
      refine r_iadd X dX1_untieFrom_48 ?_
      refine r_istore_n X dX1_untieFrom_49 (by decide) rfl ?_
      refine r_aload_n X dX1_untieFrom_50 rfl ?_
      obtain ⟨v3, ev3, w⟩ := w
      obtain ⟨fv3, cv3, qv3⟩ := gN_s ev3
      refine r_getf X dX1_untieFrom_51 fl_X1_21 cv3 qv3 ?_
      refine r_iload X dX1_untieFrom_54 rfl ?_
      obtain ⟨v4, ev4, w⟩ := w
      obtain ⟨nv4, fv4, cv4, iv4, qv4⟩ := aI_s ev4
      refine r_iald X dX1_untieFrom_56 cv4 iv4 ?_
      rw [qv4]
      refine r_if_le X dX1_untieFrom_57 (tgt := 131) (by decide) (fun q => ?_) (fun q => ?_)
      · have w := w.1 q
        refine VB_wk (ls' := [some (.ref l0), some (.int l1), some (.int l2), some (.int ((((10 : Int32) * l3) + v2))), some (.int l4), none]) ?_ w
        exact (And.intro rfl (And.intro rfl (And.intro rfl (And.intro rfl (And.intro rfl trivial)))))
      · have w := w.2 q
        refine r_aload_n X dX1_untieFrom_60 rfl ?_
        refine r_iload_n X dX1_untieFrom_61 rfl ?_
        refine r_iload X dX1_untieFrom_62 rfl ?_
        refine r_iload_n X dX1_untieFrom_64 rfl ?_
        refine r_isub X dX1_untieFrom_65 ?_
        obtain ⟨fs4, es4, w⟩ := w
        obtain ⟨d4, P4, E4, m4, n4, ct4, w⟩ := w
        obtain ⟨⟨x1, x2, x3⟩, w⟩ := w
        obtain ⟨x4, w⟩ := w
        refine r_callV X (As := [.int ((((10 : Int32) * l3) + v2)), .int ((l4 - l1))]) dX1_untieFrom_66 mk_X1_has ⟨ml_X1_39, im_X1_has, se_X1_has⟩ (oF_s es4) (ci_X1).1 rfl rfl rfl (by simp [Value.category]) ⟨x1, by show 60 * (d4 + 1) + 200 ≤ 60 * D + 200; omega⟩ ⟨x2, x3⟩ ct4 x4 (fun _ z => nomatch z) (fun _ => ⟨x2, x3⟩) (fun v h4 w1 => ?_)
        have w := w v h4 w1
        have hk : kc + m4 ≤ mc ∧ ks + n4 ≤ ms := ⟨x2, x3⟩
        obtain ⟨v6, rfl, w⟩ := w
        refine r_if_eq X dX1_untieFrom_69 (tgt := 131) (by decide) (fun q => ?_) (fun q => ?_)
        · have w := w.1 q
          refine VB_wk (ls' := [some (.ref l0), some (.int l1), some (.int l2), some (.int ((((10 : Int32) * l3) + v2))), some (.int l4), none]) ?_ w
          exact (And.intro rfl (And.intro rfl (And.intro rfl (And.intro rfl (And.intro rfl trivial)))))
        · have w := w.2 q
          refine r_aload_n X dX1_untieFrom_72 rfl ?_
          obtain ⟨v7, ev7, w⟩ := w
          obtain ⟨fv7, cv7, qv7⟩ := gN_s ev7
          refine r_getf X dX1_untieFrom_73 fl_X1_21 cv7 qv7 ?_
          refine r_iload_n X dX1_untieFrom_76 rfl ?_
          refine r_dup2 X dX1_untieFrom_77 rfl rfl ?_
          obtain ⟨v8, ev8, w⟩ := w
          obtain ⟨nv8, fv8, cv8, iv8, qv8⟩ := aI_s ev8
          refine r_iald X dX1_untieFrom_78 cv8 iv8 ?_
          rw [qv8]
          refine r_aload_n X dX1_untieFrom_79 rfl ?_
          obtain ⟨v9, ev9, w⟩ := w
          obtain ⟨fv9, cv9, qv9⟩ := gN_s ev9
          refine r_getf X dX1_untieFrom_80 fl_X1_21 cv9 qv9 ?_
          refine r_iload X dX1_untieFrom_83 rfl ?_
          obtain ⟨v10, ev10, w⟩ := w
          obtain ⟨nv10, fv10, cv10, iv10, qv10⟩ := aI_s ev10
          refine r_iald X dX1_untieFrom_85 cv10 iv10 ?_
          rw [qv10]
          refine r_iadd X dX1_untieFrom_86 ?_
          obtain ⟨h11, eh11, w⟩ := w
          obtain ⟨nh11, fh11, ch11, ih11, rh11⟩ := uI_s eh11
          subst rh11
          refine r_iast X dX1_untieFrom_87 ch11 ih11 ?_
          refine r_aload_n X dX1_untieFrom_88 rfl ?_
          obtain ⟨v12, ev12, w⟩ := w
          obtain ⟨fv12, cv12, qv12⟩ := gN_s ev12
          refine r_getf X dX1_untieFrom_89 fl_X1_24 cv12 qv12 ?_
          refine r_iload X dX1_untieFrom_92 rfl ?_
          obtain ⟨v13, ev13, w⟩ := w
          obtain ⟨nv13, fv13, cv13, iv13, qv13⟩ := aI_s ev13
          refine r_iald X dX1_untieFrom_94 cv13 iv13 ?_
          rw [qv13]
          refine r_iconst X dX1_untieFrom_95 (v := 1) (by decide) ?_
          refine r_iadd X dX1_untieFrom_96 ?_
          refine r_istore X dX1_untieFrom_97 (by decide) rfl ?_
          refine r_aload_n X dX1_untieFrom_99 rfl ?_
          obtain ⟨v14, ev14, w⟩ := w
          obtain ⟨fv14, cv14, qv14⟩ := gN_s ev14
          refine r_getf X dX1_untieFrom_100 fl_X1_24 cv14 qv14 ?_
          refine r_iload_n X dX1_untieFrom_103 rfl ?_
          refine r_aload_n X dX1_untieFrom_104 rfl ?_
          obtain ⟨v15, ev15, w⟩ := w
          obtain ⟨fv15, cv15, qv15⟩ := gN_s ev15
          refine r_getf X dX1_untieFrom_105 fl_X1_24 cv15 qv15 ?_
          refine r_iload_n X dX1_untieFrom_108 rfl ?_
          obtain ⟨v16, ev16, w⟩ := w
          obtain ⟨nv16, fv16, cv16, iv16, qv16⟩ := aI_s ev16
          refine r_iald X dX1_untieFrom_109 cv16 iv16 ?_
          rw [qv16]
          refine r_iconst X dX1_untieFrom_110 (v := -1) (by decide) ?_
          refine r_icmp_ne X dX1_untieFrom_111 (tgt := 119) (by decide) (fun q => ?_) (fun q => ?_)
          · have w := w.1 q
            refine r_aload_n X dX1_untieFrom_119 rfl ?_
            obtain ⟨v17, ev17, w⟩ := w
            obtain ⟨fv17, cv17, qv17⟩ := gN_s ev17
            refine r_getf X dX1_untieFrom_120 fl_X1_24 cv17 qv17 ?_
            refine r_iload_n X dX1_untieFrom_123 rfl ?_
            obtain ⟨v18, ev18, w⟩ := w
            obtain ⟨nv18, fv18, cv18, iv18, qv18⟩ := aI_s ev18
            refine r_iald X dX1_untieFrom_124 cv18 iv18 ?_
            rw [qv18]
            refine r_iload X dX1_untieFrom_125 rfl ?_
            refine r_mmin X dX1_untieFrom_127 ma_X1_43 (by refine ⟨?_, ?_, ?_, ?_⟩ <;> simp [rmm, Value.category] <;> omega) ?_
            refine VB_wk (ls' := [some (.ref l0), some (.int l1), some (.int l2), some (.int ((((10 : Int32) * l3) + v2))), some (.int l4), none]) ?_ w
            exact (And.intro rfl (And.intro rfl (And.intro rfl (And.intro rfl (And.intro rfl trivial)))))
          · have w := w.2 q
            refine r_iload X dX1_untieFrom_114 rfl ?_
            refine r_goto X dX1_untieFrom_116 (tgt := 130) (by decide) ?_
            refine VB_wk (ls' := [some (.ref l0), some (.int l1), some (.int l2), some (.int ((((10 : Int32) * l3) + v2))), some (.int l4), none]) ?_ w
            exact (And.intro rfl (And.intro rfl (And.intro rfl (And.intro rfl (And.intro rfl trivial)))))

set_option maxRecDepth 10000 in
theorem b_X1_untieFrom_130 {g : GG} {K : KX} {D mc ms : Nat} {Pr : Option Value → Hp → Prop} {Pt : String → Hp → Prop} {kc ks : Nat} (hg : GOK g) (hD : 8 ≤ D) (hk : kc ≤ mc ∧ ks ≤ ms) (X : CB g K cX1_untieFrom 6 yX1_untieFrom none []) (l0 : Nat) (l1 : Int32) (l2 : Int32) (l3 : Int32) (l4 : Int32) (s0 : Nat) (s1 : Int32) (s2 : Int32) (h : Hp)
    (w : (∃ h1, uI h 0 s0 s1 s2 = some h1 ∧ VB g K 6 D mc ms Pr Pt kc ks 131 [some (.ref l0), some (.int l1), some (.int l2), some (.int l3), some (.int l4), none] [] h1)) : VB g K 6 D mc ms Pr Pt kc ks 130 [some (.ref l0), some (.int l1), some (.int l2), some (.int l3), some (.int l4), none] [.int s2, .int s1, .ref s0] h := by
  obtain ⟨p, e, s, m, args, below, meth, c⟩ := K
  have X : CX g p s m args meth c cX1_untieFrom 6 yX1_untieFrom none [] := X
  have hz := hg s X.gk.z
  show VV g p e (rmm D mc ms) s m args below meth c 6 (QQ g below args s mc ms Pr Pt) kc ks 130 [some (.ref l0), some (.int l1), some (.int l2), some (.int l3), some (.int l4), none] [.int s2, .int s1, .ref s0] h
  obtain ⟨h1, eh1, w⟩ := w
  obtain ⟨nh1, fh1, ch1, ih1, rh1⟩ := uI_s eh1
  subst rh1
  refine r_iast X dX1_untieFrom_130 ch1 ih1 ?_
  refine VB_wk (ls' := [some (.ref l0), some (.int l1), some (.int l2), some (.int l3), some (.int l4), none]) ?_ w
  exact (And.intro rfl (And.intro rfl (And.intro rfl (And.intro rfl (And.intro rfl trivial)))))

set_option maxRecDepth 10000 in
theorem b_X1_untieFrom_131 {g : GG} {K : KX} {D mc ms : Nat} {Pr : Option Value → Hp → Prop} {Pt : String → Hp → Prop} {kc ks : Nat} (hg : GOK g) (hD : 8 ≤ D) (hk : kc ≤ mc ∧ ks ≤ ms) (X : CB g K cX1_untieFrom 6 yX1_untieFrom none []) (l0 : Nat) (l1 : Int32) (l2 : Int32) (l3 : Int32) (l4 : Int32) (h : Hp)
    (w : VB g K 6 D mc ms Pr Pt kc ks 21 [some (.ref l0), some (.int l1), some (.int l2), some (.int l3), some (.int ((l4 + 1))), none] [] h) : VB g K 6 D mc ms Pr Pt kc ks 131 [some (.ref l0), some (.int l1), some (.int l2), some (.int l3), some (.int l4), none] [] h := by
  obtain ⟨p, e, s, m, args, below, meth, c⟩ := K
  have X : CX g p s m args meth c cX1_untieFrom 6 yX1_untieFrom none [] := X
  have hz := hg s X.gk.z
  show VV g p e (rmm D mc ms) s m args below meth c 6 (QQ g below args s mc ms Pr Pt) kc ks 131 [some (.ref l0), some (.int l1), some (.int l2), some (.int l3), some (.int l4), none] [] h
  refine r_iinc X dX1_untieFrom_131 rfl (v := (l4 + 1)) rfl (by decide) rfl ?_
  refine r_goto X dX1_untieFrom_134 (tgt := 21) (by decide) ?_
  refine VB_wk (ls' := [some (.ref l0), some (.int l1), some (.int l2), some (.int l3), some (.int ((l4 + 1))), none]) ?_ w
  exact (And.intro rfl (And.intro rfl (And.intro rfl (And.intro rfl (And.intro rfl trivial)))))

set_option maxRecDepth 10000 in
theorem b_X2_addStrain_0 {g : GG} {K : KX} {D mc ms : Nat} {Pr : Option Value → Hp → Prop} {Pt : String → Hp → Prop} {kc ks : Nat} (hg : GOK g) (hD : 8 ≤ D) (hk : kc ≤ mc ∧ ks ≤ ms) (X : CB g K cX2_addStrain 3 yX2_addStrain none []) (l0 : Nat) (l1 : Int32) (l2 : Int32) (h : Hp)
    (w : (∃ v1, gN h l0 2 1 = some v1 ∧ (∃ v2, gN h l0 2 1 = some v2 ∧ (∃ v3, aI h 0 v2 l1 = some v3 ∧ (∃ h4, uI h 0 v1 l1 ((if (v3 + l2) < (99 : Int32) then (v3 + l2) else (99 : Int32))) = some h4 ∧ Pr none h4))))) : VB g K 3 D mc ms Pr Pt kc ks 0 [some (.ref l0), some (.int l1), some (.int l2)] [] h := by
  obtain ⟨p, e, s, m, args, below, meth, c⟩ := K
  have X : CX g p s m args meth c cX2_addStrain 3 yX2_addStrain none [] := X
  have hz := hg s X.gk.z
  show VV g p e (rmm D mc ms) s m args below meth c 3 (QQ g below args s mc ms Pr Pt) kc ks 0 [some (.ref l0), some (.int l1), some (.int l2)] [] h
  refine r_aload_n X dX2_addStrain_0 rfl ?_
  obtain ⟨v1, ev1, w⟩ := w
  obtain ⟨fv1, cv1, qv1⟩ := gN_s ev1
  refine r_getf X dX2_addStrain_1 fl_X2_9 cv1 qv1 ?_
  refine r_iload_n X dX2_addStrain_4 rfl ?_
  refine r_bipush X dX2_addStrain_5 (v := 99) (by decide) ?_
  refine r_aload_n X dX2_addStrain_7 rfl ?_
  obtain ⟨v2, ev2, w⟩ := w
  obtain ⟨fv2, cv2, qv2⟩ := gN_s ev2
  refine r_getf X dX2_addStrain_8 fl_X2_9 cv2 qv2 ?_
  refine r_iload_n X dX2_addStrain_11 rfl ?_
  obtain ⟨v3, ev3, w⟩ := w
  obtain ⟨nv3, fv3, cv3, iv3, qv3⟩ := aI_s ev3
  refine r_iald X dX2_addStrain_12 cv3 iv3 ?_
  rw [qv3]
  refine r_iload_n X dX2_addStrain_13 rfl ?_
  refine r_iadd X dX2_addStrain_14 ?_
  refine r_mmin X dX2_addStrain_15 ma_X2_62 (by refine ⟨?_, ?_, ?_, ?_⟩ <;> simp [rmm, Value.category] <;> omega) ?_
  obtain ⟨h4, eh4, w⟩ := w
  obtain ⟨nh4, fh4, ch4, ih4, rh4⟩ := uI_s eh4
  subst rh4
  refine r_iast X dX2_addStrain_18 ch4 ih4 ?_
  exact r_vret X dX2_addStrain_19 rfl w hk.1 hk.2

set_option maxRecDepth 10000 in
theorem b_X2_bareBits_0 {g : GG} {K : KX} {D mc ms : Nat} {Pr : Option Value → Hp → Prop} {Pt : String → Hp → Prop} {kc ks : Nat} (hg : GOK g) (hD : 8 ≤ D) (hk : kc ≤ mc ∧ ks ≤ ms) (X : CB g K cX2_bareBits 4 yX2_bareBits (some (.int)) []) (l0 : Nat) (l1 : Nat) (h : Hp)
    (w : VB g K 4 D mc ms Pr Pt kc ks 4 [some (.ref l0), some (.ref l1), some (.int ((0 : Int32))), some (.int ((0 : Int32)))] [] h) : VB g K 4 D mc ms Pr Pt kc ks 0 [some (.ref l0), some (.ref l1), none, none] [] h := by
  obtain ⟨p, e, s, m, args, below, meth, c⟩ := K
  have X : CX g p s m args meth c cX2_bareBits 4 yX2_bareBits (some (.int)) [] := X
  have hz := hg s X.gk.z
  show VV g p e (rmm D mc ms) s m args below meth c 4 (QQ g below args s mc ms Pr Pt) kc ks 0 [some (.ref l0), some (.ref l1), none, none] [] h
  refine r_iconst X dX2_bareBits_0 (v := 0) (by decide) ?_
  refine r_istore_n X dX2_bareBits_1 (by decide) rfl ?_
  refine r_iconst X dX2_bareBits_2 (v := 0) (by decide) ?_
  refine r_istore_n X dX2_bareBits_3 (by decide) rfl ?_
  refine VB_wk (ls' := [some (.ref l0), some (.ref l1), some (.int ((0 : Int32))), some (.int ((0 : Int32)))]) ?_ w
  exact (And.intro rfl (And.intro rfl (And.intro rfl (And.intro rfl trivial))))

set_option maxRecDepth 10000 in
theorem b_X2_bareBits_4 {g : GG} {K : KX} {D mc ms : Nat} {Pr : Option Value → Hp → Prop} {Pt : String → Hp → Prop} {kc ks : Nat} (hg : GOK g) (hD : 8 ≤ D) (hk : kc ≤ mc ∧ ks ≤ ms) (X : CB g K cX2_bareBits 4 yX2_bareBits (some (.int)) []) (l0 : Nat) (l1 : Nat) (l2 : Int32) (l3 : Int32) (h : Hp)
    (w : (∃ v1, gI h l1 9 1 = some v1 ∧ ((v1 ≤ l3 → Pr (some (.int l2)) h) ∧ (¬ v1 ≤ l3 → (∃ v2, gN h l0 2 5 = some v2 ∧ (∃ v3, aI h 0 v2 l3 = some v3 ∧ ((¬ v3 = 0 → VB g K 4 D mc ms Pr Pt kc ks 27 [some (.ref l0), some (.ref l1), some (.int l2), some (.int l3)] [] h) ∧ (v3 = 0 → VB g K 4 D mc ms Pr Pt kc ks 27 [some (.ref l0), some (.ref l1), some (.int ((l2 ||| ((1 : Int32) <<< (l3 &&& 31))))), some (.int l3)] [] h)))))))) : VB g K 4 D mc ms Pr Pt kc ks 4 [some (.ref l0), some (.ref l1), some (.int l2), some (.int l3)] [] h := by
  obtain ⟨p, e, s, m, args, below, meth, c⟩ := K
  have X : CX g p s m args meth c cX2_bareBits 4 yX2_bareBits (some (.int)) [] := X
  have hz := hg s X.gk.z
  show VV g p e (rmm D mc ms) s m args below meth c 4 (QQ g below args s mc ms Pr Pt) kc ks 4 [some (.ref l0), some (.ref l1), some (.int l2), some (.int l3)] [] h
  refine r_iload_n X dX2_bareBits_4 rfl ?_
  refine r_aload_n X dX2_bareBits_5 rfl ?_
  obtain ⟨v1, ev1, w⟩ := w
  obtain ⟨fv1, cv1, qv1⟩ := gI_s ev1
  refine r_getf X dX2_bareBits_6 fl_X2_45 cv1 qv1 ?_
  refine r_icmp_ge X dX2_bareBits_9 (tgt := 33) (by decide) (fun q => ?_) (fun q => ?_)
  · have w := w.1 q
    refine r_iload_n X dX2_bareBits_33 rfl ?_
    exact r_iret X dX2_bareBits_34 rfl w hk.1 hk.2
  · have w := w.2 q
    refine r_aload_n X dX2_bareBits_12 rfl ?_
    obtain ⟨v2, ev2, w⟩ := w
    obtain ⟨fv2, cv2, qv2⟩ := gN_s ev2
    refine r_getf X dX2_bareBits_13 fl_X2_24 cv2 qv2 ?_
    refine r_iload_n X dX2_bareBits_16 rfl ?_
    obtain ⟨v3, ev3, w⟩ := w
    obtain ⟨nv3, fv3, cv3, iv3, qv3⟩ := aI_s ev3
    refine r_iald X dX2_bareBits_17 cv3 iv3 ?_
    rw [qv3]
    refine r_if_ne X dX2_bareBits_18 (tgt := 27) (by decide) (fun q => ?_) (fun q => ?_)
    · have w := w.1 q
      refine VB_wk (ls' := [some (.ref l0), some (.ref l1), some (.int l2), some (.int l3)]) ?_ w
      exact (And.intro rfl (And.intro rfl (And.intro rfl (And.intro rfl trivial))))
    · have w := w.2 q
      refine r_iload_n X dX2_bareBits_21 rfl ?_
      refine r_iconst X dX2_bareBits_22 (v := 1) (by decide) ?_
      refine r_iload_n X dX2_bareBits_23 rfl ?_
      refine r_ishl X dX2_bareBits_24 ?_
      refine r_ior X dX2_bareBits_25 ?_
      refine r_istore_n X dX2_bareBits_26 (by decide) rfl ?_
      refine VB_wk (ls' := [some (.ref l0), some (.ref l1), some (.int ((l2 ||| ((1 : Int32) <<< (l3 &&& 31))))), some (.int l3)]) ?_ w
      exact (And.intro rfl (And.intro rfl (And.intro rfl (And.intro rfl trivial))))

set_option maxRecDepth 10000 in
theorem b_X2_bareBits_27 {g : GG} {K : KX} {D mc ms : Nat} {Pr : Option Value → Hp → Prop} {Pt : String → Hp → Prop} {kc ks : Nat} (hg : GOK g) (hD : 8 ≤ D) (hk : kc ≤ mc ∧ ks ≤ ms) (X : CB g K cX2_bareBits 4 yX2_bareBits (some (.int)) []) (l0 : Nat) (l1 : Nat) (l2 : Int32) (l3 : Int32) (h : Hp)
    (w : VB g K 4 D mc ms Pr Pt kc ks 4 [some (.ref l0), some (.ref l1), some (.int l2), some (.int ((l3 + 1)))] [] h) : VB g K 4 D mc ms Pr Pt kc ks 27 [some (.ref l0), some (.ref l1), some (.int l2), some (.int l3)] [] h := by
  obtain ⟨p, e, s, m, args, below, meth, c⟩ := K
  have X : CX g p s m args meth c cX2_bareBits 4 yX2_bareBits (some (.int)) [] := X
  have hz := hg s X.gk.z
  show VV g p e (rmm D mc ms) s m args below meth c 4 (QQ g below args s mc ms Pr Pt) kc ks 27 [some (.ref l0), some (.ref l1), some (.int l2), some (.int l3)] [] h
  refine r_iinc X dX2_bareBits_27 rfl (v := (l3 + 1)) rfl (by decide) rfl ?_
  refine r_goto X dX2_bareBits_30 (tgt := 4) (by decide) ?_
  refine VB_wk (ls' := [some (.ref l0), some (.ref l1), some (.int l2), some (.int ((l3 + 1)))]) ?_ w
  exact (And.intro rfl (And.intro rfl (And.intro rfl (And.intro rfl trivial))))

set_option maxRecDepth 10000 in
theorem b_X2_besideOf_0 {g : GG} {K : KX} {D mc ms : Nat} {Pr : Option Value → Hp → Prop} {Pt : String → Hp → Prop} {kc ks : Nat} (hg : GOK g) (hD : 8 ≤ D) (hk : kc ≤ mc ∧ ks ≤ ms) (X : CB g K cX2_besideOf 4 yX2_besideOf (some (.int)) []) (l0 : Nat) (l1 : Nat) (l2 : Int32) (h : Hp)
    (w : (∃ v1, gI h l1 9 0 = some v1 ∧ (∃ v2, gN h l0 2 1 = some v2 ∧ (((1 : Int32) ≤ l2 → VB g K 4 D mc ms Pr Pt kc ks 23 [some (.ref l0), none, some (.int l2), some (.int ((v1 - (1 : Int32))))] [.int ((l2 - (1 : Int32))), .ref v2] h) ∧ (¬ (1 : Int32) ≤ l2 → VB g K 4 D mc ms Pr Pt kc ks 23 [some (.ref l0), none, some (.int l2), some (.int ((v1 - (1 : Int32))))] [.int ((v1 - (1 : Int32))), .ref v2] h))))) : VB g K 4 D mc ms Pr Pt kc ks 0 [some (.ref l0), some (.ref l1), some (.int l2), none] [] h := by
  obtain ⟨p, e, s, m, args, below, meth, c⟩ := K
  have X : CX g p s m args meth c cX2_besideOf 4 yX2_besideOf (some (.int)) [] := X
  have hz := hg s X.gk.z
  show VV g p e (rmm D mc ms) s m args below meth c 4 (QQ g below args s mc ms Pr Pt) kc ks 0 [some (.ref l0), some (.ref l1), some (.int l2), none] [] h
  refine r_aload_n X dX2_besideOf_0 rfl ?_
  obtain ⟨v1, ev1, w⟩ := w
  obtain ⟨fv1, cv1, qv1⟩ := gI_s ev1
  refine r_getf X dX2_besideOf_1 fl_X2_40 cv1 qv1 ?_
  refine r_iconst X dX2_besideOf_4 (v := 1) (by decide) ?_
  refine r_isub X dX2_besideOf_5 ?_
  refine r_istore_n X dX2_besideOf_6 (by decide) rfl ?_
  refine r_aload_n X dX2_besideOf_7 rfl ?_
  obtain ⟨v2, ev2, w⟩ := w
  obtain ⟨fv2, cv2, qv2⟩ := gN_s ev2
  refine r_getf X dX2_besideOf_8 fl_X2_9 cv2 qv2 ?_
  refine r_iload_n X dX2_besideOf_11 rfl ?_
  refine r_iconst X dX2_besideOf_12 (v := 1) (by decide) ?_
  refine r_icmp_ge X dX2_besideOf_13 (tgt := 20) (by decide) (fun q => ?_) (fun q => ?_)
  · have w := w.1 q
    refine r_iload_n X dX2_besideOf_20 rfl ?_
    refine r_iconst X dX2_besideOf_21 (v := 1) (by decide) ?_
    refine r_isub X dX2_besideOf_22 ?_
    refine VB_wk (ls' := [some (.ref l0), none, some (.int l2), some (.int ((v1 - (1 : Int32))))]) ?_ w
    exact (And.intro rfl (And.intro rfl (And.intro rfl trivial)))
  · have w := w.2 q
    refine r_iload_n X dX2_besideOf_16 rfl ?_
    refine r_goto X dX2_besideOf_17 (tgt := 23) (by decide) ?_
    refine VB_wk (ls' := [some (.ref l0), none, some (.int l2), some (.int ((v1 - (1 : Int32))))]) ?_ w
    exact (And.intro rfl (And.intro rfl (And.intro rfl trivial)))

set_option maxRecDepth 10000 in
theorem b_X2_besideOf_23 {g : GG} {K : KX} {D mc ms : Nat} {Pr : Option Value → Hp → Prop} {Pt : String → Hp → Prop} {kc ks : Nat} (hg : GOK g) (hD : 8 ≤ D) (hk : kc ≤ mc ∧ ks ≤ ms) (X : CB g K cX2_besideOf 4 yX2_besideOf (some (.int)) []) (l0 : Nat) (l2 : Int32) (l3 : Int32) (s0 : Nat) (s1 : Int32) (h : Hp)
    (w : (∃ v1, aI h 0 s0 s1 = some v1 ∧ (∃ v2, gN h l0 2 1 = some v2 ∧ ((l2 < l3 → (∃ v3, aI h 0 v2 ((l2 + (1 : Int32))) = some v3 ∧ Pr (some (.int ((v1 + v3)))) h)) ∧ (¬ l2 < l3 → (∃ v4, aI h 0 v2 ((0 : Int32)) = some v4 ∧ Pr (some (.int ((v1 + v4)))) h)))))) : VB g K 4 D mc ms Pr Pt kc ks 23 [some (.ref l0), none, some (.int l2), some (.int l3)] [.int s1, .ref s0] h := by
  obtain ⟨p, e, s, m, args, below, meth, c⟩ := K
  have X : CX g p s m args meth c cX2_besideOf 4 yX2_besideOf (some (.int)) [] := X
  have hz := hg s X.gk.z
  show VV g p e (rmm D mc ms) s m args below meth c 4 (QQ g below args s mc ms Pr Pt) kc ks 23 [some (.ref l0), none, some (.int l2), some (.int l3)] [.int s1, .ref s0] h
  obtain ⟨v1, ev1, w⟩ := w
  obtain ⟨nv1, fv1, cv1, iv1, qv1⟩ := aI_s ev1
  refine r_iald X dX2_besideOf_23 cv1 iv1 ?_
  rw [qv1]
  refine r_aload_n X dX2_besideOf_24 rfl ?_
  obtain ⟨v2, ev2, w⟩ := w
  obtain ⟨fv2, cv2, qv2⟩ := gN_s ev2
  refine r_getf X dX2_besideOf_25 fl_X2_9 cv2 qv2 ?_
  refine r_iload_n X dX2_besideOf_28 rfl ?_
  refine r_iload_n X dX2_besideOf_29 rfl ?_
  refine r_icmp_lt X dX2_besideOf_30 (tgt := 37) (by decide) (fun q => ?_) (fun q => ?_)
  · have w := w.1 q
    refine r_iload_n X dX2_besideOf_37 rfl ?_
    refine r_iconst X dX2_besideOf_38 (v := 1) (by decide) ?_
    refine r_iadd X dX2_besideOf_39 ?_
    obtain ⟨v3, ev3, w⟩ := w
    obtain ⟨nv3, fv3, cv3, iv3, qv3⟩ := aI_s ev3
    refine r_iald X dX2_besideOf_40 cv3 iv3 ?_
    rw [qv3]
    refine r_iadd X dX2_besideOf_41 ?_
    exact r_iret X dX2_besideOf_42 rfl w hk.1 hk.2
  · have w := w.2 q
    refine r_iconst X dX2_besideOf_33 (v := 0) (by decide) ?_
    refine r_goto X dX2_besideOf_34 (tgt := 40) (by decide) ?_
    obtain ⟨v4, ev4, w⟩ := w
    obtain ⟨nv4, fv4, cv4, iv4, qv4⟩ := aI_s ev4
    refine r_iald X dX2_besideOf_40 cv4 iv4 ?_
    rw [qv4]
    refine r_iadd X dX2_besideOf_41 ?_
    exact r_iret X dX2_besideOf_42 rfl w hk.1 hk.2

set_option maxRecDepth 10000 in
theorem b_X2_copyFrom_0 {g : GG} {K : KX} {D mc ms : Nat} {Pr : Option Value → Hp → Prop} {Pt : String → Hp → Prop} {kc ks : Nat} (hg : GOK g) (hD : 8 ≤ D) (hk : kc ≤ mc ∧ ks ≤ ms) (X : CB g K cX2_copyFrom 2 yX2_copyFrom none []) (l0 : Nat) (l1 : Nat) (h : Hp)
    (w : (∃ v1, gI h l1 2 0 = some v1 ∧ (∃ h2, pF h l0 2 0 (.int v1) = some h2 ∧ (∃ v3, gN h2 l1 2 1 = some v3 ∧ (∃ v4, gN h2 l0 2 1 = some v4 ∧ (∃ h5, cpA h2 v3 ((0 : Int32)) v4 ((0 : Int32)) ((12 : Int32)) = some h5 ∧ (∃ v6, gN h5 l1 2 2 = some v6 ∧ (∃ v7, gN h5 l0 2 2 = some v7 ∧ (∃ h8, cpA h5 v6 ((0 : Int32)) v7 ((0 : Int32)) ((12 : Int32)) = some h8 ∧ (∃ v9, gN h8 l1 2 3 = some v9 ∧ (∃ v10, gN h8 l0 2 3 = some v10 ∧ (∃ h11, cpA h8 v9 ((0 : Int32)) v10 ((0 : Int32)) ((12 : Int32)) = some h11 ∧ (∃ v12, gN h11 l1 2 4 = some v12 ∧ (∃ v13, gN h11 l0 2 4 = some v13 ∧ (∃ h14, cpA h11 v12 ((0 : Int32)) v13 ((0 : Int32)) ((6 : Int32)) = some h14 ∧ (∃ v15, gN h14 l1 2 5 = some v15 ∧ (∃ v16, gN h14 l0 2 5 = some v16 ∧ (∃ h17, cpA h14 v15 ((0 : Int32)) v16 ((0 : Int32)) ((6 : Int32)) = some h17 ∧ Pr none h17)))))))))))))))))) : VB g K 2 D mc ms Pr Pt kc ks 0 [some (.ref l0), some (.ref l1)] [] h := by
  obtain ⟨p, e, s, m, args, below, meth, c⟩ := K
  have X : CX g p s m args meth c cX2_copyFrom 2 yX2_copyFrom none [] := X
  have hz := hg s X.gk.z
  show VV g p e (rmm D mc ms) s m args below meth c 2 (QQ g below args s mc ms Pr Pt) kc ks 0 [some (.ref l0), some (.ref l1)] [] h
  refine r_aload_n X dX2_copyFrom_0 rfl ?_
  refine r_aload_n X dX2_copyFrom_1 rfl ?_
  obtain ⟨v1, ev1, w⟩ := w
  obtain ⟨fv1, cv1, qv1⟩ := gI_s ev1
  refine r_getf X dX2_copyFrom_2 fl_X2_30 cv1 qv1 ?_
  obtain ⟨h2, eh2, w⟩ := w
  obtain ⟨fh2, ch2, lh2, rh2⟩ := pF_s eh2
  subst rh2
  refine r_putf X dX2_copyFrom_5 fw_X2_30 ch2 lh2 rfl rfl ?_
  refine r_aload_n X dX2_copyFrom_8 rfl ?_
  obtain ⟨v3, ev3, w⟩ := w
  obtain ⟨fv3, cv3, qv3⟩ := gN_s ev3
  refine r_getf X dX2_copyFrom_9 fl_X2_9 cv3 qv3 ?_
  refine r_iconst X dX2_copyFrom_12 (v := 0) (by decide) ?_
  refine r_aload_n X dX2_copyFrom_13 rfl ?_
  obtain ⟨v4, ev4, w⟩ := w
  obtain ⟨fv4, cv4, qv4⟩ := gN_s ev4
  refine r_getf X dX2_copyFrom_14 fl_X2_9 cv4 qv4 ?_
  refine r_iconst X dX2_copyFrom_17 (v := 0) (by decide) ?_
  refine r_bipush X dX2_copyFrom_18 (v := 12) (by decide) ?_
  obtain ⟨h5, eh5, w⟩ := w
  obtain ⟨nh5, fh5, mh5, kh5, x1, x2, x3, x4, x5, x6, x7, rh5⟩ := cpA_s eh5
  subst rh5
  refine r_copy X dX2_copyFrom_20 ac_X2_34 x1 x2 x3 x4 x5 x6 x7 (by refine ⟨?_, ?_⟩ <;> simp [rmm, Value.category, nativeFrameWords] <;> omega) ?_
  refine r_aload_n X dX2_copyFrom_23 rfl ?_
  obtain ⟨v6, ev6, w⟩ := w
  obtain ⟨fv6, cv6, qv6⟩ := gN_s ev6
  refine r_getf X dX2_copyFrom_24 fl_X2_15 cv6 qv6 ?_
  refine r_iconst X dX2_copyFrom_27 (v := 0) (by decide) ?_
  refine r_aload_n X dX2_copyFrom_28 rfl ?_
  obtain ⟨v7, ev7, w⟩ := w
  obtain ⟨fv7, cv7, qv7⟩ := gN_s ev7
  refine r_getf X dX2_copyFrom_29 fl_X2_15 cv7 qv7 ?_
  refine r_iconst X dX2_copyFrom_32 (v := 0) (by decide) ?_
  refine r_bipush X dX2_copyFrom_33 (v := 12) (by decide) ?_
  obtain ⟨h8, eh8, w⟩ := w
  obtain ⟨nh8, fh8, mh8, kh8, x1, x2, x3, x4, x5, x6, x7, rh8⟩ := cpA_s eh8
  subst rh8
  refine r_copy X dX2_copyFrom_35 ac_X2_34 x1 x2 x3 x4 x5 x6 x7 (by refine ⟨?_, ?_⟩ <;> simp [rmm, Value.category, nativeFrameWords] <;> omega) ?_
  refine r_aload_n X dX2_copyFrom_38 rfl ?_
  obtain ⟨v9, ev9, w⟩ := w
  obtain ⟨fv9, cv9, qv9⟩ := gN_s ev9
  refine r_getf X dX2_copyFrom_39 fl_X2_18 cv9 qv9 ?_
  refine r_iconst X dX2_copyFrom_42 (v := 0) (by decide) ?_
  refine r_aload_n X dX2_copyFrom_43 rfl ?_
  obtain ⟨v10, ev10, w⟩ := w
  obtain ⟨fv10, cv10, qv10⟩ := gN_s ev10
  refine r_getf X dX2_copyFrom_44 fl_X2_18 cv10 qv10 ?_
  refine r_iconst X dX2_copyFrom_47 (v := 0) (by decide) ?_
  refine r_bipush X dX2_copyFrom_48 (v := 12) (by decide) ?_
  obtain ⟨h11, eh11, w⟩ := w
  obtain ⟨nh11, fh11, mh11, kh11, x1, x2, x3, x4, x5, x6, x7, rh11⟩ := cpA_s eh11
  subst rh11
  refine r_copy X dX2_copyFrom_50 ac_X2_34 x1 x2 x3 x4 x5 x6 x7 (by refine ⟨?_, ?_⟩ <;> simp [rmm, Value.category, nativeFrameWords] <;> omega) ?_
  refine r_aload_n X dX2_copyFrom_53 rfl ?_
  obtain ⟨v12, ev12, w⟩ := w
  obtain ⟨fv12, cv12, qv12⟩ := gN_s ev12
  refine r_getf X dX2_copyFrom_54 fl_X2_21 cv12 qv12 ?_
  refine r_iconst X dX2_copyFrom_57 (v := 0) (by decide) ?_
  refine r_aload_n X dX2_copyFrom_58 rfl ?_
  obtain ⟨v13, ev13, w⟩ := w
  obtain ⟨fv13, cv13, qv13⟩ := gN_s ev13
  refine r_getf X dX2_copyFrom_59 fl_X2_21 cv13 qv13 ?_
  refine r_iconst X dX2_copyFrom_62 (v := 0) (by decide) ?_
  refine r_bipush X dX2_copyFrom_63 (v := 6) (by decide) ?_
  obtain ⟨h14, eh14, w⟩ := w
  obtain ⟨nh14, fh14, mh14, kh14, x1, x2, x3, x4, x5, x6, x7, rh14⟩ := cpA_s eh14
  subst rh14
  refine r_copy X dX2_copyFrom_65 ac_X2_34 x1 x2 x3 x4 x5 x6 x7 (by refine ⟨?_, ?_⟩ <;> simp [rmm, Value.category, nativeFrameWords] <;> omega) ?_
  refine r_aload_n X dX2_copyFrom_68 rfl ?_
  obtain ⟨v15, ev15, w⟩ := w
  obtain ⟨fv15, cv15, qv15⟩ := gN_s ev15
  refine r_getf X dX2_copyFrom_69 fl_X2_24 cv15 qv15 ?_
  refine r_iconst X dX2_copyFrom_72 (v := 0) (by decide) ?_
  refine r_aload_n X dX2_copyFrom_73 rfl ?_
  obtain ⟨v16, ev16, w⟩ := w
  obtain ⟨fv16, cv16, qv16⟩ := gN_s ev16
  refine r_getf X dX2_copyFrom_74 fl_X2_24 cv16 qv16 ?_
  refine r_iconst X dX2_copyFrom_77 (v := 0) (by decide) ?_
  refine r_bipush X dX2_copyFrom_78 (v := 6) (by decide) ?_
  obtain ⟨h17, eh17, w⟩ := w
  obtain ⟨nh17, fh17, mh17, kh17, x1, x2, x3, x4, x5, x6, x7, rh17⟩ := cpA_s eh17
  subst rh17
  refine r_copy X dX2_copyFrom_80 ac_X2_34 x1 x2 x3 x4 x5 x6 x7 (by refine ⟨?_, ?_⟩ <;> simp [rmm, Value.category, nativeFrameWords] <;> omega) ?_
  exact r_vret X dX2_copyFrom_83 rfl w hk.1 hk.2

set_option maxRecDepth 10000 in
theorem b_X2_fraysBy_0 {g : GG} {K : KX} {D mc ms : Nat} {Pr : Option Value → Hp → Prop} {Pt : String → Hp → Prop} {kc ks : Nat} (hg : GOK g) (hD : 8 ≤ D) (hk : kc ≤ mc ∧ ks ≤ ms) (X : CB g K cX2_fraysBy 4 yX2_fraysBy (some (.int)) []) (l0 : Nat) (l1 : Nat) (l2 : Int32) (h : Hp)
    (w : (∃ v1, gN h l1 9 7 = some v1 ∧ (∃ v2, gI h v1 6 0 = some v2 ∧ ((v2 = 0 → (∃ fs2, oF h l0 2 = some fs2 ∧ (∃ d2 P2 E2 m2 n2, CT g d2 yX2_fraysUntold (wsC yX2_fraysUntold cX2_fraysUntold 3 (some (.int))) [.ref l0, .int l2] h m2 n2 P2 E2 ∧ (d2 + 1 ≤ D ∧ kc + m2 ≤ mc ∧ ks + n2 ≤ ms) ∧ (∀ E h', E2 E h' → Pt E h') ∧ (∀ v h2, P2 v h2 → ∃ v4, v = some (.int v4) ∧ VB g K 4 D mc ms Pr Pt ((kc + m2)) ((ks + n2)) 28 [none, none, none, none] [.int v4] h2)))) ∧ (¬ v2 = 0 → (∃ v5, gN h l1 9 7 = some v5 ∧ (∃ fs5, oF h l1 9 = some fs5 ∧ (∃ d5 P5 E5 m5 n5, CT g d5 yX9_worthOf (wsC yX9_worthOf cX9_worthOf 7 (some (.int))) [.ref l1, .ref v5, .ref l0, .int l2] h m5 n5 P5 E5 ∧ (d5 + 1 ≤ D ∧ kc + m5 ≤ mc ∧ ks + n5 ≤ ms) ∧ (∀ E h', E5 E h' → Pt E h') ∧ (∀ v h5, P5 v h5 → ∃ v7, v = some (.int v7) ∧ VB g K 4 D mc ms Pr Pt ((kc + m5)) ((ks + n5)) 28 [none, none, none, none] [.int v7] h5))))))))) : VB g K 4 D mc ms Pr Pt kc ks 0 [some (.ref l0), some (.ref l1), some (.int l2), none] [] h := by
  obtain ⟨p, e, s, m, args, below, meth, c⟩ := K
  have X : CX g p s m args meth c cX2_fraysBy 4 yX2_fraysBy (some (.int)) [] := X
  have hz := hg s X.gk.z
  show VV g p e (rmm D mc ms) s m args below meth c 4 (QQ g below args s mc ms Pr Pt) kc ks 0 [some (.ref l0), some (.ref l1), some (.int l2), none] [] h
  refine r_aload_n X dX2_fraysBy_0 rfl ?_
  obtain ⟨v1, ev1, w⟩ := w
  obtain ⟨fv1, cv1, qv1⟩ := gN_s ev1
  refine r_getf X dX2_fraysBy_1 fl_X2_92 cv1 qv1 ?_
  obtain ⟨v2, ev2, w⟩ := w
  obtain ⟨fv2, cv2, qv2⟩ := gI_s ev2
  refine r_getf X dX2_fraysBy_4 fl_X2_78 cv2 qv2 ?_
  refine r_if_eq X dX2_fraysBy_7 (tgt := 23) (by decide) (fun q => ?_) (fun q => ?_)
  · have w := w.1 q
    refine r_aload_n X dX2_fraysBy_23 rfl ?_
    refine r_iload_n X dX2_fraysBy_24 rfl ?_
    obtain ⟨fs2, es2, w⟩ := w
    obtain ⟨d2, P2, E2, m2, n2, ct2, w⟩ := w
    obtain ⟨⟨x1, x2, x3⟩, w⟩ := w
    obtain ⟨x4, w⟩ := w
    refine r_callV X (As := [.int l2]) dX2_fraysBy_25 mk_X2_fraysUntold ⟨ml_X2_95, im_X2_fraysUntold, se_X2_fraysUntold⟩ (oF_s es2) (ci_X2).1 rfl rfl rfl (by simp [Value.category]) ⟨x1, by show 60 * (d2 + 1) + 200 ≤ 60 * D + 200; omega⟩ ⟨x2, x3⟩ ct2 x4 (fun _ z => nomatch z) (fun _ => ⟨x2, x3⟩) (fun v h2 w1 => ?_)
    have w := w v h2 w1
    have hk : kc + m2 ≤ mc ∧ ks + n2 ≤ ms := ⟨x2, x3⟩
    obtain ⟨v4, rfl, w⟩ := w
    refine VB_wk (ls' := [none, none, none, none]) ?_ w
    exact trivial
  · have w := w.2 q
    refine r_aload_n X dX2_fraysBy_10 rfl ?_
    refine r_aload_n X dX2_fraysBy_11 rfl ?_
    obtain ⟨v5, ev5, w⟩ := w
    obtain ⟨fv5, cv5, qv5⟩ := gN_s ev5
    refine r_getf X dX2_fraysBy_12 fl_X2_92 cv5 qv5 ?_
    refine r_aload_n X dX2_fraysBy_15 rfl ?_
    refine r_iload_n X dX2_fraysBy_16 rfl ?_
    obtain ⟨fs5, es5, w⟩ := w
    obtain ⟨d5, P5, E5, m5, n5, ct5, w⟩ := w
    obtain ⟨⟨x1, x2, x3⟩, w⟩ := w
    obtain ⟨x4, w⟩ := w
    refine r_callV X (As := [.ref v5, .ref l0, .int l2]) dX2_fraysBy_17 mk_X9_worthOf ⟨ml_X2_84, im_X9_worthOf, se_X9_worthOf⟩ (oF_s es5) (ci_X9).1 rfl rfl rfl (by simp [Value.category]) ⟨x1, by show 60 * (d5 + 1) + 200 ≤ 60 * D + 200; omega⟩ ⟨x2, x3⟩ ct5 x4 (fun _ z => nomatch z) (fun _ => ⟨x2, x3⟩) (fun v h5 w1 => ?_)
    have w := w v h5 w1
    have hk : kc + m5 ≤ mc ∧ ks + n5 ≤ ms := ⟨x2, x3⟩
    obtain ⟨v7, rfl, w⟩ := w
    refine r_goto X dX2_fraysBy_20 (tgt := 28) (by decide) ?_
    refine VB_wk (ls' := [none, none, none, none]) ?_ w
    exact trivial

set_option maxRecDepth 10000 in
theorem b_X2_fraysBy_28 {g : GG} {K : KX} {D mc ms : Nat} {Pr : Option Value → Hp → Prop} {Pt : String → Hp → Prop} {kc ks : Nat} (hg : GOK g) (hD : 8 ≤ D) (hk : kc ≤ mc ∧ ks ≤ ms) (X : CB g K cX2_fraysBy 4 yX2_fraysBy (some (.int)) []) (s0 : Int32) (h : Hp)
    (w : (∃ d0 P0 m0 n0, CT g d0 yX11_within (wsC yX11_within cX11_within 3 (some (.int))) [.int s0, .int ((0 : Int32)), .int ((20 : Int32))] h m0 n0 P0 noT ∧ (d0 + 1 ≤ D ∧ kc + m0 ≤ mc ∧ ks + n0 ≤ ms) ∧ (∀ v h0, P0 v h0 → ∃ v2, v = some (.int v2) ∧ Pr (some (.int v2)) h0))) : VB g K 4 D mc ms Pr Pt kc ks 28 [none, none, none, none] [.int s0] h := by
  obtain ⟨p, e, s, m, args, below, meth, c⟩ := K
  have X : CX g p s m args meth c cX2_fraysBy 4 yX2_fraysBy (some (.int)) [] := X
  have hz := hg s X.gk.z
  show VV g p e (rmm D mc ms) s m args below meth c 4 (QQ g below args s mc ms Pr Pt) kc ks 28 [none, none, none, none] [.int s0] h
  refine r_istore_n X dX2_fraysBy_28 (by decide) rfl ?_
  refine r_iload_n X dX2_fraysBy_29 rfl ?_
  refine r_iconst X dX2_fraysBy_30 (v := 0) (by decide) ?_
  refine r_bipush X dX2_fraysBy_31 (v := 20) (by decide) ?_
  obtain ⟨d0, P0, m0, n0, ct0, w⟩ := w
  obtain ⟨⟨x1, x2, x3⟩, w⟩ := w
  refine r_callSN X (As := [.int s0, .int ((0 : Int32)), .int ((20 : Int32))]) dX2_fraysBy_33 mk_X11_within sm_X11_within (hz.2.2.1 (.methodLinkNest RX2 88 yX11_within "HorizonSeam") (by decide +kernel)) rfl rfl (by simp [Value.category]) ⟨x1, by show 60 * (d0 + 1) + 200 ≤ 60 * D + 200; omega⟩ ⟨x2, x3⟩ ct0 (fun v h0 w1 => ?_)
  have w := w v h0 w1
  have hk : kc + m0 ≤ mc ∧ ks + n0 ≤ ms := ⟨x2, x3⟩
  obtain ⟨v2, rfl, w⟩ := w
  exact r_iret X dX2_fraysBy_36 rfl w hk.1 hk.2

set_option maxRecDepth 10000 in
theorem b_X2_fraysUntold_0 {g : GG} {K : KX} {D mc ms : Nat} {Pr : Option Value → Hp → Prop} {Pt : String → Hp → Prop} {kc ks : Nat} (hg : GOK g) (hD : 8 ≤ D) (hk : kc ≤ mc ∧ ks ≤ ms) (X : CB g K cX2_fraysUntold 3 yX2_fraysUntold (some (.int)) []) (l0 : Nat) (l1 : Int32) (h : Hp)
    (w : (∃ v1, gN h l0 2 1 = some v1 ∧ (∃ v2, aI h 0 v1 l1 = some v2 ∧ (∃ v3, gN h l0 2 3 = some v3 ∧ (∃ v4, aI h 0 v3 l1 = some v4 ∧ ((¬ v4 = (1 : Int32) → (∃ v5, gN h l0 2 3 = some v5 ∧ (∃ v6, aI h 0 v5 l1 = some v6 ∧ ((¬ v6 = (2 : Int32) → Pr (some (.int ((v2 / (9 : Int32))))) h) ∧ (v6 = (2 : Int32) → Pr (some (.int (((v2 / (9 : Int32)) / (3 : Int32))))) h))))) ∧ (v4 = (1 : Int32) → Pr (some (.int (((v2 / (9 : Int32)) / (2 : Int32))))) h))))))) : VB g K 3 D mc ms Pr Pt kc ks 0 [some (.ref l0), some (.int l1), none] [] h := by
  obtain ⟨p, e, s, m, args, below, meth, c⟩ := K
  have X : CX g p s m args meth c cX2_fraysUntold 3 yX2_fraysUntold (some (.int)) [] := X
  have hz := hg s X.gk.z
  show VV g p e (rmm D mc ms) s m args below meth c 3 (QQ g below args s mc ms Pr Pt) kc ks 0 [some (.ref l0), some (.int l1), none] [] h
  refine r_aload_n X dX2_fraysUntold_0 rfl ?_
  obtain ⟨v1, ev1, w⟩ := w
  obtain ⟨fv1, cv1, qv1⟩ := gN_s ev1
  refine r_getf X dX2_fraysUntold_1 fl_X2_9 cv1 qv1 ?_
  refine r_iload_n X dX2_fraysUntold_4 rfl ?_
  obtain ⟨v2, ev2, w⟩ := w
  obtain ⟨nv2, fv2, cv2, iv2, qv2⟩ := aI_s ev2
  refine r_iald X dX2_fraysUntold_5 cv2 iv2 ?_
  rw [qv2]
  refine r_bipush X dX2_fraysUntold_6 (v := 9) (by decide) ?_
  refine r_idiv X dX2_fraysUntold_8 (by decide) ?_
  refine r_istore_n X dX2_fraysUntold_9 (by decide) rfl ?_
  refine r_aload_n X dX2_fraysUntold_10 rfl ?_
  obtain ⟨v3, ev3, w⟩ := w
  obtain ⟨fv3, cv3, qv3⟩ := gN_s ev3
  refine r_getf X dX2_fraysUntold_11 fl_X2_18 cv3 qv3 ?_
  refine r_iload_n X dX2_fraysUntold_14 rfl ?_
  obtain ⟨v4, ev4, w⟩ := w
  obtain ⟨nv4, fv4, cv4, iv4, qv4⟩ := aI_s ev4
  refine r_iald X dX2_fraysUntold_15 cv4 iv4 ?_
  rw [qv4]
  refine r_iconst X dX2_fraysUntold_16 (v := 1) (by decide) ?_
  refine r_icmp_ne X dX2_fraysUntold_17 (tgt := 24) (by decide) (fun q => ?_) (fun q => ?_)
  · have w := w.1 q
    refine r_aload_n X dX2_fraysUntold_24 rfl ?_
    obtain ⟨v5, ev5, w⟩ := w
    obtain ⟨fv5, cv5, qv5⟩ := gN_s ev5
    refine r_getf X dX2_fraysUntold_25 fl_X2_18 cv5 qv5 ?_
    refine r_iload_n X dX2_fraysUntold_28 rfl ?_
    obtain ⟨v6, ev6, w⟩ := w
    obtain ⟨nv6, fv6, cv6, iv6, qv6⟩ := aI_s ev6
    refine r_iald X dX2_fraysUntold_29 cv6 iv6 ?_
    rw [qv6]
    refine r_iconst X dX2_fraysUntold_30 (v := 2) (by decide) ?_
    refine r_icmp_ne X dX2_fraysUntold_31 (tgt := 40) (by decide) (fun q => ?_) (fun q => ?_)
    · have w := w.1 q
      refine r_iload_n X dX2_fraysUntold_40 rfl ?_
      exact r_iret X dX2_fraysUntold_41 rfl w hk.1 hk.2
    · have w := w.2 q
      refine r_iload_n X dX2_fraysUntold_34 rfl ?_
      refine r_iconst X dX2_fraysUntold_35 (v := 3) (by decide) ?_
      refine r_idiv X dX2_fraysUntold_36 (by decide) ?_
      refine r_goto X dX2_fraysUntold_37 (tgt := 41) (by decide) ?_
      exact r_iret X dX2_fraysUntold_41 rfl w hk.1 hk.2
  · have w := w.2 q
    refine r_iload_n X dX2_fraysUntold_20 rfl ?_
    refine r_iconst X dX2_fraysUntold_21 (v := 2) (by decide) ?_
    refine r_idiv X dX2_fraysUntold_22 (by decide) ?_
    exact r_iret X dX2_fraysUntold_23 rfl w hk.1 hk.2

set_option maxRecDepth 10000 in
theorem b_X2_gale_0 {g : GG} {K : KX} {D mc ms : Nat} {Pr : Option Value → Hp → Prop} {Pt : String → Hp → Prop} {kc ks : Nat} (hg : GOK g) (hD : 8 ≤ D) (hk : kc ≤ mc ∧ ks ≤ ms) (X : CB g K cX2_gale 3 yX2_gale none []) (l0 : Nat) (l1 : Nat) (h : Hp)
    (w : VB g K 3 D mc ms Pr Pt kc ks 2 [some (.ref l0), some (.ref l1), some (.int ((0 : Int32)))] [] h) : VB g K 3 D mc ms Pr Pt kc ks 0 [some (.ref l0), some (.ref l1), none] [] h := by
  obtain ⟨p, e, s, m, args, below, meth, c⟩ := K
  have X : CX g p s m args meth c cX2_gale 3 yX2_gale none [] := X
  have hz := hg s X.gk.z
  show VV g p e (rmm D mc ms) s m args below meth c 3 (QQ g below args s mc ms Pr Pt) kc ks 0 [some (.ref l0), some (.ref l1), none] [] h
  refine r_iconst X dX2_gale_0 (v := 0) (by decide) ?_
  refine r_istore_n X dX2_gale_1 (by decide) rfl ?_
  refine VB_wk (ls' := [some (.ref l0), some (.ref l1), some (.int ((0 : Int32)))]) ?_ w
  exact (And.intro rfl (And.intro rfl (And.intro rfl trivial)))

set_option maxRecDepth 10000 in
theorem b_X2_gale_2 {g : GG} {K : KX} {D mc ms : Nat} {Pr : Option Value → Hp → Prop} {Pt : String → Hp → Prop} {kc ks : Nat} (hg : GOK g) (hD : 8 ≤ D) (hk : kc ≤ mc ∧ ks ≤ ms) (X : CB g K cX2_gale 3 yX2_gale none []) (l0 : Nat) (l1 : Nat) (l2 : Int32) (h : Hp)
    (w : (∃ v1, gI h l1 9 0 = some v1 ∧ ((v1 ≤ l2 → Pr none h) ∧ (¬ v1 ≤ l2 → (∃ fs1, oF h l0 2 = some fs1 ∧ (∃ d1 P1 E1 m1 n1, CT g d1 yX2_strainIfClosed (wsC yX2_strainIfClosed cX2_strainIfClosed 3 none) [.ref l0, .int l2, .int ((15 : Int32))] h m1 n1 P1 E1 ∧ (d1 + 1 ≤ D ∧ kc + m1 ≤ mc ∧ ks + n1 ≤ ms) ∧ (∀ E h', E1 E h' → Pt E h') ∧ (∀ v h1, P1 v h1 → v = none ∧ VB g K 3 D mc ms Pr Pt ((kc + m1)) ((ks + n1)) 2 [some (.ref l0), some (.ref l1), some (.int ((l2 + 1)))] [] h1))))))) : VB g K 3 D mc ms Pr Pt kc ks 2 [some (.ref l0), some (.ref l1), some (.int l2)] [] h := by
  obtain ⟨p, e, s, m, args, below, meth, c⟩ := K
  have X : CX g p s m args meth c cX2_gale 3 yX2_gale none [] := X
  have hz := hg s X.gk.z
  show VV g p e (rmm D mc ms) s m args below meth c 3 (QQ g below args s mc ms Pr Pt) kc ks 2 [some (.ref l0), some (.ref l1), some (.int l2)] [] h
  refine r_iload_n X dX2_gale_2 rfl ?_
  refine r_aload_n X dX2_gale_3 rfl ?_
  obtain ⟨v1, ev1, w⟩ := w
  obtain ⟨fv1, cv1, qv1⟩ := gI_s ev1
  refine r_getf X dX2_gale_4 fl_X2_40 cv1 qv1 ?_
  refine r_icmp_ge X dX2_gale_7 (tgt := 23) (by decide) (fun q => ?_) (fun q => ?_)
  · have w := w.1 q
    exact r_vret X dX2_gale_23 rfl w hk.1 hk.2
  · have w := w.2 q
    refine r_aload_n X dX2_gale_10 rfl ?_
    refine r_iload_n X dX2_gale_11 rfl ?_
    refine r_bipush X dX2_gale_12 (v := 15) (by decide) ?_
    obtain ⟨fs1, es1, w⟩ := w
    obtain ⟨d1, P1, E1, m1, n1, ct1, w⟩ := w
    obtain ⟨⟨x1, x2, x3⟩, w⟩ := w
    obtain ⟨x4, w⟩ := w
    refine r_callV X (As := [.int l2, .int ((15 : Int32))]) dX2_gale_14 mk_X2_strainIfClosed ⟨ml_X2_132, im_X2_strainIfClosed, se_X2_strainIfClosed⟩ (oF_s es1) (ci_X2).1 rfl rfl rfl (by simp [Value.category]) ⟨x1, by show 60 * (d1 + 1) + 200 ≤ 60 * D + 200; omega⟩ ⟨x2, x3⟩ ct1 x4 (fun _ z => nomatch z) (fun _ => ⟨x2, x3⟩) (fun v h1 w1 => ?_)
    have w := w v h1 w1
    have hk : kc + m1 ≤ mc ∧ ks + n1 ≤ ms := ⟨x2, x3⟩
    obtain ⟨rfl, w⟩ := w
    refine r_iinc X dX2_gale_17 rfl (v := (l2 + 1)) rfl (by decide) rfl ?_
    refine r_goto X dX2_gale_20 (tgt := 2) (by decide) ?_
    refine VB_wk (ls' := [some (.ref l0), some (.ref l1), some (.int ((l2 + 1)))]) ?_ w
    exact (And.intro rfl (And.intro rfl (And.intro rfl trivial)))

set_option maxRecDepth 10000 in
theorem b_X2_giveThread_0 {g : GG} {K : KX} {D mc ms : Nat} {Pr : Option Value → Hp → Prop} {Pt : String → Hp → Prop} {kc ks : Nat} (hg : GOK g) (hD : 8 ≤ D) (hk : kc ≤ mc ∧ ks ≤ ms) (X : CB g K cX2_giveThread 3 yX2_giveThread none []) (l0 : Nat) (l1 : Int32) (l2 : Int32) (h : Hp)
    (w : (∃ v1, gN h l0 2 5 = some v1 ∧ (∃ v2, gN h l0 2 5 = some v2 ∧ (∃ v3, aI h 0 v2 l1 = some v3 ∧ (∃ h4, uI h 0 v1 l1 ((if (v3 + l2) < (99 : Int32) then (v3 + l2) else (99 : Int32))) = some h4 ∧ Pr none h4))))) : VB g K 3 D mc ms Pr Pt kc ks 0 [some (.ref l0), some (.int l1), some (.int l2)] [] h := by
  obtain ⟨p, e, s, m, args, below, meth, c⟩ := K
  have X : CX g p s m args meth c cX2_giveThread 3 yX2_giveThread none [] := X
  have hz := hg s X.gk.z
  show VV g p e (rmm D mc ms) s m args below meth c 3 (QQ g below args s mc ms Pr Pt) kc ks 0 [some (.ref l0), some (.int l1), some (.int l2)] [] h
  refine r_aload_n X dX2_giveThread_0 rfl ?_
  obtain ⟨v1, ev1, w⟩ := w
  obtain ⟨fv1, cv1, qv1⟩ := gN_s ev1
  refine r_getf X dX2_giveThread_1 fl_X2_24 cv1 qv1 ?_
  refine r_iload_n X dX2_giveThread_4 rfl ?_
  refine r_bipush X dX2_giveThread_5 (v := 99) (by decide) ?_
  refine r_aload_n X dX2_giveThread_7 rfl ?_
  obtain ⟨v2, ev2, w⟩ := w
  obtain ⟨fv2, cv2, qv2⟩ := gN_s ev2
  refine r_getf X dX2_giveThread_8 fl_X2_24 cv2 qv2 ?_
  refine r_iload_n X dX2_giveThread_11 rfl ?_
  obtain ⟨v3, ev3, w⟩ := w
  obtain ⟨nv3, fv3, cv3, iv3, qv3⟩ := aI_s ev3
  refine r_iald X dX2_giveThread_12 cv3 iv3 ?_
  rw [qv3]
  refine r_iload_n X dX2_giveThread_13 rfl ?_
  refine r_iadd X dX2_giveThread_14 ?_
  refine r_mmin X dX2_giveThread_15 ma_X2_62 (by refine ⟨?_, ?_, ?_, ?_⟩ <;> simp [rmm, Value.category] <;> omega) ?_
  obtain ⟨h4, eh4, w⟩ := w
  obtain ⟨nh4, fh4, ch4, ih4, rh4⟩ := uI_s eh4
  subst rh4
  refine r_iast X dX2_giveThread_18 ch4 ih4 ?_
  exact r_vret X dX2_giveThread_19 rfl w hk.1 hk.2

set_option maxRecDepth 10000 in
theorem b_X2_goOn_0 {g : GG} {K : KX} {D mc ms : Nat} {Pr : Option Value → Hp → Prop} {Pt : String → Hp → Prop} {kc ks : Nat} (hg : GOK g) (hD : 8 ≤ D) (hk : kc ≤ mc ∧ ks ≤ ms) (X : CB g K cX2_goOn 3 yX2_goOn none []) (l0 : Nat) (l1 : Nat) (l2 : Int32) (h : Hp)
    (w : (∃ v1, gN h l0 2 4 = some v1 ∧ (∃ v2, gN h l0 2 4 = some v2 ∧ (∃ v3, aI h 0 v2 l2 = some v3 ∧ (∃ fs3, oF h l1 9 = some fs3 ∧ (∃ d3 P3 E3 m3 n3, CT g d3 yX9_after (wsC yX9_after cX9_after 2 (some (.int))) [.ref l1, .int v3] h m3 n3 P3 E3 ∧ (d3 + 1 ≤ D ∧ kc + m3 ≤ mc ∧ ks + n3 ≤ ms) ∧ (∀ E h', E3 E h' → Pt E h') ∧ (∀ v h3, P3 v h3 → ∃ v5, v = some (.int v5) ∧ (∃ h6, uI h3 0 v1 l2 v5 = some h6 ∧ Pr none h6)))))))) : VB g K 3 D mc ms Pr Pt kc ks 0 [some (.ref l0), some (.ref l1), some (.int l2)] [] h := by
  obtain ⟨p, e, s, m, args, below, meth, c⟩ := K
  have X : CX g p s m args meth c cX2_goOn 3 yX2_goOn none [] := X
  have hz := hg s X.gk.z
  show VV g p e (rmm D mc ms) s m args below meth c 3 (QQ g below args s mc ms Pr Pt) kc ks 0 [some (.ref l0), some (.ref l1), some (.int l2)] [] h
  refine r_aload_n X dX2_goOn_0 rfl ?_
  obtain ⟨v1, ev1, w⟩ := w
  obtain ⟨fv1, cv1, qv1⟩ := gN_s ev1
  refine r_getf X dX2_goOn_1 fl_X2_21 cv1 qv1 ?_
  refine r_iload_n X dX2_goOn_4 rfl ?_
  refine r_aload_n X dX2_goOn_5 rfl ?_
  refine r_aload_n X dX2_goOn_6 rfl ?_
  obtain ⟨v2, ev2, w⟩ := w
  obtain ⟨fv2, cv2, qv2⟩ := gN_s ev2
  refine r_getf X dX2_goOn_7 fl_X2_21 cv2 qv2 ?_
  refine r_iload_n X dX2_goOn_10 rfl ?_
  obtain ⟨v3, ev3, w⟩ := w
  obtain ⟨nv3, fv3, cv3, iv3, qv3⟩ := aI_s ev3
  refine r_iald X dX2_goOn_11 cv3 iv3 ?_
  rw [qv3]
  obtain ⟨fs3, es3, w⟩ := w
  obtain ⟨d3, P3, E3, m3, n3, ct3, w⟩ := w
  obtain ⟨⟨x1, x2, x3⟩, w⟩ := w
  obtain ⟨x4, w⟩ := w
  refine r_callV X (As := [.int v3]) dX2_goOn_12 mk_X9_after ⟨ml_X2_136, im_X9_after, se_X9_after⟩ (oF_s es3) (ci_X9).1 rfl rfl rfl (by simp [Value.category]) ⟨x1, by show 60 * (d3 + 1) + 200 ≤ 60 * D + 200; omega⟩ ⟨x2, x3⟩ ct3 x4 (fun _ z => nomatch z) (fun _ => ⟨x2, x3⟩) (fun v h3 w1 => ?_)
  have w := w v h3 w1
  have hk : kc + m3 ≤ mc ∧ ks + n3 ≤ ms := ⟨x2, x3⟩
  obtain ⟨v5, rfl, w⟩ := w
  obtain ⟨h6, eh6, w⟩ := w
  obtain ⟨nh6, fh6, ch6, ih6, rh6⟩ := uI_s eh6
  subst rh6
  refine r_iast X dX2_goOn_15 ch6 ih6 ?_
  exact r_vret X dX2_goOn_16 rfl w hk.1 hk.2

set_option maxRecDepth 10000 in
theorem b_X2_idleBits_0 {g : GG} {K : KX} {D mc ms : Nat} {Pr : Option Value → Hp → Prop} {Pt : String → Hp → Prop} {kc ks : Nat} (hg : GOK g) (hD : 8 ≤ D) (hk : kc ≤ mc ∧ ks ≤ ms) (X : CB g K cX2_idleBits 5 yX2_idleBits (some (.int)) []) (l0 : Nat) (l1 : Nat) (h : Hp)
    (w : (∃ fs0, oF h l0 2 = some fs0 ∧ (∃ d0 P0 E0 m0 n0, CT g d0 yX2_bareBits (wsC yX2_bareBits cX2_bareBits 4 (some (.int))) [.ref l0, .ref l1] h m0 n0 P0 E0 ∧ (d0 + 1 ≤ D ∧ kc + m0 ≤ mc ∧ ks + n0 ≤ ms) ∧ (∀ E h', E0 E h' → Pt E h') ∧ (∀ v h0, P0 v h0 → ∃ v2, v = some (.int v2) ∧ VB g K 5 D mc ms Pr Pt ((kc + m0)) ((ks + n0)) 8 [some (.ref l0), some (.ref l1), some (.int v2), some (.int ((0 : Int32))), none] [] h0)))) : VB g K 5 D mc ms Pr Pt kc ks 0 [some (.ref l0), some (.ref l1), none, none, none] [] h := by
  obtain ⟨p, e, s, m, args, below, meth, c⟩ := K
  have X : CX g p s m args meth c cX2_idleBits 5 yX2_idleBits (some (.int)) [] := X
  have hz := hg s X.gk.z
  show VV g p e (rmm D mc ms) s m args below meth c 5 (QQ g below args s mc ms Pr Pt) kc ks 0 [some (.ref l0), some (.ref l1), none, none, none] [] h
  refine r_aload_n X dX2_idleBits_0 rfl ?_
  refine r_aload_n X dX2_idleBits_1 rfl ?_
  obtain ⟨fs0, es0, w⟩ := w
  obtain ⟨d0, P0, E0, m0, n0, ct0, w⟩ := w
  obtain ⟨⟨x1, x2, x3⟩, w⟩ := w
  obtain ⟨x4, w⟩ := w
  refine r_callV X (As := [.ref l1]) dX2_idleBits_2 mk_X2_bareBits ⟨ml_X2_48, im_X2_bareBits, se_X2_bareBits⟩ (oF_s es0) (ci_X2).1 rfl rfl rfl (by simp [Value.category]) ⟨x1, by show 60 * (d0 + 1) + 200 ≤ 60 * D + 200; omega⟩ ⟨x2, x3⟩ ct0 x4 (fun _ z => nomatch z) (fun _ => ⟨x2, x3⟩) (fun v h0 w1 => ?_)
  have w := w v h0 w1
  have hk : kc + m0 ≤ mc ∧ ks + n0 ≤ ms := ⟨x2, x3⟩
  obtain ⟨v2, rfl, w⟩ := w
  refine r_istore_n X dX2_idleBits_5 (by decide) rfl ?_
  refine r_iconst X dX2_idleBits_6 (v := 0) (by decide) ?_
  refine r_istore_n X dX2_idleBits_7 (by decide) rfl ?_
  refine VB_wk (ls' := [some (.ref l0), some (.ref l1), some (.int v2), some (.int ((0 : Int32))), none]) ?_ w
  exact (And.intro rfl (And.intro rfl (And.intro rfl (And.intro rfl trivial))))

set_option maxRecDepth 10000 in
theorem b_X2_idleBits_8 {g : GG} {K : KX} {D mc ms : Nat} {Pr : Option Value → Hp → Prop} {Pt : String → Hp → Prop} {kc ks : Nat} (hg : GOK g) (hD : 8 ≤ D) (hk : kc ≤ mc ∧ ks ≤ ms) (X : CB g K cX2_idleBits 5 yX2_idleBits (some (.int)) []) (l0 : Nat) (l1 : Nat) (l2 : Int32) (l3 : Int32) (h : Hp)
    (w : (∃ v1, gI h l1 9 1 = some v1 ∧ ((v1 ≤ l3 → Pr (some (.int l2)) h) ∧ (¬ v1 ≤ l3 → (∃ v2, gN h l0 2 4 = some v2 ∧ (∃ v3, aI h 0 v2 l3 = some v3 ∧ (∃ fs3, oF h l0 2 = some fs3 ∧ (∃ d3 P3 E3 m3 n3, CT g d3 yX2_womenBits (wsC yX2_womenBits cX2_womenBits 5 (some (.int))) [.ref l0, .ref l1, .int v3] h m3 n3 P3 E3 ∧ (d3 + 1 ≤ D ∧ kc + m3 ≤ mc ∧ ks + n3 ≤ ms) ∧ (∀ E h', E3 E h' → Pt E h') ∧ (∀ v h3, P3 v h3 → ∃ v5, v = some (.int v5) ∧ (((v5 &&& (((1 : Int32) <<< (l3 &&& 31)) - (1 : Int32))) = 0 → VB g K 5 D mc ms Pr Pt ((kc + m3)) ((ks + n3)) 46 [some (.ref l0), some (.ref l1), some (.int l2), some (.int l3), none] [] h3) ∧ (¬ (v5 &&& (((1 : Int32) <<< (l3 &&& 31)) - (1 : Int32))) = 0 → VB g K 5 D mc ms Pr Pt ((kc + m3)) ((ks + n3)) 46 [some (.ref l0), some (.ref l1), some (.int ((l2 ||| ((1 : Int32) <<< (l3 &&& 31))))), some (.int l3), none] [] h3))))))))))) : VB g K 5 D mc ms Pr Pt kc ks 8 [some (.ref l0), some (.ref l1), some (.int l2), some (.int l3), none] [] h := by
  obtain ⟨p, e, s, m, args, below, meth, c⟩ := K
  have X : CX g p s m args meth c cX2_idleBits 5 yX2_idleBits (some (.int)) [] := X
  have hz := hg s X.gk.z
  show VV g p e (rmm D mc ms) s m args below meth c 5 (QQ g below args s mc ms Pr Pt) kc ks 8 [some (.ref l0), some (.ref l1), some (.int l2), some (.int l3), none] [] h
  refine r_iload_n X dX2_idleBits_8 rfl ?_
  refine r_aload_n X dX2_idleBits_9 rfl ?_
  obtain ⟨v1, ev1, w⟩ := w
  obtain ⟨fv1, cv1, qv1⟩ := gI_s ev1
  refine r_getf X dX2_idleBits_10 fl_X2_45 cv1 qv1 ?_
  refine r_icmp_ge X dX2_idleBits_13 (tgt := 52) (by decide) (fun q => ?_) (fun q => ?_)
  · have w := w.1 q
    refine r_iload_n X dX2_idleBits_52 rfl ?_
    exact r_iret X dX2_idleBits_53 rfl w hk.1 hk.2
  · have w := w.2 q
    refine r_iconst X dX2_idleBits_16 (v := 1) (by decide) ?_
    refine r_iload_n X dX2_idleBits_17 rfl ?_
    refine r_ishl X dX2_idleBits_18 ?_
    refine r_iconst X dX2_idleBits_19 (v := 1) (by decide) ?_
    refine r_isub X dX2_idleBits_20 ?_
    refine r_istore X dX2_idleBits_21 (by decide) rfl ?_
    refine r_aload_n X dX2_idleBits_23 rfl ?_
    refine r_aload_n X dX2_idleBits_24 rfl ?_
    refine r_aload_n X dX2_idleBits_25 rfl ?_
    obtain ⟨v2, ev2, w⟩ := w
    obtain ⟨fv2, cv2, qv2⟩ := gN_s ev2
    refine r_getf X dX2_idleBits_26 fl_X2_21 cv2 qv2 ?_
    refine r_iload_n X dX2_idleBits_29 rfl ?_
    obtain ⟨v3, ev3, w⟩ := w
    obtain ⟨nv3, fv3, cv3, iv3, qv3⟩ := aI_s ev3
    refine r_iald X dX2_idleBits_30 cv3 iv3 ?_
    rw [qv3]
    obtain ⟨fs3, es3, w⟩ := w
    obtain ⟨d3, P3, E3, m3, n3, ct3, w⟩ := w
    obtain ⟨⟨x1, x2, x3⟩, w⟩ := w
    obtain ⟨x4, w⟩ := w
    refine r_callV X (As := [.ref l1, .int v3]) dX2_idleBits_31 mk_X2_womenBits ⟨ml_X2_52, im_X2_womenBits, se_X2_womenBits⟩ (oF_s es3) (ci_X2).1 rfl rfl rfl (by simp [Value.category]) ⟨x1, by show 60 * (d3 + 1) + 200 ≤ 60 * D + 200; omega⟩ ⟨x2, x3⟩ ct3 x4 (fun _ z => nomatch z) (fun _ => ⟨x2, x3⟩) (fun v h3 w1 => ?_)
    have w := w v h3 w1
    have hk : kc + m3 ≤ mc ∧ ks + n3 ≤ ms := ⟨x2, x3⟩
    obtain ⟨v5, rfl, w⟩ := w
    refine r_iload X dX2_idleBits_34 rfl ?_
    refine r_iand X dX2_idleBits_36 ?_
    refine r_if_eq X dX2_idleBits_37 (tgt := 46) (by decide) (fun q => ?_) (fun q => ?_)
    · have w := w.1 q
      refine VB_wk (ls' := [some (.ref l0), some (.ref l1), some (.int l2), some (.int l3), none]) ?_ w
      exact (And.intro rfl (And.intro rfl (And.intro rfl (And.intro rfl trivial))))
    · have w := w.2 q
      refine r_iload_n X dX2_idleBits_40 rfl ?_
      refine r_iconst X dX2_idleBits_41 (v := 1) (by decide) ?_
      refine r_iload_n X dX2_idleBits_42 rfl ?_
      refine r_ishl X dX2_idleBits_43 ?_
      refine r_ior X dX2_idleBits_44 ?_
      refine r_istore_n X dX2_idleBits_45 (by decide) rfl ?_
      refine VB_wk (ls' := [some (.ref l0), some (.ref l1), some (.int ((l2 ||| ((1 : Int32) <<< (l3 &&& 31))))), some (.int l3), none]) ?_ w
      exact (And.intro rfl (And.intro rfl (And.intro rfl (And.intro rfl trivial))))

set_option maxRecDepth 10000 in
theorem b_X2_idleBits_46 {g : GG} {K : KX} {D mc ms : Nat} {Pr : Option Value → Hp → Prop} {Pt : String → Hp → Prop} {kc ks : Nat} (hg : GOK g) (hD : 8 ≤ D) (hk : kc ≤ mc ∧ ks ≤ ms) (X : CB g K cX2_idleBits 5 yX2_idleBits (some (.int)) []) (l0 : Nat) (l1 : Nat) (l2 : Int32) (l3 : Int32) (h : Hp)
    (w : VB g K 5 D mc ms Pr Pt kc ks 8 [some (.ref l0), some (.ref l1), some (.int l2), some (.int ((l3 + 1))), none] [] h) : VB g K 5 D mc ms Pr Pt kc ks 46 [some (.ref l0), some (.ref l1), some (.int l2), some (.int l3), none] [] h := by
  obtain ⟨p, e, s, m, args, below, meth, c⟩ := K
  have X : CX g p s m args meth c cX2_idleBits 5 yX2_idleBits (some (.int)) [] := X
  have hz := hg s X.gk.z
  show VV g p e (rmm D mc ms) s m args below meth c 5 (QQ g below args s mc ms Pr Pt) kc ks 46 [some (.ref l0), some (.ref l1), some (.int l2), some (.int l3), none] [] h
  refine r_iinc X dX2_idleBits_46 rfl (v := (l3 + 1)) rfl (by decide) rfl ?_
  refine r_goto X dX2_idleBits_49 (tgt := 8) (by decide) ?_
  refine VB_wk (ls' := [some (.ref l0), some (.ref l1), some (.int l2), some (.int ((l3 + 1))), none]) ?_ w
  exact (And.intro rfl (And.intro rfl (And.intro rfl (And.intro rfl trivial))))

set_option maxRecDepth 10000 in
theorem b_X2_init_0 {g : GG} {K : KX} {D mc ms : Nat} {Pr : Option Value → Hp → Prop} {Pt : String → Hp → Prop} {kc ks : Nat} (hg : GOK g) (hD : 8 ≤ D) (hk : kc ≤ mc ∧ ks ≤ ms) (X : CB g K cX2_init 1 yX2_init none []) (l0 : Nat) (h : Hp)
    (w : ((kc + 1 ≤ mc ∧ ks + 12 ≤ ms) ∧ (∃ h2, pF ((h ++ [arr0 0 12])) l0 2 1 (.ref ((h).length)) = some h2 ∧ (((kc + 1) + 1 ≤ mc ∧ (ks + 12) + 12 ≤ ms) ∧ (∃ h4, pF ((h2 ++ [arr0 0 12])) l0 2 2 (.ref ((h2).length)) = some h4 ∧ ((((kc + 1) + 1) + 1 ≤ mc ∧ ((ks + 12) + 12) + 12 ≤ ms) ∧ (∃ h6, pF ((h4 ++ [arr0 0 12])) l0 2 3 (.ref ((h4).length)) = some h6 ∧ (((((kc + 1) + 1) + 1) + 1 ≤ mc ∧ (((ks + 12) + 12) + 12) + 6 ≤ ms) ∧ (∃ h8, pF ((h6 ++ [arr0 0 6])) l0 2 4 (.ref ((h6).length)) = some h8 ∧ ((((((kc + 1) + 1) + 1) + 1) + 1 ≤ mc ∧ ((((ks + 12) + 12) + 12) + 6) + 6 ≤ ms) ∧ (∃ h10, pF ((h8 ++ [arr0 0 6])) l0 2 5 (.ref ((h8).length)) = some h10 ∧ (((((((kc + 1) + 1) + 1) + 1) + 1) + 1 ≤ mc ∧ (((((ks + 12) + 12) + 12) + 6) + 6) + 12 ≤ ms) ∧ (∃ h12, pF ((h10 ++ [arr0 0 12])) l0 2 6 (.ref ((h10).length)) = some h12 ∧ Pr none h12))))))))))))) : VB g K 1 D mc ms Pr Pt kc ks 0 [some (.ref l0)] [] h := by
  obtain ⟨p, e, s, m, args, below, meth, c⟩ := K
  have X : CX g p s m args meth c cX2_init 1 yX2_init none [] := X
  have hz := hg s X.gk.z
  show VV g p e (rmm D mc ms) s m args below meth c 1 (QQ g below args s mc ms Pr Pt) kc ks 0 [some (.ref l0)] [] h
  refine r_aload_n X dX2_init_0 rfl ?_
  refine r_objInit X dX2_init_1 ob_X2_3 (by show 1 ≤ D; omega) (by simp [rmm, Value.category]) ?_
  refine r_aload_n X dX2_init_4 rfl ?_
  refine r_bipush X dX2_init_5 (v := 12) (by decide) ?_
  obtain ⟨q1, w⟩ := w
  refine r_newa X dX2_init_7 (t := 0) (N := 12) (by decide) rfl ar_int (by decide) (by decide) (by decide) q1.1 q1.2 ?_
  have hk : (kc + 1) ≤ mc ∧ (ks + 12) ≤ ms := q1
  obtain ⟨h2, eh2, w⟩ := w
  obtain ⟨fh2, ch2, lh2, rh2⟩ := pF_s eh2
  subst rh2
  refine r_putF X dX2_init_9 fw_X2_9 rfl ch2 lh2 rfl rfl ?_
  refine r_aload_n X dX2_init_12 rfl ?_
  refine r_bipush X dX2_init_13 (v := 12) (by decide) ?_
  obtain ⟨q3, w⟩ := w
  refine r_newa X dX2_init_15 (t := 0) (N := 12) (by decide) rfl ar_int (by decide) (by decide) (by decide) q3.1 q3.2 ?_
  have hk : ((kc + 1) + 1) ≤ mc ∧ ((ks + 12) + 12) ≤ ms := q3
  obtain ⟨h4, eh4, w⟩ := w
  obtain ⟨fh4, ch4, lh4, rh4⟩ := pF_s eh4
  subst rh4
  refine r_putF X dX2_init_17 fw_X2_15 rfl ch4 lh4 rfl rfl ?_
  refine r_aload_n X dX2_init_20 rfl ?_
  refine r_bipush X dX2_init_21 (v := 12) (by decide) ?_
  obtain ⟨q5, w⟩ := w
  refine r_newa X dX2_init_23 (t := 0) (N := 12) (by decide) rfl ar_int (by decide) (by decide) (by decide) q5.1 q5.2 ?_
  have hk : (((kc + 1) + 1) + 1) ≤ mc ∧ (((ks + 12) + 12) + 12) ≤ ms := q5
  obtain ⟨h6, eh6, w⟩ := w
  obtain ⟨fh6, ch6, lh6, rh6⟩ := pF_s eh6
  subst rh6
  refine r_putF X dX2_init_25 fw_X2_18 rfl ch6 lh6 rfl rfl ?_
  refine r_aload_n X dX2_init_28 rfl ?_
  refine r_bipush X dX2_init_29 (v := 6) (by decide) ?_
  obtain ⟨q7, w⟩ := w
  refine r_newa X dX2_init_31 (t := 0) (N := 6) (by decide) rfl ar_int (by decide) (by decide) (by decide) q7.1 q7.2 ?_
  have hk : ((((kc + 1) + 1) + 1) + 1) ≤ mc ∧ ((((ks + 12) + 12) + 12) + 6) ≤ ms := q7
  obtain ⟨h8, eh8, w⟩ := w
  obtain ⟨fh8, ch8, lh8, rh8⟩ := pF_s eh8
  subst rh8
  refine r_putF X dX2_init_33 fw_X2_21 rfl ch8 lh8 rfl rfl ?_
  refine r_aload_n X dX2_init_36 rfl ?_
  refine r_bipush X dX2_init_37 (v := 6) (by decide) ?_
  obtain ⟨q9, w⟩ := w
  refine r_newa X dX2_init_39 (t := 0) (N := 6) (by decide) rfl ar_int (by decide) (by decide) (by decide) q9.1 q9.2 ?_
  have hk : (((((kc + 1) + 1) + 1) + 1) + 1) ≤ mc ∧ (((((ks + 12) + 12) + 12) + 6) + 6) ≤ ms := q9
  obtain ⟨h10, eh10, w⟩ := w
  obtain ⟨fh10, ch10, lh10, rh10⟩ := pF_s eh10
  subst rh10
  refine r_putF X dX2_init_41 fw_X2_24 rfl ch10 lh10 rfl rfl ?_
  refine r_aload_n X dX2_init_44 rfl ?_
  refine r_bipush X dX2_init_45 (v := 12) (by decide) ?_
  obtain ⟨q11, w⟩ := w
  refine r_newa X dX2_init_47 (t := 0) (N := 12) (by decide) rfl ar_int (by decide) (by decide) (by decide) q11.1 q11.2 ?_
  have hk : ((((((kc + 1) + 1) + 1) + 1) + 1) + 1) ≤ mc ∧ ((((((ks + 12) + 12) + 12) + 6) + 6) + 12) ≤ ms := q11
  obtain ⟨h12, eh12, w⟩ := w
  obtain ⟨fh12, ch12, lh12, rh12⟩ := pF_s eh12
  subst rh12
  refine r_putF X dX2_init_49 fw_X2_27 rfl ch12 lh12 rfl rfl ?_
  exact r_vret X dX2_init_52 rfl w hk.1 hk.2

set_option maxRecDepth 10000 in
theorem b_X2_isLike_0 {g : GG} {K : KX} {D mc ms : Nat} {Pr : Option Value → Hp → Prop} {Pt : String → Hp → Prop} {kc ks : Nat} (hg : GOK g) (hD : 8 ≤ D) (hk : kc ≤ mc ∧ ks ≤ ms) (X : CB g K cX2_isLike 4 yX2_isLike (some (.boolean)) []) (l0 : Nat) (l1 : Nat) (l2 : Nat) (h : Hp)
    (w : VB g K 4 D mc ms Pr Pt kc ks 2 [some (.ref l0), some (.ref l1), some (.ref l2), some (.int ((0 : Int32)))] [] h) : VB g K 4 D mc ms Pr Pt kc ks 0 [some (.ref l0), some (.ref l1), some (.ref l2), none] [] h := by
  obtain ⟨p, e, s, m, args, below, meth, c⟩ := K
  have X : CX g p s m args meth c cX2_isLike 4 yX2_isLike (some (.boolean)) [] := X
  have hz := hg s X.gk.z
  show VV g p e (rmm D mc ms) s m args below meth c 4 (QQ g below args s mc ms Pr Pt) kc ks 0 [some (.ref l0), some (.ref l1), some (.ref l2), none] [] h
  refine r_iconst X dX2_isLike_0 (v := 0) (by decide) ?_
  refine r_istore_n X dX2_isLike_1 (by decide) rfl ?_
  refine VB_wk (ls' := [some (.ref l0), some (.ref l1), some (.ref l2), some (.int ((0 : Int32)))]) ?_ w
  exact (And.intro rfl (And.intro rfl (And.intro rfl (And.intro rfl trivial))))

set_option maxRecDepth 10000 in
theorem b_X2_isLike_2 {g : GG} {K : KX} {D mc ms : Nat} {Pr : Option Value → Hp → Prop} {Pt : String → Hp → Prop} {kc ks : Nat} (hg : GOK g) (hD : 8 ≤ D) (hk : kc ≤ mc ∧ ks ≤ ms) (X : CB g K cX2_isLike 4 yX2_isLike (some (.boolean)) []) (l0 : Nat) (l1 : Nat) (l2 : Nat) (l3 : Int32) (h : Hp)
    (w : (∃ v1, gI h l2 9 0 = some v1 ∧ ((v1 ≤ l3 → (isB ((1 : Int32)) ∧ Pr (some (.int ((1 : Int32)))) h)) ∧ (¬ v1 ≤ l3 → (∃ v2, gN h l0 2 1 = some v2 ∧ (∃ v3, aI h 0 v2 l3 = some v3 ∧ (∃ v4, gN h l1 2 1 = some v4 ∧ (∃ v5, aI h 0 v4 l3 = some v5 ∧ ((¬ v3 = v5 → (isB ((0 : Int32)) ∧ Pr (some (.int ((0 : Int32)))) h)) ∧ (v3 = v5 → (∃ v6, gN h l0 2 2 = some v6 ∧ (∃ v7, aI h 0 v6 l3 = some v7 ∧ (∃ v8, gN h l1 2 2 = some v8 ∧ (∃ v9, aI h 0 v8 l3 = some v9 ∧ ((v7 = v9 → VB g K 4 D mc ms Pr Pt kc ks 2 [some (.ref l0), some (.ref l1), some (.ref l2), some (.int ((l3 + 1)))] [] h) ∧ (¬ v7 = v9 → (isB ((0 : Int32)) ∧ Pr (some (.int ((0 : Int32)))) h))))))))))))))))) : VB g K 4 D mc ms Pr Pt kc ks 2 [some (.ref l0), some (.ref l1), some (.ref l2), some (.int l3)] [] h := by
  obtain ⟨p, e, s, m, args, below, meth, c⟩ := K
  have X : CX g p s m args meth c cX2_isLike 4 yX2_isLike (some (.boolean)) [] := X
  have hz := hg s X.gk.z
  show VV g p e (rmm D mc ms) s m args below meth c 4 (QQ g below args s mc ms Pr Pt) kc ks 2 [some (.ref l0), some (.ref l1), some (.ref l2), some (.int l3)] [] h
  refine r_iload_n X dX2_isLike_2 rfl ?_
  refine r_aload_n X dX2_isLike_3 rfl ?_
  obtain ⟨v1, ev1, w⟩ := w
  obtain ⟨fv1, cv1, qv1⟩ := gI_s ev1
  refine r_getf X dX2_isLike_4 fl_X2_40 cv1 qv1 ?_
  refine r_icmp_ge X dX2_isLike_7 (tgt := 48) (by decide) (fun q => ?_) (fun q => ?_)
  · have w := w.1 q
    refine r_iconst X dX2_isLike_48 (v := 1) (by decide) ?_
    exact r_zret X dX2_isLike_49 rfl (isB_n w.1) w.2 hk.1 hk.2
  · have w := w.2 q
    refine r_aload_n X dX2_isLike_10 rfl ?_
    obtain ⟨v2, ev2, w⟩ := w
    obtain ⟨fv2, cv2, qv2⟩ := gN_s ev2
    refine r_getf X dX2_isLike_11 fl_X2_9 cv2 qv2 ?_
    refine r_iload_n X dX2_isLike_14 rfl ?_
    obtain ⟨v3, ev3, w⟩ := w
    obtain ⟨nv3, fv3, cv3, iv3, qv3⟩ := aI_s ev3
    refine r_iald X dX2_isLike_15 cv3 iv3 ?_
    rw [qv3]
    refine r_aload_n X dX2_isLike_16 rfl ?_
    obtain ⟨v4, ev4, w⟩ := w
    obtain ⟨fv4, cv4, qv4⟩ := gN_s ev4
    refine r_getf X dX2_isLike_17 fl_X2_9 cv4 qv4 ?_
    refine r_iload_n X dX2_isLike_20 rfl ?_
    obtain ⟨v5, ev5, w⟩ := w
    obtain ⟨nv5, fv5, cv5, iv5, qv5⟩ := aI_s ev5
    refine r_iald X dX2_isLike_21 cv5 iv5 ?_
    rw [qv5]
    refine r_icmp_ne X dX2_isLike_22 (tgt := 40) (by decide) (fun q => ?_) (fun q => ?_)
    · have w := w.1 q
      refine r_iconst X dX2_isLike_40 (v := 0) (by decide) ?_
      exact r_zret X dX2_isLike_41 rfl (isB_n w.1) w.2 hk.1 hk.2
    · have w := w.2 q
      refine r_aload_n X dX2_isLike_25 rfl ?_
      obtain ⟨v6, ev6, w⟩ := w
      obtain ⟨fv6, cv6, qv6⟩ := gN_s ev6
      refine r_getf X dX2_isLike_26 fl_X2_15 cv6 qv6 ?_
      refine r_iload_n X dX2_isLike_29 rfl ?_
      obtain ⟨v7, ev7, w⟩ := w
      obtain ⟨nv7, fv7, cv7, iv7, qv7⟩ := aI_s ev7
      refine r_iald X dX2_isLike_30 cv7 iv7 ?_
      rw [qv7]
      refine r_aload_n X dX2_isLike_31 rfl ?_
      obtain ⟨v8, ev8, w⟩ := w
      obtain ⟨fv8, cv8, qv8⟩ := gN_s ev8
      refine r_getf X dX2_isLike_32 fl_X2_15 cv8 qv8 ?_
      refine r_iload_n X dX2_isLike_35 rfl ?_
      obtain ⟨v9, ev9, w⟩ := w
      obtain ⟨nv9, fv9, cv9, iv9, qv9⟩ := aI_s ev9
      refine r_iald X dX2_isLike_36 cv9 iv9 ?_
      rw [qv9]
      refine r_icmp_eq X dX2_isLike_37 (tgt := 42) (by decide) (fun q => ?_) (fun q => ?_)
      · have w := w.1 q
        refine r_iinc X dX2_isLike_42 rfl (v := (l3 + 1)) rfl (by decide) rfl ?_
        refine r_goto X dX2_isLike_45 (tgt := 2) (by decide) ?_
        refine VB_wk (ls' := [some (.ref l0), some (.ref l1), some (.ref l2), some (.int ((l3 + 1)))]) ?_ w
        exact (And.intro rfl (And.intro rfl (And.intro rfl (And.intro rfl trivial))))
      · have w := w.2 q
        refine r_iconst X dX2_isLike_40 (v := 0) (by decide) ?_
        exact r_zret X dX2_isLike_41 rfl (isB_n w.1) w.2 hk.1 hk.2

set_option maxRecDepth 10000 in
theorem b_X2_isOpen_0 {g : GG} {K : KX} {D mc ms : Nat} {Pr : Option Value → Hp → Prop} {Pt : String → Hp → Prop} {kc ks : Nat} (hg : GOK g) (hD : 8 ≤ D) (hk : kc ≤ mc ∧ ks ≤ ms) (X : CB g K cX2_isOpen 2 yX2_isOpen (some (.boolean)) []) (l0 : Nat) (l1 : Int32) (h : Hp)
    (w : (∃ v1, gN h l0 2 2 = some v1 ∧ (∃ v2, aI h 0 v1 l1 = some v2 ∧ ((¬ v2 = 0 → (isB ((0 : Int32)) ∧ Pr (some (.int ((0 : Int32)))) h)) ∧ (v2 = 0 → (isB ((1 : Int32)) ∧ Pr (some (.int ((1 : Int32)))) h)))))) : VB g K 2 D mc ms Pr Pt kc ks 0 [some (.ref l0), some (.int l1)] [] h := by
  obtain ⟨p, e, s, m, args, below, meth, c⟩ := K
  have X : CX g p s m args meth c cX2_isOpen 2 yX2_isOpen (some (.boolean)) [] := X
  have hz := hg s X.gk.z
  show VV g p e (rmm D mc ms) s m args below meth c 2 (QQ g below args s mc ms Pr Pt) kc ks 0 [some (.ref l0), some (.int l1)] [] h
  refine r_aload_n X dX2_isOpen_0 rfl ?_
  obtain ⟨v1, ev1, w⟩ := w
  obtain ⟨fv1, cv1, qv1⟩ := gN_s ev1
  refine r_getf X dX2_isOpen_1 fl_X2_15 cv1 qv1 ?_
  refine r_iload_n X dX2_isOpen_4 rfl ?_
  obtain ⟨v2, ev2, w⟩ := w
  obtain ⟨nv2, fv2, cv2, iv2, qv2⟩ := aI_s ev2
  refine r_iald X dX2_isOpen_5 cv2 iv2 ?_
  rw [qv2]
  refine r_if_ne X dX2_isOpen_6 (tgt := 13) (by decide) (fun q => ?_) (fun q => ?_)
  · have w := w.1 q
    refine r_iconst X dX2_isOpen_13 (v := 0) (by decide) ?_
    exact r_zret X dX2_isOpen_14 rfl (isB_n w.1) w.2 hk.1 hk.2
  · have w := w.2 q
    refine r_iconst X dX2_isOpen_9 (v := 1) (by decide) ?_
    refine r_goto X dX2_isOpen_10 (tgt := 14) (by decide) ?_
    exact r_zret X dX2_isOpen_14 rfl (isB_n w.1) w.2 hk.1 hk.2

set_option maxRecDepth 10000 in
theorem b_X2_leastStrain_0 {g : GG} {K : KX} {D mc ms : Nat} {Pr : Option Value → Hp → Prop} {Pt : String → Hp → Prop} {kc ks : Nat} (hg : GOK g) (hD : 8 ≤ D) (hk : kc ≤ mc ∧ ks ≤ ms) (X : CB g K cX2_leastStrain 4 yX2_leastStrain (some (.int)) []) (l0 : Nat) (l1 : Nat) (h : Hp)
    (w : (∃ v1, gN h l0 2 1 = some v1 ∧ (∃ v2, aI h 0 v1 ((0 : Int32)) = some v2 ∧ VB g K 4 D mc ms Pr Pt kc ks 9 [some (.ref l0), some (.ref l1), some (.int v2), some (.int ((1 : Int32)))] [] h))) : VB g K 4 D mc ms Pr Pt kc ks 0 [some (.ref l0), some (.ref l1), none, none] [] h := by
  obtain ⟨p, e, s, m, args, below, meth, c⟩ := K
  have X : CX g p s m args meth c cX2_leastStrain 4 yX2_leastStrain (some (.int)) [] := X
  have hz := hg s X.gk.z
  show VV g p e (rmm D mc ms) s m args below meth c 4 (QQ g below args s mc ms Pr Pt) kc ks 0 [some (.ref l0), some (.ref l1), none, none] [] h
  refine r_aload_n X dX2_leastStrain_0 rfl ?_
  obtain ⟨v1, ev1, w⟩ := w
  obtain ⟨fv1, cv1, qv1⟩ := gN_s ev1
  refine r_getf X dX2_leastStrain_1 fl_X2_9 cv1 qv1 ?_
  refine r_iconst X dX2_leastStrain_4 (v := 0) (by decide) ?_
  obtain ⟨v2, ev2, w⟩ := w
  obtain ⟨nv2, fv2, cv2, iv2, qv2⟩ := aI_s ev2
  refine r_iald X dX2_leastStrain_5 cv2 iv2 ?_
  rw [qv2]
  refine r_istore_n X dX2_leastStrain_6 (by decide) rfl ?_
  refine r_iconst X dX2_leastStrain_7 (v := 1) (by decide) ?_
  refine r_istore_n X dX2_leastStrain_8 (by decide) rfl ?_
  refine VB_wk (ls' := [some (.ref l0), some (.ref l1), some (.int v2), some (.int ((1 : Int32)))]) ?_ w
  exact (And.intro rfl (And.intro rfl (And.intro rfl (And.intro rfl trivial))))

set_option maxRecDepth 10000 in
theorem b_X2_leastStrain_9 {g : GG} {K : KX} {D mc ms : Nat} {Pr : Option Value → Hp → Prop} {Pt : String → Hp → Prop} {kc ks : Nat} (hg : GOK g) (hD : 8 ≤ D) (hk : kc ≤ mc ∧ ks ≤ ms) (X : CB g K cX2_leastStrain 4 yX2_leastStrain (some (.int)) []) (l0 : Nat) (l1 : Nat) (l2 : Int32) (l3 : Int32) (h : Hp)
    (w : (∃ v1, gI h l1 9 0 = some v1 ∧ ((v1 ≤ l3 → Pr (some (.int l2)) h) ∧ (¬ v1 ≤ l3 → (∃ v2, gN h l0 2 1 = some v2 ∧ (∃ v3, aI h 0 v2 l3 = some v3 ∧ VB g K 4 D mc ms Pr Pt kc ks 9 [some (.ref l0), some (.ref l1), some (.int ((if v3 < l2 then v3 else l2))), some (.int ((l3 + 1)))] [] h)))))) : VB g K 4 D mc ms Pr Pt kc ks 9 [some (.ref l0), some (.ref l1), some (.int l2), some (.int l3)] [] h := by
  obtain ⟨p, e, s, m, args, below, meth, c⟩ := K
  have X : CX g p s m args meth c cX2_leastStrain 4 yX2_leastStrain (some (.int)) [] := X
  have hz := hg s X.gk.z
  show VV g p e (rmm D mc ms) s m args below meth c 4 (QQ g below args s mc ms Pr Pt) kc ks 9 [some (.ref l0), some (.ref l1), some (.int l2), some (.int l3)] [] h
  refine r_iload_n X dX2_leastStrain_9 rfl ?_
  refine r_aload_n X dX2_leastStrain_10 rfl ?_
  obtain ⟨v1, ev1, w⟩ := w
  obtain ⟨fv1, cv1, qv1⟩ := gI_s ev1
  refine r_getf X dX2_leastStrain_11 fl_X2_40 cv1 qv1 ?_
  refine r_icmp_ge X dX2_leastStrain_14 (tgt := 34) (by decide) (fun q => ?_) (fun q => ?_)
  · have w := w.1 q
    refine r_iload_n X dX2_leastStrain_34 rfl ?_
    exact r_iret X dX2_leastStrain_35 rfl w hk.1 hk.2
  · have w := w.2 q
    refine r_iload_n X dX2_leastStrain_17 rfl ?_
    refine r_aload_n X dX2_leastStrain_18 rfl ?_
    obtain ⟨v2, ev2, w⟩ := w
    obtain ⟨fv2, cv2, qv2⟩ := gN_s ev2
    refine r_getf X dX2_leastStrain_19 fl_X2_9 cv2 qv2 ?_
    refine r_iload_n X dX2_leastStrain_22 rfl ?_
    obtain ⟨v3, ev3, w⟩ := w
    obtain ⟨nv3, fv3, cv3, iv3, qv3⟩ := aI_s ev3
    refine r_iald X dX2_leastStrain_23 cv3 iv3 ?_
    rw [qv3]
    refine r_mmin X dX2_leastStrain_24 ma_X2_62 (by refine ⟨?_, ?_, ?_, ?_⟩ <;> simp [rmm, Value.category] <;> omega) ?_
    refine r_istore_n X dX2_leastStrain_27 (by decide) rfl ?_
    refine r_iinc X dX2_leastStrain_28 rfl (v := (l3 + 1)) rfl (by decide) rfl ?_
    refine r_goto X dX2_leastStrain_31 (tgt := 9) (by decide) ?_
    refine VB_wk (ls' := [some (.ref l0), some (.ref l1), some (.int ((if v3 < l2 then v3 else l2))), some (.int ((l3 + 1)))]) ?_ w
    exact (And.intro rfl (And.intro rfl (And.intro rfl (And.intro rfl trivial))))

set_option maxRecDepth 10000 in
theorem b_X2_mendAll_0 {g : GG} {K : KX} {D mc ms : Nat} {Pr : Option Value → Hp → Prop} {Pt : String → Hp → Prop} {kc ks : Nat} (hg : GOK g) (hD : 8 ≤ D) (hk : kc ≤ mc ∧ ks ≤ ms) (X : CB g K cX2_mendAll 3 yX2_mendAll none []) (l0 : Nat) (l1 : Nat) (h : Hp)
    (w : VB g K 3 D mc ms Pr Pt kc ks 2 [some (.ref l0), some (.ref l1), some (.int ((0 : Int32)))] [] h) : VB g K 3 D mc ms Pr Pt kc ks 0 [some (.ref l0), some (.ref l1), none] [] h := by
  obtain ⟨p, e, s, m, args, below, meth, c⟩ := K
  have X : CX g p s m args meth c cX2_mendAll 3 yX2_mendAll none [] := X
  have hz := hg s X.gk.z
  show VV g p e (rmm D mc ms) s m args below meth c 3 (QQ g below args s mc ms Pr Pt) kc ks 0 [some (.ref l0), some (.ref l1), none] [] h
  refine r_iconst X dX2_mendAll_0 (v := 0) (by decide) ?_
  refine r_istore_n X dX2_mendAll_1 (by decide) rfl ?_
  refine VB_wk (ls' := [some (.ref l0), some (.ref l1), some (.int ((0 : Int32)))]) ?_ w
  exact (And.intro rfl (And.intro rfl (And.intro rfl trivial)))

set_option maxRecDepth 10000 in
theorem b_X2_mendAll_2 {g : GG} {K : KX} {D mc ms : Nat} {Pr : Option Value → Hp → Prop} {Pt : String → Hp → Prop} {kc ks : Nat} (hg : GOK g) (hD : 8 ≤ D) (hk : kc ≤ mc ∧ ks ≤ ms) (X : CB g K cX2_mendAll 3 yX2_mendAll none []) (l0 : Nat) (l1 : Nat) (l2 : Int32) (h : Hp)
    (w : (∃ v1, gI h l1 9 1 = some v1 ∧ ((v1 ≤ l2 → Pr none h) ∧ (¬ v1 ≤ l2 → (∃ fs1, oF h l0 2 = some fs1 ∧ (∃ d1 P1 E1 m1 n1, CT g d1 yX2_mendBy (wsC yX2_mendBy cX2_mendBy 4 none) [.ref l0, .ref l1, .int l2] h m1 n1 P1 E1 ∧ (d1 + 1 ≤ D ∧ kc + m1 ≤ mc ∧ ks + n1 ≤ ms) ∧ (∀ E h', E1 E h' → Pt E h') ∧ (∀ v h1, P1 v h1 → v = none ∧ (∃ fs2, oF h1 l0 2 = some fs2 ∧ (∃ d2 P2 E2 m2 n2, CT g d2 yX2_goOn (wsC yX2_goOn cX2_goOn 3 none) [.ref l0, .ref l1, .int l2] h1 m2 n2 P2 E2 ∧ (d2 + 1 ≤ D ∧ (kc + m1) + m2 ≤ mc ∧ (ks + n1) + n2 ≤ ms) ∧ (∀ E h', E2 E h' → Pt E h') ∧ (∀ v h2, P2 v h2 → v = none ∧ VB g K 3 D mc ms Pr Pt (((kc + m1) + m2)) (((ks + n1) + n2)) 2 [some (.ref l0), some (.ref l1), some (.int ((l2 + 1)))] [] h2)))))))))) : VB g K 3 D mc ms Pr Pt kc ks 2 [some (.ref l0), some (.ref l1), some (.int l2)] [] h := by
  obtain ⟨p, e, s, m, args, below, meth, c⟩ := K
  have X : CX g p s m args meth c cX2_mendAll 3 yX2_mendAll none [] := X
  have hz := hg s X.gk.z
  show VV g p e (rmm D mc ms) s m args below meth c 3 (QQ g below args s mc ms Pr Pt) kc ks 2 [some (.ref l0), some (.ref l1), some (.int l2)] [] h
  refine r_iload_n X dX2_mendAll_2 rfl ?_
  refine r_aload_n X dX2_mendAll_3 rfl ?_
  obtain ⟨v1, ev1, w⟩ := w
  obtain ⟨fv1, cv1, qv1⟩ := gI_s ev1
  refine r_getf X dX2_mendAll_4 fl_X2_45 cv1 qv1 ?_
  refine r_icmp_ge X dX2_mendAll_7 (tgt := 28) (by decide) (fun q => ?_) (fun q => ?_)
  · have w := w.1 q
    exact r_vret X dX2_mendAll_28 rfl w hk.1 hk.2
  · have w := w.2 q
    refine r_aload_n X dX2_mendAll_10 rfl ?_
    refine r_aload_n X dX2_mendAll_11 rfl ?_
    refine r_iload_n X dX2_mendAll_12 rfl ?_
    obtain ⟨fs1, es1, w⟩ := w
    obtain ⟨d1, P1, E1, m1, n1, ct1, w⟩ := w
    obtain ⟨⟨x1, x2, x3⟩, w⟩ := w
    obtain ⟨x4, w⟩ := w
    refine r_callV X (As := [.ref l1, .int l2]) dX2_mendAll_13 mk_X2_mendBy ⟨ml_X2_122, im_X2_mendBy, se_X2_mendBy⟩ (oF_s es1) (ci_X2).1 rfl rfl rfl (by simp [Value.category]) ⟨x1, by show 60 * (d1 + 1) + 200 ≤ 60 * D + 200; omega⟩ ⟨x2, x3⟩ ct1 x4 (fun _ z => nomatch z) (fun _ => ⟨x2, x3⟩) (fun v h1 w1 => ?_)
    have w := w v h1 w1
    have hk : kc + m1 ≤ mc ∧ ks + n1 ≤ ms := ⟨x2, x3⟩
    obtain ⟨rfl, w⟩ := w
    refine r_aload_n X dX2_mendAll_16 rfl ?_
    refine r_aload_n X dX2_mendAll_17 rfl ?_
    refine r_iload_n X dX2_mendAll_18 rfl ?_
    obtain ⟨fs2, es2, w⟩ := w
    obtain ⟨d2, P2, E2, m2, n2, ct2, w⟩ := w
    obtain ⟨⟨x1, x2, x3⟩, w⟩ := w
    obtain ⟨x4, w⟩ := w
    refine r_callV X (As := [.ref l1, .int l2]) dX2_mendAll_19 mk_X2_goOn ⟨ml_X2_126, im_X2_goOn, se_X2_goOn⟩ (oF_s es2) (ci_X2).1 rfl rfl rfl (by simp [Value.category]) ⟨x1, by show 60 * (d2 + 1) + 200 ≤ 60 * D + 200; omega⟩ ⟨x2, x3⟩ ct2 x4 (fun _ z => nomatch z) (fun _ => ⟨x2, x3⟩) (fun v h2 w1 => ?_)
    have w := w v h2 w1
    have hk : (kc + m1) + m2 ≤ mc ∧ (ks + n1) + n2 ≤ ms := ⟨x2, x3⟩
    obtain ⟨rfl, w⟩ := w
    refine r_iinc X dX2_mendAll_22 rfl (v := (l2 + 1)) rfl (by decide) rfl ?_
    refine r_goto X dX2_mendAll_25 (tgt := 2) (by decide) ?_
    refine VB_wk (ls' := [some (.ref l0), some (.ref l1), some (.int ((l2 + 1)))]) ?_ w
    exact (And.intro rfl (And.intro rfl (And.intro rfl trivial)))

set_option maxRecDepth 10000 in
theorem b_X2_mendBy_0 {g : GG} {K : KX} {D mc ms : Nat} {Pr : Option Value → Hp → Prop} {Pt : String → Hp → Prop} {kc ks : Nat} (hg : GOK g) (hD : 8 ≤ D) (hk : kc ≤ mc ∧ ks ≤ ms) (X : CB g K cX2_mendBy 4 yX2_mendBy none []) (l0 : Nat) (l1 : Nat) (l2 : Int32) (h : Hp)
    (w : (∃ v1, gN h l0 2 4 = some v1 ∧ (∃ v2, aI h 0 v1 l2 = some v2 ∧ (∃ v3, gN h l0 2 5 = some v3 ∧ (∃ v4, aI h 0 v3 l2 = some v4 ∧ ((v4 ≤ 0 → Pr none h) ∧ (¬ v4 ≤ 0 → ((v2 < 0 → Pr none h) ∧ (¬ v2 < 0 → (((12 : Int32) ≤ v2 → Pr none h) ∧ (¬ (12 : Int32) ≤ v2 → (∃ v5, gN h l0 2 5 = some v5 ∧ (∃ v6, aI h 0 v5 l2 = some v6 ∧ (∃ h7, uI h 0 v5 l2 ((v6 - (1 : Int32))) = some h7 ∧ (∃ v8, gN h7 l0 2 2 = some v8 ∧ (∃ v9, gN h7 l0 2 2 = some v9 ∧ (∃ v10, aI h7 0 v9 v2 = some v10 ∧ (∃ v11, gN h7 l1 9 5 = some v11 ∧ (∃ v12, aI h7 0 v11 l2 = some v12 ∧ (∃ h13, uI h7 0 v8 v2 ((if ((v10 + ((2 : Int32) * v12)) + (3 : Int32)) < (99 : Int32) then ((v10 + ((2 : Int32) * v12)) + (3 : Int32)) else (99 : Int32))) = some h13 ∧ Pr none h13)))))))))))))))))))) : VB g K 4 D mc ms Pr Pt kc ks 0 [some (.ref l0), some (.ref l1), some (.int l2), none] [] h := by
  obtain ⟨p, e, s, m, args, below, meth, c⟩ := K
  have X : CX g p s m args meth c cX2_mendBy 4 yX2_mendBy none [] := X
  have hz := hg s X.gk.z
  show VV g p e (rmm D mc ms) s m args below meth c 4 (QQ g below args s mc ms Pr Pt) kc ks 0 [some (.ref l0), some (.ref l1), some (.int l2), none] [] h
  refine r_aload_n X dX2_mendBy_0 rfl ?_
  obtain ⟨v1, ev1, w⟩ := w
  obtain ⟨fv1, cv1, qv1⟩ := gN_s ev1
  refine r_getf X dX2_mendBy_1 fl_X2_21 cv1 qv1 ?_
  refine r_iload_n X dX2_mendBy_4 rfl ?_
  obtain ⟨v2, ev2, w⟩ := w
  obtain ⟨nv2, fv2, cv2, iv2, qv2⟩ := aI_s ev2
  refine r_iald X dX2_mendBy_5 cv2 iv2 ?_
  rw [qv2]
  refine r_istore_n X dX2_mendBy_6 (by decide) rfl ?_
  refine r_aload_n X dX2_mendBy_7 rfl ?_
  obtain ⟨v3, ev3, w⟩ := w
  obtain ⟨fv3, cv3, qv3⟩ := gN_s ev3
  refine r_getf X dX2_mendBy_8 fl_X2_24 cv3 qv3 ?_
  refine r_iload_n X dX2_mendBy_11 rfl ?_
  obtain ⟨v4, ev4, w⟩ := w
  obtain ⟨nv4, fv4, cv4, iv4, qv4⟩ := aI_s ev4
  refine r_iald X dX2_mendBy_12 cv4 iv4 ?_
  rw [qv4]
  refine r_if_le X dX2_mendBy_13 (tgt := 64) (by decide) (fun q => ?_) (fun q => ?_)
  · have w := w.1 q
    exact r_vret X dX2_mendBy_64 rfl w hk.1 hk.2
  · have w := w.2 q
    refine r_iload_n X dX2_mendBy_16 rfl ?_
    refine r_if_lt X dX2_mendBy_17 (tgt := 64) (by decide) (fun q => ?_) (fun q => ?_)
    · have w := w.1 q
      exact r_vret X dX2_mendBy_64 rfl w hk.1 hk.2
    · have w := w.2 q
      refine r_iload_n X dX2_mendBy_20 rfl ?_
      refine r_bipush X dX2_mendBy_21 (v := 12) (by decide) ?_
      refine r_icmp_ge X dX2_mendBy_23 (tgt := 64) (by decide) (fun q => ?_) (fun q => ?_)
      · have w := w.1 q
        exact r_vret X dX2_mendBy_64 rfl w hk.1 hk.2
      · have w := w.2 q
        refine r_aload_n X dX2_mendBy_26 rfl ?_
        obtain ⟨v5, ev5, w⟩ := w
        obtain ⟨fv5, cv5, qv5⟩ := gN_s ev5
        refine r_getf X dX2_mendBy_27 fl_X2_24 cv5 qv5 ?_
        refine r_iload_n X dX2_mendBy_30 rfl ?_
        refine r_dup2 X dX2_mendBy_31 rfl rfl ?_
        obtain ⟨v6, ev6, w⟩ := w
        obtain ⟨nv6, fv6, cv6, iv6, qv6⟩ := aI_s ev6
        refine r_iald X dX2_mendBy_32 cv6 iv6 ?_
        rw [qv6]
        refine r_iconst X dX2_mendBy_33 (v := 1) (by decide) ?_
        refine r_isub X dX2_mendBy_34 ?_
        obtain ⟨h7, eh7, w⟩ := w
        obtain ⟨nh7, fh7, ch7, ih7, rh7⟩ := uI_s eh7
        subst rh7
        refine r_iast X dX2_mendBy_35 ch7 ih7 ?_
        refine r_aload_n X dX2_mendBy_36 rfl ?_
        obtain ⟨v8, ev8, w⟩ := w
        obtain ⟨fv8, cv8, qv8⟩ := gN_s ev8
        refine r_getf X dX2_mendBy_37 fl_X2_15 cv8 qv8 ?_
        refine r_iload_n X dX2_mendBy_40 rfl ?_
        refine r_bipush X dX2_mendBy_41 (v := 99) (by decide) ?_
        refine r_aload_n X dX2_mendBy_43 rfl ?_
        obtain ⟨v9, ev9, w⟩ := w
        obtain ⟨fv9, cv9, qv9⟩ := gN_s ev9
        refine r_getf X dX2_mendBy_44 fl_X2_15 cv9 qv9 ?_
        refine r_iload_n X dX2_mendBy_47 rfl ?_
        obtain ⟨v10, ev10, w⟩ := w
        obtain ⟨nv10, fv10, cv10, iv10, qv10⟩ := aI_s ev10
        refine r_iald X dX2_mendBy_48 cv10 iv10 ?_
        rw [qv10]
        refine r_iconst X dX2_mendBy_49 (v := 2) (by decide) ?_
        refine r_aload_n X dX2_mendBy_50 rfl ?_
        obtain ⟨v11, ev11, w⟩ := w
        obtain ⟨fv11, cv11, qv11⟩ := gN_s ev11
        refine r_getf X dX2_mendBy_51 fl_X2_142 cv11 qv11 ?_
        refine r_iload_n X dX2_mendBy_54 rfl ?_
        obtain ⟨v12, ev12, w⟩ := w
        obtain ⟨nv12, fv12, cv12, iv12, qv12⟩ := aI_s ev12
        refine r_iald X dX2_mendBy_55 cv12 iv12 ?_
        rw [qv12]
        refine r_imul X dX2_mendBy_56 ?_
        refine r_iadd X dX2_mendBy_57 ?_
        refine r_iconst X dX2_mendBy_58 (v := 3) (by decide) ?_
        refine r_iadd X dX2_mendBy_59 ?_
        refine r_mmin X dX2_mendBy_60 ma_X2_62 (by refine ⟨?_, ?_, ?_, ?_⟩ <;> simp [rmm, Value.category] <;> omega) ?_
        obtain ⟨h13, eh13, w⟩ := w
        obtain ⟨nh13, fh13, ch13, ih13, rh13⟩ := uI_s eh13
        subst rh13
        refine r_iast X dX2_mendBy_63 ch13 ih13 ?_
        exact r_vret X dX2_mendBy_64 rfl w hk.1 hk.2

set_option maxRecDepth 10000 in
theorem b_X2_mostStrain_0 {g : GG} {K : KX} {D mc ms : Nat} {Pr : Option Value → Hp → Prop} {Pt : String → Hp → Prop} {kc ks : Nat} (hg : GOK g) (hD : 8 ≤ D) (hk : kc ≤ mc ∧ ks ≤ ms) (X : CB g K cX2_mostStrain 4 yX2_mostStrain (some (.int)) []) (l0 : Nat) (l1 : Nat) (h : Hp)
    (w : (∃ v1, gN h l0 2 1 = some v1 ∧ (∃ v2, aI h 0 v1 ((0 : Int32)) = some v2 ∧ VB g K 4 D mc ms Pr Pt kc ks 9 [some (.ref l0), some (.ref l1), some (.int v2), some (.int ((1 : Int32)))] [] h))) : VB g K 4 D mc ms Pr Pt kc ks 0 [some (.ref l0), some (.ref l1), none, none] [] h := by
  obtain ⟨p, e, s, m, args, below, meth, c⟩ := K
  have X : CX g p s m args meth c cX2_mostStrain 4 yX2_mostStrain (some (.int)) [] := X
  have hz := hg s X.gk.z
  show VV g p e (rmm D mc ms) s m args below meth c 4 (QQ g below args s mc ms Pr Pt) kc ks 0 [some (.ref l0), some (.ref l1), none, none] [] h
  refine r_aload_n X dX2_mostStrain_0 rfl ?_
  obtain ⟨v1, ev1, w⟩ := w
  obtain ⟨fv1, cv1, qv1⟩ := gN_s ev1
  refine r_getf X dX2_mostStrain_1 fl_X2_9 cv1 qv1 ?_
  refine r_iconst X dX2_mostStrain_4 (v := 0) (by decide) ?_
  obtain ⟨v2, ev2, w⟩ := w
  obtain ⟨nv2, fv2, cv2, iv2, qv2⟩ := aI_s ev2
  refine r_iald X dX2_mostStrain_5 cv2 iv2 ?_
  rw [qv2]
  refine r_istore_n X dX2_mostStrain_6 (by decide) rfl ?_
  refine r_iconst X dX2_mostStrain_7 (v := 1) (by decide) ?_
  refine r_istore_n X dX2_mostStrain_8 (by decide) rfl ?_
  refine VB_wk (ls' := [some (.ref l0), some (.ref l1), some (.int v2), some (.int ((1 : Int32)))]) ?_ w
  exact (And.intro rfl (And.intro rfl (And.intro rfl (And.intro rfl trivial))))

set_option maxRecDepth 10000 in
theorem b_X2_mostStrain_9 {g : GG} {K : KX} {D mc ms : Nat} {Pr : Option Value → Hp → Prop} {Pt : String → Hp → Prop} {kc ks : Nat} (hg : GOK g) (hD : 8 ≤ D) (hk : kc ≤ mc ∧ ks ≤ ms) (X : CB g K cX2_mostStrain 4 yX2_mostStrain (some (.int)) []) (l0 : Nat) (l1 : Nat) (l2 : Int32) (l3 : Int32) (h : Hp)
    (w : (∃ v1, gI h l1 9 0 = some v1 ∧ ((v1 ≤ l3 → Pr (some (.int l2)) h) ∧ (¬ v1 ≤ l3 → (∃ v2, gN h l0 2 1 = some v2 ∧ (∃ v3, aI h 0 v2 l3 = some v3 ∧ VB g K 4 D mc ms Pr Pt kc ks 9 [some (.ref l0), some (.ref l1), some (.int ((if l2 < v3 then v3 else l2))), some (.int ((l3 + 1)))] [] h)))))) : VB g K 4 D mc ms Pr Pt kc ks 9 [some (.ref l0), some (.ref l1), some (.int l2), some (.int l3)] [] h := by
  obtain ⟨p, e, s, m, args, below, meth, c⟩ := K
  have X : CX g p s m args meth c cX2_mostStrain 4 yX2_mostStrain (some (.int)) [] := X
  have hz := hg s X.gk.z
  show VV g p e (rmm D mc ms) s m args below meth c 4 (QQ g below args s mc ms Pr Pt) kc ks 9 [some (.ref l0), some (.ref l1), some (.int l2), some (.int l3)] [] h
  refine r_iload_n X dX2_mostStrain_9 rfl ?_
  refine r_aload_n X dX2_mostStrain_10 rfl ?_
  obtain ⟨v1, ev1, w⟩ := w
  obtain ⟨fv1, cv1, qv1⟩ := gI_s ev1
  refine r_getf X dX2_mostStrain_11 fl_X2_40 cv1 qv1 ?_
  refine r_icmp_ge X dX2_mostStrain_14 (tgt := 34) (by decide) (fun q => ?_) (fun q => ?_)
  · have w := w.1 q
    refine r_iload_n X dX2_mostStrain_34 rfl ?_
    exact r_iret X dX2_mostStrain_35 rfl w hk.1 hk.2
  · have w := w.2 q
    refine r_iload_n X dX2_mostStrain_17 rfl ?_
    refine r_aload_n X dX2_mostStrain_18 rfl ?_
    obtain ⟨v2, ev2, w⟩ := w
    obtain ⟨fv2, cv2, qv2⟩ := gN_s ev2
    refine r_getf X dX2_mostStrain_19 fl_X2_9 cv2 qv2 ?_
    refine r_iload_n X dX2_mostStrain_22 rfl ?_
    obtain ⟨v3, ev3, w⟩ := w
    obtain ⟨nv3, fv3, cv3, iv3, qv3⟩ := aI_s ev3
    refine r_iald X dX2_mostStrain_23 cv3 iv3 ?_
    rw [qv3]
    refine r_mmax X dX2_mostStrain_24 ma_X2_56 (by refine ⟨?_, ?_, ?_, ?_⟩ <;> simp [rmm, Value.category] <;> omega) ?_
    refine r_istore_n X dX2_mostStrain_27 (by decide) rfl ?_
    refine r_iinc X dX2_mostStrain_28 rfl (v := (l3 + 1)) rfl (by decide) rfl ?_
    refine r_goto X dX2_mostStrain_31 (tgt := 9) (by decide) ?_
    refine VB_wk (ls' := [some (.ref l0), some (.ref l1), some (.int ((if l2 < v3 then v3 else l2))), some (.int ((l3 + 1)))]) ?_ w
    exact (And.intro rfl (And.intro rfl (And.intro rfl (And.intro rfl trivial))))

set_option maxRecDepth 10000 in
theorem b_X2_openBits_0 {g : GG} {K : KX} {D mc ms : Nat} {Pr : Option Value → Hp → Prop} {Pt : String → Hp → Prop} {kc ks : Nat} (hg : GOK g) (hD : 8 ≤ D) (hk : kc ≤ mc ∧ ks ≤ ms) (X : CB g K cX2_openBits 4 yX2_openBits (some (.int)) []) (l0 : Nat) (l1 : Nat) (h : Hp)
    (w : VB g K 4 D mc ms Pr Pt kc ks 4 [some (.ref l0), some (.ref l1), some (.int ((0 : Int32))), some (.int ((0 : Int32)))] [] h) : VB g K 4 D mc ms Pr Pt kc ks 0 [some (.ref l0), some (.ref l1), none, none] [] h := by
  obtain ⟨p, e, s, m, args, below, meth, c⟩ := K
  have X : CX g p s m args meth c cX2_openBits 4 yX2_openBits (some (.int)) [] := X
  have hz := hg s X.gk.z
  show VV g p e (rmm D mc ms) s m args below meth c 4 (QQ g below args s mc ms Pr Pt) kc ks 0 [some (.ref l0), some (.ref l1), none, none] [] h
  refine r_iconst X dX2_openBits_0 (v := 0) (by decide) ?_
  refine r_istore_n X dX2_openBits_1 (by decide) rfl ?_
  refine r_iconst X dX2_openBits_2 (v := 0) (by decide) ?_
  refine r_istore_n X dX2_openBits_3 (by decide) rfl ?_
  refine VB_wk (ls' := [some (.ref l0), some (.ref l1), some (.int ((0 : Int32))), some (.int ((0 : Int32)))]) ?_ w
  exact (And.intro rfl (And.intro rfl (And.intro rfl (And.intro rfl trivial))))

set_option maxRecDepth 10000 in
theorem b_X2_openBits_4 {g : GG} {K : KX} {D mc ms : Nat} {Pr : Option Value → Hp → Prop} {Pt : String → Hp → Prop} {kc ks : Nat} (hg : GOK g) (hD : 8 ≤ D) (hk : kc ≤ mc ∧ ks ≤ ms) (X : CB g K cX2_openBits 4 yX2_openBits (some (.int)) []) (l0 : Nat) (l1 : Nat) (l2 : Int32) (l3 : Int32) (h : Hp)
    (w : (∃ v1, gI h l1 9 0 = some v1 ∧ ((v1 ≤ l3 → Pr (some (.int l2)) h) ∧ (¬ v1 ≤ l3 → (∃ v2, gN h l0 2 2 = some v2 ∧ (∃ v3, aI h 0 v2 l3 = some v3 ∧ ((¬ v3 = 0 → VB g K 4 D mc ms Pr Pt kc ks 27 [some (.ref l0), some (.ref l1), some (.int l2), some (.int l3)] [] h) ∧ (v3 = 0 → VB g K 4 D mc ms Pr Pt kc ks 27 [some (.ref l0), some (.ref l1), some (.int ((l2 ||| ((1 : Int32) <<< (l3 &&& 31))))), some (.int l3)] [] h)))))))) : VB g K 4 D mc ms Pr Pt kc ks 4 [some (.ref l0), some (.ref l1), some (.int l2), some (.int l3)] [] h := by
  obtain ⟨p, e, s, m, args, below, meth, c⟩ := K
  have X : CX g p s m args meth c cX2_openBits 4 yX2_openBits (some (.int)) [] := X
  have hz := hg s X.gk.z
  show VV g p e (rmm D mc ms) s m args below meth c 4 (QQ g below args s mc ms Pr Pt) kc ks 4 [some (.ref l0), some (.ref l1), some (.int l2), some (.int l3)] [] h
  refine r_iload_n X dX2_openBits_4 rfl ?_
  refine r_aload_n X dX2_openBits_5 rfl ?_
  obtain ⟨v1, ev1, w⟩ := w
  obtain ⟨fv1, cv1, qv1⟩ := gI_s ev1
  refine r_getf X dX2_openBits_6 fl_X2_40 cv1 qv1 ?_
  refine r_icmp_ge X dX2_openBits_9 (tgt := 33) (by decide) (fun q => ?_) (fun q => ?_)
  · have w := w.1 q
    refine r_iload_n X dX2_openBits_33 rfl ?_
    exact r_iret X dX2_openBits_34 rfl w hk.1 hk.2
  · have w := w.2 q
    refine r_aload_n X dX2_openBits_12 rfl ?_
    obtain ⟨v2, ev2, w⟩ := w
    obtain ⟨fv2, cv2, qv2⟩ := gN_s ev2
    refine r_getf X dX2_openBits_13 fl_X2_15 cv2 qv2 ?_
    refine r_iload_n X dX2_openBits_16 rfl ?_
    obtain ⟨v3, ev3, w⟩ := w
    obtain ⟨nv3, fv3, cv3, iv3, qv3⟩ := aI_s ev3
    refine r_iald X dX2_openBits_17 cv3 iv3 ?_
    rw [qv3]
    refine r_if_ne X dX2_openBits_18 (tgt := 27) (by decide) (fun q => ?_) (fun q => ?_)
    · have w := w.1 q
      refine VB_wk (ls' := [some (.ref l0), some (.ref l1), some (.int l2), some (.int l3)]) ?_ w
      exact (And.intro rfl (And.intro rfl (And.intro rfl (And.intro rfl trivial))))
    · have w := w.2 q
      refine r_iload_n X dX2_openBits_21 rfl ?_
      refine r_iconst X dX2_openBits_22 (v := 1) (by decide) ?_
      refine r_iload_n X dX2_openBits_23 rfl ?_
      refine r_ishl X dX2_openBits_24 ?_
      refine r_ior X dX2_openBits_25 ?_
      refine r_istore_n X dX2_openBits_26 (by decide) rfl ?_
      refine VB_wk (ls' := [some (.ref l0), some (.ref l1), some (.int ((l2 ||| ((1 : Int32) <<< (l3 &&& 31))))), some (.int l3)]) ?_ w
      exact (And.intro rfl (And.intro rfl (And.intro rfl (And.intro rfl trivial))))

set_option maxRecDepth 10000 in
theorem b_X2_openBits_27 {g : GG} {K : KX} {D mc ms : Nat} {Pr : Option Value → Hp → Prop} {Pt : String → Hp → Prop} {kc ks : Nat} (hg : GOK g) (hD : 8 ≤ D) (hk : kc ≤ mc ∧ ks ≤ ms) (X : CB g K cX2_openBits 4 yX2_openBits (some (.int)) []) (l0 : Nat) (l1 : Nat) (l2 : Int32) (l3 : Int32) (h : Hp)
    (w : VB g K 4 D mc ms Pr Pt kc ks 4 [some (.ref l0), some (.ref l1), some (.int l2), some (.int ((l3 + 1)))] [] h) : VB g K 4 D mc ms Pr Pt kc ks 27 [some (.ref l0), some (.ref l1), some (.int l2), some (.int l3)] [] h := by
  obtain ⟨p, e, s, m, args, below, meth, c⟩ := K
  have X : CX g p s m args meth c cX2_openBits 4 yX2_openBits (some (.int)) [] := X
  have hz := hg s X.gk.z
  show VV g p e (rmm D mc ms) s m args below meth c 4 (QQ g below args s mc ms Pr Pt) kc ks 27 [some (.ref l0), some (.ref l1), some (.int l2), some (.int l3)] [] h
  refine r_iinc X dX2_openBits_27 rfl (v := (l3 + 1)) rfl (by decide) rfl ?_
  refine r_goto X dX2_openBits_30 (tgt := 4) (by decide) ?_
  refine VB_wk (ls' := [some (.ref l0), some (.ref l1), some (.int l2), some (.int ((l3 + 1)))]) ?_ w
  exact (And.intro rfl (And.intro rfl (And.intro rfl (And.intro rfl trivial))))

set_option maxRecDepth 10000 in
theorem b_X2_passDay_0 {g : GG} {K : KX} {D mc ms : Nat} {Pr : Option Value → Hp → Prop} {Pt : String → Hp → Prop} {kc ks : Nat} (hg : GOK g) (hD : 8 ≤ D) (hk : kc ≤ mc ∧ ks ≤ ms) (X : CB g K cX2_passDay 3 yX2_passDay none []) (l0 : Nat) (l1 : Nat) (h : Hp)
    (w : VB g K 3 D mc ms Pr Pt kc ks 2 [some (.ref l0), some (.ref l1), some (.int ((0 : Int32)))] [] h) : VB g K 3 D mc ms Pr Pt kc ks 0 [some (.ref l0), some (.ref l1), none] [] h := by
  obtain ⟨p, e, s, m, args, below, meth, c⟩ := K
  have X : CX g p s m args meth c cX2_passDay 3 yX2_passDay none [] := X
  have hz := hg s X.gk.z
  show VV g p e (rmm D mc ms) s m args below meth c 3 (QQ g below args s mc ms Pr Pt) kc ks 0 [some (.ref l0), some (.ref l1), none] [] h
  refine r_iconst X dX2_passDay_0 (v := 0) (by decide) ?_
  refine r_istore_n X dX2_passDay_1 (by decide) rfl ?_
  refine VB_wk (ls' := [some (.ref l0), some (.ref l1), some (.int ((0 : Int32)))]) ?_ w
  exact (And.intro rfl (And.intro rfl (And.intro rfl trivial)))

set_option maxRecDepth 10000 in
theorem b_X2_passDay_2 {g : GG} {K : KX} {D mc ms : Nat} {Pr : Option Value → Hp → Prop} {Pt : String → Hp → Prop} {kc ks : Nat} (hg : GOK g) (hD : 8 ≤ D) (hk : kc ≤ mc ∧ ks ≤ ms) (X : CB g K cX2_passDay 3 yX2_passDay none []) (l0 : Nat) (l1 : Nat) (l2 : Int32) (h : Hp)
    (w : (∃ v1, gI h l1 9 0 = some v1 ∧ ((v1 ≤ l2 → (∃ v2, gN h l0 2 6 = some v2 ∧ (∃ v3, gN h l0 2 1 = some v3 ∧ (∃ v4, gI h l1 9 0 = some v4 ∧ (∃ h5, cpA h v2 ((0 : Int32)) v3 ((0 : Int32)) v4 = some h5 ∧ VB g K 3 D mc ms Pr Pt kc ks 77 [some (.ref l0), some (.ref l1), some (.int ((0 : Int32)))] [] h5))))) ∧ (¬ v1 ≤ l2 → (∃ v6, gN h l0 2 6 = some v6 ∧ (∃ fs6, oF h l0 2 = some fs6 ∧ (∃ d6 P6 E6 m6 n6, CT g d6 yX2_isOpen (wsC yX2_isOpen cX2_isOpen 2 (some (.boolean))) [.ref l0, .int l2] h m6 n6 P6 E6 ∧ (d6 + 1 ≤ D ∧ kc + m6 ≤ mc ∧ ks + n6 ≤ ms) ∧ (∀ E h', E6 E h' → Pt E h') ∧ (∀ v h6, P6 v h6 → ∃ v8, v = some (.int v8) ∧ ((v8 = 0 → (∃ v9, gN h6 l0 2 1 = some v9 ∧ (∃ v10, aI h6 0 v9 l2 = some v10 ∧ (∃ fs10, oF h6 l0 2 = some fs10 ∧ (∃ d10 P10 E10 m10 n10, CT g d10 yX2_pullsBy (wsC yX2_pullsBy cX2_pullsBy 4 (some (.int))) [.ref l0, .ref l1, .int l2] h6 m10 n10 P10 E10 ∧ (d10 + 1 ≤ D ∧ (kc + m6) + m10 ≤ mc ∧ (ks + n6) + n10 ≤ ms) ∧ (∀ E h', E10 E h' → Pt E h') ∧ (∀ v h10, P10 v h10 → ∃ v12, v = some (.int v12) ∧ (∃ d12 P12 m12 n12, CT g d12 yX11_within (wsC yX11_within cX11_within 3 (some (.int))) [.int ((v10 + v12)), .int ((0 : Int32)), .int ((99 : Int32))] h10 m12 n12 P12 noT ∧ (d12 + 1 ≤ D ∧ ((kc + m6) + m10) + m12 ≤ mc ∧ ((ks + n6) + n10) + n12 ≤ ms) ∧ (∀ v h12, P12 v h12 → ∃ v14, v = some (.int v14) ∧ VB g K 3 D mc ms Pr Pt ((((kc + m6) + m10) + m12)) ((((ks + n6) + n10) + n12)) 51 [some (.ref l0), some (.ref l1), some (.int l2)] [.int v14, .int l2, .ref v6] h12)))))))) ∧ (¬ v8 = 0 → (∃ v15, gN h6 l0 2 1 = some v15 ∧ (∃ v16, aI h6 0 v15 l2 = some v16 ∧ VB g K 3 D mc ms Pr Pt ((kc + m6)) ((ks + n6)) 51 [some (.ref l0), some (.ref l1), some (.int l2)] [.int v16, .int l2, .ref v6] h6)))))))))))) : VB g K 3 D mc ms Pr Pt kc ks 2 [some (.ref l0), some (.ref l1), some (.int l2)] [] h := by
  obtain ⟨p, e, s, m, args, below, meth, c⟩ := K
  have X : CX g p s m args meth c cX2_passDay 3 yX2_passDay none [] := X
  have hz := hg s X.gk.z
  show VV g p e (rmm D mc ms) s m args below meth c 3 (QQ g below args s mc ms Pr Pt) kc ks 2 [some (.ref l0), some (.ref l1), some (.int l2)] [] h
  refine r_iload_n X dX2_passDay_2 rfl ?_
  refine r_aload_n X dX2_passDay_3 rfl ?_
  obtain ⟨v1, ev1, w⟩ := w
  obtain ⟨fv1, cv1, qv1⟩ := gI_s ev1
  refine r_getf X dX2_passDay_4 fl_X2_40 cv1 qv1 ?_
  refine r_icmp_ge X dX2_passDay_7 (tgt := 58) (by decide) (fun q => ?_) (fun q => ?_)
  · have w := w.1 q
    refine r_aload_n X dX2_passDay_58 rfl ?_
    obtain ⟨v2, ev2, w⟩ := w
    obtain ⟨fv2, cv2, qv2⟩ := gN_s ev2
    refine r_getf X dX2_passDay_59 fl_X2_27 cv2 qv2 ?_
    refine r_iconst X dX2_passDay_62 (v := 0) (by decide) ?_
    refine r_aload_n X dX2_passDay_63 rfl ?_
    obtain ⟨v3, ev3, w⟩ := w
    obtain ⟨fv3, cv3, qv3⟩ := gN_s ev3
    refine r_getf X dX2_passDay_64 fl_X2_9 cv3 qv3 ?_
    refine r_iconst X dX2_passDay_67 (v := 0) (by decide) ?_
    refine r_aload_n X dX2_passDay_68 rfl ?_
    obtain ⟨v4, ev4, w⟩ := w
    obtain ⟨fv4, cv4, qv4⟩ := gI_s ev4
    refine r_getf X dX2_passDay_69 fl_X2_40 cv4 qv4 ?_
    obtain ⟨h5, eh5, w⟩ := w
    obtain ⟨nh5, fh5, mh5, kh5, x1, x2, x3, x4, x5, x6, x7, rh5⟩ := cpA_s eh5
    subst rh5
    refine r_copy X dX2_passDay_72 ac_X2_34 x1 x2 x3 x4 x5 x6 x7 (by refine ⟨?_, ?_⟩ <;> simp [rmm, Value.category, nativeFrameWords] <;> omega) ?_
    refine r_iconst X dX2_passDay_75 (v := 0) (by decide) ?_
    refine r_istore_n X dX2_passDay_76 (by decide) rfl ?_
    refine VB_wk (ls' := [some (.ref l0), some (.ref l1), some (.int ((0 : Int32)))]) ?_ w
    exact (And.intro rfl (And.intro rfl (And.intro rfl trivial)))
  · have w := w.2 q
    refine r_aload_n X dX2_passDay_10 rfl ?_
    obtain ⟨v6, ev6, w⟩ := w
    obtain ⟨fv6, cv6, qv6⟩ := gN_s ev6
    refine r_getf X dX2_passDay_11 fl_X2_27 cv6 qv6 ?_
    refine r_iload_n X dX2_passDay_14 rfl ?_
    refine r_aload_n X dX2_passDay_15 rfl ?_
    refine r_iload_n X dX2_passDay_16 rfl ?_
    obtain ⟨fs6, es6, w⟩ := w
    obtain ⟨d6, P6, E6, m6, n6, ct6, w⟩ := w
    obtain ⟨⟨x1, x2, x3⟩, w⟩ := w
    obtain ⟨x4, w⟩ := w
    refine r_callV X (As := [.int l2]) dX2_passDay_17 mk_X2_isOpen ⟨ml_X2_102, im_X2_isOpen, se_X2_isOpen⟩ (oF_s es6) (ci_X2).1 rfl rfl rfl (by simp [Value.category]) ⟨x1, by show 60 * (d6 + 1) + 200 ≤ 60 * D + 200; omega⟩ ⟨x2, x3⟩ ct6 x4 (fun _ z => nomatch z) (fun _ => ⟨x2, x3⟩) (fun v h6 w1 => ?_)
    have w := w v h6 w1
    have hk : kc + m6 ≤ mc ∧ ks + n6 ≤ ms := ⟨x2, x3⟩
    obtain ⟨v8, rfl, w⟩ := w
    refine r_if_eq X dX2_passDay_20 (tgt := 32) (by decide) (fun q => ?_) (fun q => ?_)
    · have w := w.1 q
      refine r_aload_n X dX2_passDay_32 rfl ?_
      obtain ⟨v9, ev9, w⟩ := w
      obtain ⟨fv9, cv9, qv9⟩ := gN_s ev9
      refine r_getf X dX2_passDay_33 fl_X2_9 cv9 qv9 ?_
      refine r_iload_n X dX2_passDay_36 rfl ?_
      obtain ⟨v10, ev10, w⟩ := w
      obtain ⟨nv10, fv10, cv10, iv10, qv10⟩ := aI_s ev10
      refine r_iald X dX2_passDay_37 cv10 iv10 ?_
      rw [qv10]
      refine r_aload_n X dX2_passDay_38 rfl ?_
      refine r_aload_n X dX2_passDay_39 rfl ?_
      refine r_iload_n X dX2_passDay_40 rfl ?_
      obtain ⟨fs10, es10, w⟩ := w
      obtain ⟨d10, P10, E10, m10, n10, ct10, w⟩ := w
      obtain ⟨⟨x1, x2, x3⟩, w⟩ := w
      obtain ⟨x4, w⟩ := w
      refine r_callV X (As := [.ref l1, .int l2]) dX2_passDay_41 mk_X2_pullsBy ⟨ml_X2_106, im_X2_pullsBy, se_X2_pullsBy⟩ (oF_s es10) (ci_X2).1 rfl rfl rfl (by simp [Value.category]) ⟨x1, by show 60 * (d10 + 1) + 200 ≤ 60 * D + 200; omega⟩ ⟨x2, x3⟩ ct10 x4 (fun _ z => nomatch z) (fun _ => ⟨x2, x3⟩) (fun v h10 w1 => ?_)
      have w := w v h10 w1
      have hk : (kc + m6) + m10 ≤ mc ∧ (ks + n6) + n10 ≤ ms := ⟨x2, x3⟩
      obtain ⟨v12, rfl, w⟩ := w
      refine r_iadd X dX2_passDay_44 ?_
      refine r_iconst X dX2_passDay_45 (v := 0) (by decide) ?_
      refine r_bipush X dX2_passDay_46 (v := 99) (by decide) ?_
      obtain ⟨d12, P12, m12, n12, ct12, w⟩ := w
      obtain ⟨⟨x1, x2, x3⟩, w⟩ := w
      refine r_callSN X (As := [.int ((v10 + v12)), .int ((0 : Int32)), .int ((99 : Int32))]) dX2_passDay_48 mk_X11_within sm_X11_within (hz.2.2.1 (.methodLinkNest RX2 88 yX11_within "HorizonSeam") (by decide +kernel)) rfl rfl (by simp [Value.category]) ⟨x1, by show 60 * (d12 + 1) + 200 ≤ 60 * D + 200; omega⟩ ⟨x2, x3⟩ ct12 (fun v h12 w1 => ?_)
      have w := w v h12 w1
      have hk : ((kc + m6) + m10) + m12 ≤ mc ∧ ((ks + n6) + n10) + n12 ≤ ms := ⟨x2, x3⟩
      obtain ⟨v14, rfl, w⟩ := w
      refine VB_wk (ls' := [some (.ref l0), some (.ref l1), some (.int l2)]) ?_ w
      exact (And.intro rfl (And.intro rfl (And.intro rfl trivial)))
    · have w := w.2 q
      refine r_aload_n X dX2_passDay_23 rfl ?_
      obtain ⟨v15, ev15, w⟩ := w
      obtain ⟨fv15, cv15, qv15⟩ := gN_s ev15
      refine r_getf X dX2_passDay_24 fl_X2_9 cv15 qv15 ?_
      refine r_iload_n X dX2_passDay_27 rfl ?_
      obtain ⟨v16, ev16, w⟩ := w
      obtain ⟨nv16, fv16, cv16, iv16, qv16⟩ := aI_s ev16
      refine r_iald X dX2_passDay_28 cv16 iv16 ?_
      rw [qv16]
      refine r_goto X dX2_passDay_29 (tgt := 51) (by decide) ?_
      refine VB_wk (ls' := [some (.ref l0), some (.ref l1), some (.int l2)]) ?_ w
      exact (And.intro rfl (And.intro rfl (And.intro rfl trivial)))

set_option maxRecDepth 10000 in
theorem b_X2_passDay_51 {g : GG} {K : KX} {D mc ms : Nat} {Pr : Option Value → Hp → Prop} {Pt : String → Hp → Prop} {kc ks : Nat} (hg : GOK g) (hD : 8 ≤ D) (hk : kc ≤ mc ∧ ks ≤ ms) (X : CB g K cX2_passDay 3 yX2_passDay none []) (l0 : Nat) (l1 : Nat) (l2 : Int32) (s0 : Nat) (s1 : Int32) (s2 : Int32) (h : Hp)
    (w : (∃ h1, uI h 0 s0 s1 s2 = some h1 ∧ VB g K 3 D mc ms Pr Pt kc ks 2 [some (.ref l0), some (.ref l1), some (.int ((l2 + 1)))] [] h1)) : VB g K 3 D mc ms Pr Pt kc ks 51 [some (.ref l0), some (.ref l1), some (.int l2)] [.int s2, .int s1, .ref s0] h := by
  obtain ⟨p, e, s, m, args, below, meth, c⟩ := K
  have X : CX g p s m args meth c cX2_passDay 3 yX2_passDay none [] := X
  have hz := hg s X.gk.z
  show VV g p e (rmm D mc ms) s m args below meth c 3 (QQ g below args s mc ms Pr Pt) kc ks 51 [some (.ref l0), some (.ref l1), some (.int l2)] [.int s2, .int s1, .ref s0] h
  obtain ⟨h1, eh1, w⟩ := w
  obtain ⟨nh1, fh1, ch1, ih1, rh1⟩ := uI_s eh1
  subst rh1
  refine r_iast X dX2_passDay_51 ch1 ih1 ?_
  refine r_iinc X dX2_passDay_52 rfl (v := (l2 + 1)) rfl (by decide) rfl ?_
  refine r_goto X dX2_passDay_55 (tgt := 2) (by decide) ?_
  refine VB_wk (ls' := [some (.ref l0), some (.ref l1), some (.int ((l2 + 1)))]) ?_ w
  exact (And.intro rfl (And.intro rfl (And.intro rfl trivial)))

set_option maxRecDepth 10000 in
theorem b_X2_passDay_77 {g : GG} {K : KX} {D mc ms : Nat} {Pr : Option Value → Hp → Prop} {Pt : String → Hp → Prop} {kc ks : Nat} (hg : GOK g) (hD : 8 ≤ D) (hk : kc ≤ mc ∧ ks ≤ ms) (X : CB g K cX2_passDay 3 yX2_passDay none []) (l0 : Nat) (l1 : Nat) (l2 : Int32) (h : Hp)
    (w : (∃ v1, gI h l1 9 0 = some v1 ∧ ((v1 ≤ l2 → (∃ v2, gI h l0 2 0 = some v2 ∧ (∃ fs2, oF h l1 9 = some fs2 ∧ (∃ d2 P2 E2 m2 n2, CT g d2 yX9_isThursday (wsC yX9_isThursday cX9_isThursday 2 (some (.boolean))) [.ref l1, .int v2] h m2 n2 P2 E2 ∧ (d2 + 1 ≤ D ∧ kc + m2 ≤ mc ∧ ks + n2 ≤ ms) ∧ (∀ E h', E2 E h' → Pt E h') ∧ (∀ v h2, P2 v h2 → ∃ v4, v = some (.int v4) ∧ ((v4 = 0 → VB g K 3 D mc ms Pr Pt ((kc + m2)) ((ks + n2)) 127 [some (.ref l0), none, none] [] h2) ∧ (¬ v4 = 0 → (∃ fs4, oF h2 l0 2 = some fs4 ∧ (∃ d4 P4 E4 m4 n4, CT g d4 yX2_mendAll (wsC yX2_mendAll cX2_mendAll 3 none) [.ref l0, .ref l1] h2 m4 n4 P4 E4 ∧ (d4 + 1 ≤ D ∧ (kc + m2) + m4 ≤ mc ∧ (ks + n2) + n4 ≤ ms) ∧ (∀ E h', E4 E h' → Pt E h') ∧ (∀ v h4, P4 v h4 → v = none ∧ VB g K 3 D mc ms Pr Pt (((kc + m2) + m4)) (((ks + n2) + n4)) 127 [some (.ref l0), none, none] [] h4)))))))))) ∧ (¬ v1 ≤ l2 → (∃ fs5, oF h l0 2 = some fs5 ∧ (∃ d5 P5 E5 m5 n5, CT g d5 yX2_isOpen (wsC yX2_isOpen cX2_isOpen 2 (some (.boolean))) [.ref l0, .int l2] h m5 n5 P5 E5 ∧ (d5 + 1 ≤ D ∧ kc + m5 ≤ mc ∧ ks + n5 ≤ ms) ∧ (∀ E h', E5 E h' → Pt E h') ∧ (∀ v h5, P5 v h5 → ∃ v7, v = some (.int v7) ∧ ((¬ v7 = 0 → VB g K 3 D mc ms Pr Pt ((kc + m5)) ((ks + n5)) 105 [some (.ref l0), some (.ref l1), some (.int l2)] [] h5) ∧ (v7 = 0 → (∃ fs7, oF h5 l0 2 = some fs7 ∧ (∃ d7 P7 E7 m7 n7, CT g d7 yX2_fraysBy (wsC yX2_fraysBy cX2_fraysBy 4 (some (.int))) [.ref l0, .ref l1, .int l2] h5 m7 n7 P7 E7 ∧ (d7 + 1 ≤ D ∧ (kc + m5) + m7 ≤ mc ∧ (ks + n5) + n7 ≤ ms) ∧ (∀ E h', E7 E h' → Pt E h') ∧ (∀ v h7, P7 v h7 → ∃ v9, v = some (.int v9) ∧ (∃ fs9, oF h7 l0 2 = some fs9 ∧ (∃ d9 P9 E9 m9 n9, CT g d9 yX2_wear (wsC yX2_wear cX2_wear 5 none) [.ref l0, .ref l1, .int l2, .int v9] h7 m9 n9 P9 E9 ∧ (d9 + 1 ≤ D ∧ ((kc + m5) + m7) + m9 ≤ mc ∧ ((ks + n5) + n7) + n9 ≤ ms) ∧ (∀ E h', E9 E h' → Pt E h') ∧ (∀ v h9, P9 v h9 → v = none ∧ VB g K 3 D mc ms Pr Pt ((((kc + m5) + m7) + m9)) ((((ks + n5) + n7) + n9)) 105 [some (.ref l0), some (.ref l1), some (.int l2)] [] h9))))))))))))))) : VB g K 3 D mc ms Pr Pt kc ks 77 [some (.ref l0), some (.ref l1), some (.int l2)] [] h := by
  obtain ⟨p, e, s, m, args, below, meth, c⟩ := K
  have X : CX g p s m args meth c cX2_passDay 3 yX2_passDay none [] := X
  have hz := hg s X.gk.z
  show VV g p e (rmm D mc ms) s m args below meth c 3 (QQ g below args s mc ms Pr Pt) kc ks 77 [some (.ref l0), some (.ref l1), some (.int l2)] [] h
  refine r_iload_n X dX2_passDay_77 rfl ?_
  refine r_aload_n X dX2_passDay_78 rfl ?_
  obtain ⟨v1, ev1, w⟩ := w
  obtain ⟨fv1, cv1, qv1⟩ := gI_s ev1
  refine r_getf X dX2_passDay_79 fl_X2_40 cv1 qv1 ?_
  refine r_icmp_ge X dX2_passDay_82 (tgt := 111) (by decide) (fun q => ?_) (fun q => ?_)
  · have w := w.1 q
    refine r_aload_n X dX2_passDay_111 rfl ?_
    refine r_aload_n X dX2_passDay_112 rfl ?_
    obtain ⟨v2, ev2, w⟩ := w
    obtain ⟨fv2, cv2, qv2⟩ := gI_s ev2
    refine r_getf X dX2_passDay_113 fl_X2_30 cv2 qv2 ?_
    obtain ⟨fs2, es2, w⟩ := w
    obtain ⟨d2, P2, E2, m2, n2, ct2, w⟩ := w
    obtain ⟨⟨x1, x2, x3⟩, w⟩ := w
    obtain ⟨x4, w⟩ := w
    refine r_callV X (As := [.int v2]) dX2_passDay_116 mk_X9_isThursday ⟨ml_X2_116, im_X9_isThursday, se_X9_isThursday⟩ (oF_s es2) (ci_X9).1 rfl rfl rfl (by simp [Value.category]) ⟨x1, by show 60 * (d2 + 1) + 200 ≤ 60 * D + 200; omega⟩ ⟨x2, x3⟩ ct2 x4 (fun _ z => nomatch z) (fun _ => ⟨x2, x3⟩) (fun v h2 w1 => ?_)
    have w := w v h2 w1
    have hk : kc + m2 ≤ mc ∧ ks + n2 ≤ ms := ⟨x2, x3⟩
    obtain ⟨v4, rfl, w⟩ := w
    refine r_if_eq X dX2_passDay_119 (tgt := 127) (by decide) (fun q => ?_) (fun q => ?_)
    · have w := w.1 q
      refine VB_wk (ls' := [some (.ref l0), none, none]) ?_ w
      exact (And.intro rfl trivial)
    · have w := w.2 q
      refine r_aload_n X dX2_passDay_122 rfl ?_
      refine r_aload_n X dX2_passDay_123 rfl ?_
      obtain ⟨fs4, es4, w⟩ := w
      obtain ⟨d4, P4, E4, m4, n4, ct4, w⟩ := w
      obtain ⟨⟨x1, x2, x3⟩, w⟩ := w
      obtain ⟨x4, w⟩ := w
      refine r_callV X (As := [.ref l1]) dX2_passDay_124 mk_X2_mendAll ⟨ml_X2_119, im_X2_mendAll, se_X2_mendAll⟩ (oF_s es4) (ci_X2).1 rfl rfl rfl (by simp [Value.category]) ⟨x1, by show 60 * (d4 + 1) + 200 ≤ 60 * D + 200; omega⟩ ⟨x2, x3⟩ ct4 x4 (fun _ z => nomatch z) (fun _ => ⟨x2, x3⟩) (fun v h4 w1 => ?_)
      have w := w v h4 w1
      have hk : (kc + m2) + m4 ≤ mc ∧ (ks + n2) + n4 ≤ ms := ⟨x2, x3⟩
      obtain ⟨rfl, w⟩ := w
      refine VB_wk (ls' := [some (.ref l0), none, none]) ?_ w
      exact (And.intro rfl trivial)
  · have w := w.2 q
    refine r_aload_n X dX2_passDay_85 rfl ?_
    refine r_iload_n X dX2_passDay_86 rfl ?_
    obtain ⟨fs5, es5, w⟩ := w
    obtain ⟨d5, P5, E5, m5, n5, ct5, w⟩ := w
    obtain ⟨⟨x1, x2, x3⟩, w⟩ := w
    obtain ⟨x4, w⟩ := w
    refine r_callV X (As := [.int l2]) dX2_passDay_87 mk_X2_isOpen ⟨ml_X2_102, im_X2_isOpen, se_X2_isOpen⟩ (oF_s es5) (ci_X2).1 rfl rfl rfl (by simp [Value.category]) ⟨x1, by show 60 * (d5 + 1) + 200 ≤ 60 * D + 200; omega⟩ ⟨x2, x3⟩ ct5 x4 (fun _ z => nomatch z) (fun _ => ⟨x2, x3⟩) (fun v h5 w1 => ?_)
    have w := w v h5 w1
    have hk : kc + m5 ≤ mc ∧ ks + n5 ≤ ms := ⟨x2, x3⟩
    obtain ⟨v7, rfl, w⟩ := w
    refine r_if_ne X dX2_passDay_90 (tgt := 105) (by decide) (fun q => ?_) (fun q => ?_)
    · have w := w.1 q
      refine VB_wk (ls' := [some (.ref l0), some (.ref l1), some (.int l2)]) ?_ w
      exact (And.intro rfl (And.intro rfl (And.intro rfl trivial)))
    · have w := w.2 q
      refine r_aload_n X dX2_passDay_93 rfl ?_
      refine r_aload_n X dX2_passDay_94 rfl ?_
      refine r_iload_n X dX2_passDay_95 rfl ?_
      refine r_aload_n X dX2_passDay_96 rfl ?_
      refine r_aload_n X dX2_passDay_97 rfl ?_
      refine r_iload_n X dX2_passDay_98 rfl ?_
      obtain ⟨fs7, es7, w⟩ := w
      obtain ⟨d7, P7, E7, m7, n7, ct7, w⟩ := w
      obtain ⟨⟨x1, x2, x3⟩, w⟩ := w
      obtain ⟨x4, w⟩ := w
      refine r_callV X (As := [.ref l1, .int l2]) dX2_passDay_99 mk_X2_fraysBy ⟨ml_X2_109, im_X2_fraysBy, se_X2_fraysBy⟩ (oF_s es7) (ci_X2).1 rfl rfl rfl (by simp [Value.category]) ⟨x1, by show 60 * (d7 + 1) + 200 ≤ 60 * D + 200; omega⟩ ⟨x2, x3⟩ ct7 x4 (fun _ z => nomatch z) (fun _ => ⟨x2, x3⟩) (fun v h7 w1 => ?_)
      have w := w v h7 w1
      have hk : (kc + m5) + m7 ≤ mc ∧ (ks + n5) + n7 ≤ ms := ⟨x2, x3⟩
      obtain ⟨v9, rfl, w⟩ := w
      obtain ⟨fs9, es9, w⟩ := w
      obtain ⟨d9, P9, E9, m9, n9, ct9, w⟩ := w
      obtain ⟨⟨x1, x2, x3⟩, w⟩ := w
      obtain ⟨x4, w⟩ := w
      refine r_callV X (As := [.ref l1, .int l2, .int v9]) dX2_passDay_102 mk_X2_wear ⟨ml_X2_112, im_X2_wear, se_X2_wear⟩ (oF_s es9) (ci_X2).1 rfl rfl rfl (by simp [Value.category]) ⟨x1, by show 60 * (d9 + 1) + 200 ≤ 60 * D + 200; omega⟩ ⟨x2, x3⟩ ct9 x4 (fun _ z => nomatch z) (fun _ => ⟨x2, x3⟩) (fun v h9 w1 => ?_)
      have w := w v h9 w1
      have hk : ((kc + m5) + m7) + m9 ≤ mc ∧ ((ks + n5) + n7) + n9 ≤ ms := ⟨x2, x3⟩
      obtain ⟨rfl, w⟩ := w
      refine VB_wk (ls' := [some (.ref l0), some (.ref l1), some (.int l2)]) ?_ w
      exact (And.intro rfl (And.intro rfl (And.intro rfl trivial)))

set_option maxRecDepth 10000 in
theorem b_X2_passDay_105 {g : GG} {K : KX} {D mc ms : Nat} {Pr : Option Value → Hp → Prop} {Pt : String → Hp → Prop} {kc ks : Nat} (hg : GOK g) (hD : 8 ≤ D) (hk : kc ≤ mc ∧ ks ≤ ms) (X : CB g K cX2_passDay 3 yX2_passDay none []) (l0 : Nat) (l1 : Nat) (l2 : Int32) (h : Hp)
    (w : VB g K 3 D mc ms Pr Pt kc ks 77 [some (.ref l0), some (.ref l1), some (.int ((l2 + 1)))] [] h) : VB g K 3 D mc ms Pr Pt kc ks 105 [some (.ref l0), some (.ref l1), some (.int l2)] [] h := by
  obtain ⟨p, e, s, m, args, below, meth, c⟩ := K
  have X : CX g p s m args meth c cX2_passDay 3 yX2_passDay none [] := X
  have hz := hg s X.gk.z
  show VV g p e (rmm D mc ms) s m args below meth c 3 (QQ g below args s mc ms Pr Pt) kc ks 105 [some (.ref l0), some (.ref l1), some (.int l2)] [] h
  refine r_iinc X dX2_passDay_105 rfl (v := (l2 + 1)) rfl (by decide) rfl ?_
  refine r_goto X dX2_passDay_108 (tgt := 77) (by decide) ?_
  refine VB_wk (ls' := [some (.ref l0), some (.ref l1), some (.int ((l2 + 1)))]) ?_ w
  exact (And.intro rfl (And.intro rfl (And.intro rfl trivial)))

set_option maxRecDepth 10000 in
theorem b_X2_passDay_127 {g : GG} {K : KX} {D mc ms : Nat} {Pr : Option Value → Hp → Prop} {Pt : String → Hp → Prop} {kc ks : Nat} (hg : GOK g) (hD : 8 ≤ D) (hk : kc ≤ mc ∧ ks ≤ ms) (X : CB g K cX2_passDay 3 yX2_passDay none []) (l0 : Nat) (h : Hp)
    (w : (∃ v1, gI h l0 2 0 = some v1 ∧ (∃ h2, pF h l0 2 0 (.int ((v1 + (1 : Int32)))) = some h2 ∧ Pr none h2))) : VB g K 3 D mc ms Pr Pt kc ks 127 [some (.ref l0), none, none] [] h := by
  obtain ⟨p, e, s, m, args, below, meth, c⟩ := K
  have X : CX g p s m args meth c cX2_passDay 3 yX2_passDay none [] := X
  have hz := hg s X.gk.z
  show VV g p e (rmm D mc ms) s m args below meth c 3 (QQ g below args s mc ms Pr Pt) kc ks 127 [some (.ref l0), none, none] [] h
  refine r_aload_n X dX2_passDay_127 rfl ?_
  refine r_dup X dX2_passDay_128 rfl ?_
  obtain ⟨v1, ev1, w⟩ := w
  obtain ⟨fv1, cv1, qv1⟩ := gI_s ev1
  refine r_getf X dX2_passDay_129 fl_X2_30 cv1 qv1 ?_
  refine r_iconst X dX2_passDay_132 (v := 1) (by decide) ?_
  refine r_iadd X dX2_passDay_133 ?_
  obtain ⟨h2, eh2, w⟩ := w
  obtain ⟨fh2, ch2, lh2, rh2⟩ := pF_s eh2
  subst rh2
  refine r_putf X dX2_passDay_134 fw_X2_30 ch2 lh2 rfl rfl ?_
  exact r_vret X dX2_passDay_137 rfl w hk.1 hk.2

set_option maxRecDepth 10000 in
theorem b_X2_passDays_0 {g : GG} {K : KX} {D mc ms : Nat} {Pr : Option Value → Hp → Prop} {Pt : String → Hp → Prop} {kc ks : Nat} (hg : GOK g) (hD : 8 ≤ D) (hk : kc ≤ mc ∧ ks ≤ ms) (X : CB g K cX2_passDays 4 yX2_passDays none []) (l0 : Nat) (l1 : Nat) (l2 : Int32) (h : Hp)
    (w : VB g K 4 D mc ms Pr Pt kc ks 2 [some (.ref l0), some (.ref l1), some (.int l2), some (.int ((0 : Int32)))] [] h) : VB g K 4 D mc ms Pr Pt kc ks 0 [some (.ref l0), some (.ref l1), some (.int l2), none] [] h := by
  obtain ⟨p, e, s, m, args, below, meth, c⟩ := K
  have X : CX g p s m args meth c cX2_passDays 4 yX2_passDays none [] := X
  have hz := hg s X.gk.z
  show VV g p e (rmm D mc ms) s m args below meth c 4 (QQ g below args s mc ms Pr Pt) kc ks 0 [some (.ref l0), some (.ref l1), some (.int l2), none] [] h
  refine r_iconst X dX2_passDays_0 (v := 0) (by decide) ?_
  refine r_istore_n X dX2_passDays_1 (by decide) rfl ?_
  refine VB_wk (ls' := [some (.ref l0), some (.ref l1), some (.int l2), some (.int ((0 : Int32)))]) ?_ w
  exact (And.intro rfl (And.intro rfl (And.intro rfl (And.intro rfl trivial))))

set_option maxRecDepth 10000 in
theorem b_X2_passDays_2 {g : GG} {K : KX} {D mc ms : Nat} {Pr : Option Value → Hp → Prop} {Pt : String → Hp → Prop} {kc ks : Nat} (hg : GOK g) (hD : 8 ≤ D) (hk : kc ≤ mc ∧ ks ≤ ms) (X : CB g K cX2_passDays 4 yX2_passDays none []) (l0 : Nat) (l1 : Nat) (l2 : Int32) (l3 : Int32) (h : Hp)
    (w : ((l2 ≤ l3 → Pr none h) ∧ (¬ l2 ≤ l3 → (∃ fs0, oF h l0 2 = some fs0 ∧ (∃ d0 P0 E0 m0 n0, CT g d0 yX2_passDay (wsC yX2_passDay cX2_passDay 3 none) [.ref l0, .ref l1] h m0 n0 P0 E0 ∧ (d0 + 1 ≤ D ∧ kc + m0 ≤ mc ∧ ks + n0 ≤ ms) ∧ (∀ E h', E0 E h' → Pt E h') ∧ (∀ v h0, P0 v h0 → v = none ∧ VB g K 4 D mc ms Pr Pt ((kc + m0)) ((ks + n0)) 2 [some (.ref l0), some (.ref l1), some (.int l2), some (.int ((l3 + 1)))] [] h0)))))) : VB g K 4 D mc ms Pr Pt kc ks 2 [some (.ref l0), some (.ref l1), some (.int l2), some (.int l3)] [] h := by
  obtain ⟨p, e, s, m, args, below, meth, c⟩ := K
  have X : CX g p s m args meth c cX2_passDays 4 yX2_passDays none [] := X
  have hz := hg s X.gk.z
  show VV g p e (rmm D mc ms) s m args below meth c 4 (QQ g below args s mc ms Pr Pt) kc ks 2 [some (.ref l0), some (.ref l1), some (.int l2), some (.int l3)] [] h
  refine r_iload_n X dX2_passDays_2 rfl ?_
  refine r_iload_n X dX2_passDays_3 rfl ?_
  refine r_icmp_ge X dX2_passDays_4 (tgt := 18) (by decide) (fun q => ?_) (fun q => ?_)
  · have w := w.1 q
    exact r_vret X dX2_passDays_18 rfl w hk.1 hk.2
  · have w := w.2 q
    refine r_aload_n X dX2_passDays_7 rfl ?_
    refine r_aload_n X dX2_passDays_8 rfl ?_
    obtain ⟨fs0, es0, w⟩ := w
    obtain ⟨d0, P0, E0, m0, n0, ct0, w⟩ := w
    obtain ⟨⟨x1, x2, x3⟩, w⟩ := w
    obtain ⟨x4, w⟩ := w
    refine r_callV X (As := [.ref l1]) dX2_passDays_9 mk_X2_passDay ⟨ml_X2_98, im_X2_passDay, se_X2_passDay⟩ (oF_s es0) (ci_X2).1 rfl rfl rfl (by simp [Value.category]) ⟨x1, by show 60 * (d0 + 1) + 200 ≤ 60 * D + 200; omega⟩ ⟨x2, x3⟩ ct0 x4 (fun _ z => nomatch z) (fun _ => ⟨x2, x3⟩) (fun v h0 w1 => ?_)
    have w := w v h0 w1
    have hk : kc + m0 ≤ mc ∧ ks + n0 ≤ ms := ⟨x2, x3⟩
    obtain ⟨rfl, w⟩ := w
    refine r_iinc X dX2_passDays_12 rfl (v := (l3 + 1)) rfl (by decide) rfl ?_
    refine r_goto X dX2_passDays_15 (tgt := 2) (by decide) ?_
    refine VB_wk (ls' := [some (.ref l0), some (.ref l1), some (.int l2), some (.int ((l3 + 1)))]) ?_ w
    exact (And.intro rfl (And.intro rfl (And.intro rfl (And.intro rfl trivial))))

set_option maxRecDepth 10000 in
theorem b_X2_pullsBy_0 {g : GG} {K : KX} {D mc ms : Nat} {Pr : Option Value → Hp → Prop} {Pt : String → Hp → Prop} {kc ks : Nat} (hg : GOK g) (hD : 8 ≤ D) (hk : kc ≤ mc ∧ ks ≤ ms) (X : CB g K cX2_pullsBy 4 yX2_pullsBy (some (.int)) []) (l0 : Nat) (l1 : Nat) (l2 : Int32) (h : Hp)
    (w : (∃ v1, gN h l1 9 8 = some v1 ∧ (∃ v2, gI h v1 6 0 = some v2 ∧ ((v2 = 0 → (∃ fs2, oF h l0 2 = some fs2 ∧ (∃ d2 P2 E2 m2 n2, CT g d2 yX2_besideOf (wsC yX2_besideOf cX2_besideOf 4 (some (.int))) [.ref l0, .ref l1, .int l2] h m2 n2 P2 E2 ∧ (d2 + 1 ≤ D ∧ kc + m2 ≤ mc ∧ ks + n2 ≤ ms) ∧ (∀ E h', E2 E h' → Pt E h') ∧ (∀ v h2, P2 v h2 → ∃ v4, v = some (.int v4) ∧ (∃ v5, gN h2 l0 2 1 = some v5 ∧ (∃ v6, aI h2 0 v5 l2 = some v6 ∧ VB g K 4 D mc ms Pr Pt ((kc + m2)) ((ks + n2)) 41 [none, none, none, none] [.int (((v4 - ((2 : Int32) * v6)) / (9 : Int32)))] h2)))))) ∧ (¬ v2 = 0 → (∃ v7, gN h l1 9 8 = some v7 ∧ (∃ fs7, oF h l1 9 = some fs7 ∧ (∃ d7 P7 E7 m7 n7, CT g d7 yX9_worthOf (wsC yX9_worthOf cX9_worthOf 7 (some (.int))) [.ref l1, .ref v7, .ref l0, .int l2] h m7 n7 P7 E7 ∧ (d7 + 1 ≤ D ∧ kc + m7 ≤ mc ∧ ks + n7 ≤ ms) ∧ (∀ E h', E7 E h' → Pt E h') ∧ (∀ v h7, P7 v h7 → ∃ v9, v = some (.int v9) ∧ VB g K 4 D mc ms Pr Pt ((kc + m7)) ((ks + n7)) 41 [none, none, none, none] [.int v9] h7))))))))) : VB g K 4 D mc ms Pr Pt kc ks 0 [some (.ref l0), some (.ref l1), some (.int l2), none] [] h := by
  obtain ⟨p, e, s, m, args, below, meth, c⟩ := K
  have X : CX g p s m args meth c cX2_pullsBy 4 yX2_pullsBy (some (.int)) [] := X
  have hz := hg s X.gk.z
  show VV g p e (rmm D mc ms) s m args below meth c 4 (QQ g below args s mc ms Pr Pt) kc ks 0 [some (.ref l0), some (.ref l1), some (.int l2), none] [] h
  refine r_aload_n X dX2_pullsBy_0 rfl ?_
  obtain ⟨v1, ev1, w⟩ := w
  obtain ⟨fv1, cv1, qv1⟩ := gN_s ev1
  refine r_getf X dX2_pullsBy_1 fl_X2_74 cv1 qv1 ?_
  obtain ⟨v2, ev2, w⟩ := w
  obtain ⟨fv2, cv2, qv2⟩ := gI_s ev2
  refine r_getf X dX2_pullsBy_4 fl_X2_78 cv2 qv2 ?_
  refine r_if_eq X dX2_pullsBy_7 (tgt := 23) (by decide) (fun q => ?_) (fun q => ?_)
  · have w := w.1 q
    refine r_aload_n X dX2_pullsBy_23 rfl ?_
    refine r_aload_n X dX2_pullsBy_24 rfl ?_
    refine r_iload_n X dX2_pullsBy_25 rfl ?_
    obtain ⟨fs2, es2, w⟩ := w
    obtain ⟨d2, P2, E2, m2, n2, ct2, w⟩ := w
    obtain ⟨⟨x1, x2, x3⟩, w⟩ := w
    obtain ⟨x4, w⟩ := w
    refine r_callV X (As := [.ref l1, .int l2]) dX2_pullsBy_26 mk_X2_besideOf ⟨ml_X2_65, im_X2_besideOf, se_X2_besideOf⟩ (oF_s es2) (ci_X2).1 rfl rfl rfl (by simp [Value.category]) ⟨x1, by show 60 * (d2 + 1) + 200 ≤ 60 * D + 200; omega⟩ ⟨x2, x3⟩ ct2 x4 (fun _ z => nomatch z) (fun _ => ⟨x2, x3⟩) (fun v h2 w1 => ?_)
    have w := w v h2 w1
    have hk : kc + m2 ≤ mc ∧ ks + n2 ≤ ms := ⟨x2, x3⟩
    obtain ⟨v4, rfl, w⟩ := w
    refine r_iconst X dX2_pullsBy_29 (v := 2) (by decide) ?_
    refine r_aload_n X dX2_pullsBy_30 rfl ?_
    obtain ⟨v5, ev5, w⟩ := w
    obtain ⟨fv5, cv5, qv5⟩ := gN_s ev5
    refine r_getf X dX2_pullsBy_31 fl_X2_9 cv5 qv5 ?_
    refine r_iload_n X dX2_pullsBy_34 rfl ?_
    obtain ⟨v6, ev6, w⟩ := w
    obtain ⟨nv6, fv6, cv6, iv6, qv6⟩ := aI_s ev6
    refine r_iald X dX2_pullsBy_35 cv6 iv6 ?_
    rw [qv6]
    refine r_imul X dX2_pullsBy_36 ?_
    refine r_isub X dX2_pullsBy_37 ?_
    refine r_bipush X dX2_pullsBy_38 (v := 9) (by decide) ?_
    refine r_idiv X dX2_pullsBy_40 (by decide) ?_
    refine VB_wk (ls' := [none, none, none, none]) ?_ w
    exact trivial
  · have w := w.2 q
    refine r_aload_n X dX2_pullsBy_10 rfl ?_
    refine r_aload_n X dX2_pullsBy_11 rfl ?_
    obtain ⟨v7, ev7, w⟩ := w
    obtain ⟨fv7, cv7, qv7⟩ := gN_s ev7
    refine r_getf X dX2_pullsBy_12 fl_X2_74 cv7 qv7 ?_
    refine r_aload_n X dX2_pullsBy_15 rfl ?_
    refine r_iload_n X dX2_pullsBy_16 rfl ?_
    obtain ⟨fs7, es7, w⟩ := w
    obtain ⟨d7, P7, E7, m7, n7, ct7, w⟩ := w
    obtain ⟨⟨x1, x2, x3⟩, w⟩ := w
    obtain ⟨x4, w⟩ := w
    refine r_callV X (As := [.ref v7, .ref l0, .int l2]) dX2_pullsBy_17 mk_X9_worthOf ⟨ml_X2_84, im_X9_worthOf, se_X9_worthOf⟩ (oF_s es7) (ci_X9).1 rfl rfl rfl (by simp [Value.category]) ⟨x1, by show 60 * (d7 + 1) + 200 ≤ 60 * D + 200; omega⟩ ⟨x2, x3⟩ ct7 x4 (fun _ z => nomatch z) (fun _ => ⟨x2, x3⟩) (fun v h7 w1 => ?_)
    have w := w v h7 w1
    have hk : kc + m7 ≤ mc ∧ ks + n7 ≤ ms := ⟨x2, x3⟩
    obtain ⟨v9, rfl, w⟩ := w
    refine r_goto X dX2_pullsBy_20 (tgt := 41) (by decide) ?_
    refine VB_wk (ls' := [none, none, none, none]) ?_ w
    exact trivial

set_option maxRecDepth 10000 in
theorem b_X2_pullsBy_41 {g : GG} {K : KX} {D mc ms : Nat} {Pr : Option Value → Hp → Prop} {Pt : String → Hp → Prop} {kc ks : Nat} (hg : GOK g) (hD : 8 ≤ D) (hk : kc ≤ mc ∧ ks ≤ ms) (X : CB g K cX2_pullsBy 4 yX2_pullsBy (some (.int)) []) (s0 : Int32) (h : Hp)
    (w : (∃ d0 P0 m0 n0, CT g d0 yX11_within (wsC yX11_within cX11_within 3 (some (.int))) [.int s0, .int ((-9 : Int32)), .int ((9 : Int32))] h m0 n0 P0 noT ∧ (d0 + 1 ≤ D ∧ kc + m0 ≤ mc ∧ ks + n0 ≤ ms) ∧ (∀ v h0, P0 v h0 → ∃ v2, v = some (.int v2) ∧ Pr (some (.int v2)) h0))) : VB g K 4 D mc ms Pr Pt kc ks 41 [none, none, none, none] [.int s0] h := by
  obtain ⟨p, e, s, m, args, below, meth, c⟩ := K
  have X : CX g p s m args meth c cX2_pullsBy 4 yX2_pullsBy (some (.int)) [] := X
  have hz := hg s X.gk.z
  show VV g p e (rmm D mc ms) s m args below meth c 4 (QQ g below args s mc ms Pr Pt) kc ks 41 [none, none, none, none] [.int s0] h
  refine r_istore_n X dX2_pullsBy_41 (by decide) rfl ?_
  refine r_iload_n X dX2_pullsBy_42 rfl ?_
  refine r_bipush X dX2_pullsBy_43 (v := -9) (by decide) ?_
  refine r_bipush X dX2_pullsBy_45 (v := 9) (by decide) ?_
  obtain ⟨d0, P0, m0, n0, ct0, w⟩ := w
  obtain ⟨⟨x1, x2, x3⟩, w⟩ := w
  refine r_callSN X (As := [.int s0, .int ((-9 : Int32)), .int ((9 : Int32))]) dX2_pullsBy_47 mk_X11_within sm_X11_within (hz.2.2.1 (.methodLinkNest RX2 88 yX11_within "HorizonSeam") (by decide +kernel)) rfl rfl (by simp [Value.category]) ⟨x1, by show 60 * (d0 + 1) + 200 ≤ 60 * D + 200; omega⟩ ⟨x2, x3⟩ ct0 (fun v h0 w1 => ?_)
  have w := w v h0 w1
  have hk : kc + m0 ≤ mc ∧ ks + n0 ≤ ms := ⟨x2, x3⟩
  obtain ⟨v2, rfl, w⟩ := w
  exact r_iret X dX2_pullsBy_50 rfl w hk.1 hk.2

set_option maxRecDepth 10000 in
theorem b_X2_putStretch_0 {g : GG} {K : KX} {D mc ms : Nat} {Pr : Option Value → Hp → Prop} {Pt : String → Hp → Prop} {kc ks : Nat} (hg : GOK g) (hD : 8 ≤ D) (hk : kc ≤ mc ∧ ks ≤ ms) (X : CB g K cX2_putStretch 5 yX2_putStretch none []) (l0 : Nat) (l1 : Int32) (l2 : Int32) (l3 : Int32) (l4 : Int32) (h : Hp)
    (w : ((l1 < 0 → Pr none h) ∧ (¬ l1 < 0 → (((12 : Int32) ≤ l1 → Pr none h) ∧ (¬ (12 : Int32) ≤ l1 → (∃ v1, gN h l0 2 1 = some v1 ∧ (∃ h2, uI h 0 v1 l1 l2 = some h2 ∧ (∃ v3, gN h2 l0 2 2 = some v3 ∧ (∃ h4, uI h2 0 v3 l1 l3 = some h4 ∧ (∃ v5, gN h4 l0 2 3 = some v5 ∧ (∃ h6, uI h4 0 v5 l1 l4 = some h6 ∧ Pr none h6))))))))))) : VB g K 5 D mc ms Pr Pt kc ks 0 [some (.ref l0), some (.int l1), some (.int l2), some (.int l3), some (.int l4)] [] h := by
  obtain ⟨p, e, s, m, args, below, meth, c⟩ := K
  have X : CX g p s m args meth c cX2_putStretch 5 yX2_putStretch none [] := X
  have hz := hg s X.gk.z
  show VV g p e (rmm D mc ms) s m args below meth c 5 (QQ g below args s mc ms Pr Pt) kc ks 0 [some (.ref l0), some (.int l1), some (.int l2), some (.int l3), some (.int l4)] [] h
  refine r_iload_n X dX2_putStretch_0 rfl ?_
  refine r_if_lt X dX2_putStretch_1 (tgt := 32) (by decide) (fun q => ?_) (fun q => ?_)
  · have w := w.1 q
    exact r_vret X dX2_putStretch_32 rfl w hk.1 hk.2
  · have w := w.2 q
    refine r_iload_n X dX2_putStretch_4 rfl ?_
    refine r_bipush X dX2_putStretch_5 (v := 12) (by decide) ?_
    refine r_icmp_ge X dX2_putStretch_7 (tgt := 32) (by decide) (fun q => ?_) (fun q => ?_)
    · have w := w.1 q
      exact r_vret X dX2_putStretch_32 rfl w hk.1 hk.2
    · have w := w.2 q
      refine r_aload_n X dX2_putStretch_10 rfl ?_
      obtain ⟨v1, ev1, w⟩ := w
      obtain ⟨fv1, cv1, qv1⟩ := gN_s ev1
      refine r_getf X dX2_putStretch_11 fl_X2_9 cv1 qv1 ?_
      refine r_iload_n X dX2_putStretch_14 rfl ?_
      refine r_iload_n X dX2_putStretch_15 rfl ?_
      obtain ⟨h2, eh2, w⟩ := w
      obtain ⟨nh2, fh2, ch2, ih2, rh2⟩ := uI_s eh2
      subst rh2
      refine r_iast X dX2_putStretch_16 ch2 ih2 ?_
      refine r_aload_n X dX2_putStretch_17 rfl ?_
      obtain ⟨v3, ev3, w⟩ := w
      obtain ⟨fv3, cv3, qv3⟩ := gN_s ev3
      refine r_getf X dX2_putStretch_18 fl_X2_15 cv3 qv3 ?_
      refine r_iload_n X dX2_putStretch_21 rfl ?_
      refine r_iload_n X dX2_putStretch_22 rfl ?_
      obtain ⟨h4, eh4, w⟩ := w
      obtain ⟨nh4, fh4, ch4, ih4, rh4⟩ := uI_s eh4
      subst rh4
      refine r_iast X dX2_putStretch_23 ch4 ih4 ?_
      refine r_aload_n X dX2_putStretch_24 rfl ?_
      obtain ⟨v5, ev5, w⟩ := w
      obtain ⟨fv5, cv5, qv5⟩ := gN_s ev5
      refine r_getf X dX2_putStretch_25 fl_X2_18 cv5 qv5 ?_
      refine r_iload_n X dX2_putStretch_28 rfl ?_
      refine r_iload X dX2_putStretch_29 rfl ?_
      obtain ⟨h6, eh6, w⟩ := w
      obtain ⟨nh6, fh6, ch6, ih6, rh6⟩ := uI_s eh6
      subst rh6
      refine r_iast X dX2_putStretch_31 ch6 ih6 ?_
      exact r_vret X dX2_putStretch_32 rfl w hk.1 hk.2

set_option maxRecDepth 10000 in
theorem b_X2_putWoman_0 {g : GG} {K : KX} {D mc ms : Nat} {Pr : Option Value → Hp → Prop} {Pt : String → Hp → Prop} {kc ks : Nat} (hg : GOK g) (hD : 8 ≤ D) (hk : kc ≤ mc ∧ ks ≤ ms) (X : CB g K cX2_putWoman 4 yX2_putWoman none []) (l0 : Nat) (l1 : Int32) (l2 : Int32) (l3 : Int32) (h : Hp)
    (w : ((l1 < 0 → Pr none h) ∧ (¬ l1 < 0 → (((6 : Int32) ≤ l1 → Pr none h) ∧ (¬ (6 : Int32) ≤ l1 → (∃ v1, gN h l0 2 4 = some v1 ∧ (∃ h2, uI h 0 v1 l1 l2 = some h2 ∧ (∃ v3, gN h2 l0 2 5 = some v3 ∧ (∃ h4, uI h2 0 v3 l1 l3 = some h4 ∧ Pr none h4))))))))) : VB g K 4 D mc ms Pr Pt kc ks 0 [some (.ref l0), some (.int l1), some (.int l2), some (.int l3)] [] h := by
  obtain ⟨p, e, s, m, args, below, meth, c⟩ := K
  have X : CX g p s m args meth c cX2_putWoman 4 yX2_putWoman none [] := X
  have hz := hg s X.gk.z
  show VV g p e (rmm D mc ms) s m args below meth c 4 (QQ g below args s mc ms Pr Pt) kc ks 0 [some (.ref l0), some (.int l1), some (.int l2), some (.int l3)] [] h
  refine r_iload_n X dX2_putWoman_0 rfl ?_
  refine r_if_lt X dX2_putWoman_1 (tgt := 24) (by decide) (fun q => ?_) (fun q => ?_)
  · have w := w.1 q
    exact r_vret X dX2_putWoman_24 rfl w hk.1 hk.2
  · have w := w.2 q
    refine r_iload_n X dX2_putWoman_4 rfl ?_
    refine r_bipush X dX2_putWoman_5 (v := 6) (by decide) ?_
    refine r_icmp_ge X dX2_putWoman_7 (tgt := 24) (by decide) (fun q => ?_) (fun q => ?_)
    · have w := w.1 q
      exact r_vret X dX2_putWoman_24 rfl w hk.1 hk.2
    · have w := w.2 q
      refine r_aload_n X dX2_putWoman_10 rfl ?_
      obtain ⟨v1, ev1, w⟩ := w
      obtain ⟨fv1, cv1, qv1⟩ := gN_s ev1
      refine r_getf X dX2_putWoman_11 fl_X2_21 cv1 qv1 ?_
      refine r_iload_n X dX2_putWoman_14 rfl ?_
      refine r_iload_n X dX2_putWoman_15 rfl ?_
      obtain ⟨h2, eh2, w⟩ := w
      obtain ⟨nh2, fh2, ch2, ih2, rh2⟩ := uI_s eh2
      subst rh2
      refine r_iast X dX2_putWoman_16 ch2 ih2 ?_
      refine r_aload_n X dX2_putWoman_17 rfl ?_
      obtain ⟨v3, ev3, w⟩ := w
      obtain ⟨fv3, cv3, qv3⟩ := gN_s ev3
      refine r_getf X dX2_putWoman_18 fl_X2_24 cv3 qv3 ?_
      refine r_iload_n X dX2_putWoman_21 rfl ?_
      refine r_iload_n X dX2_putWoman_22 rfl ?_
      obtain ⟨h4, eh4, w⟩ := w
      obtain ⟨nh4, fh4, ch4, ih4, rh4⟩ := uI_s eh4
      subst rh4
      refine r_iast X dX2_putWoman_23 ch4 ih4 ?_
      exact r_vret X dX2_putWoman_24 rfl w hk.1 hk.2

set_option maxRecDepth 10000 in
theorem b_X2_readFrom_0 {g : GG} {K : KX} {D mc ms : Nat} {Pr : Option Value → Hp → Prop} {Pt : String → Hp → Prop} {kc ks : Nat} (hg : GOK g) (hD : 8 ≤ D) (hk : kc ≤ mc ∧ ks ≤ ms) (X : CB g K cX2_readFrom 4 yX2_readFrom none []) (l0 : Nat) (l1 : Nat) (l2 : Int32) (h : Hp)
    (w : ((l2 < 0 → Pr none h) ∧ (¬ l2 < 0 → (∃ v1, lenA h l1 = some v1 ∧ (((l2 + (49 : Int32)) ≤ v1 → (∃ v2, aI h 0 l1 l2 = some v2 ∧ (∃ h3, pF h l0 2 0 (.int v2) = some h3 ∧ (∃ v4, gN h3 l0 2 1 = some v4 ∧ (∃ h5, cpA h3 l1 ((l2 + (1 : Int32))) v4 ((0 : Int32)) ((12 : Int32)) = some h5 ∧ (∃ v6, gN h5 l0 2 2 = some v6 ∧ (∃ h7, cpA h5 l1 (((l2 + (1 : Int32)) + (12 : Int32))) v6 ((0 : Int32)) ((12 : Int32)) = some h7 ∧ (∃ v8, gN h7 l0 2 3 = some v8 ∧ (∃ h9, cpA h7 l1 (((l2 + (1 : Int32)) + (24 : Int32))) v8 ((0 : Int32)) ((12 : Int32)) = some h9 ∧ (∃ v10, gN h9 l0 2 4 = some v10 ∧ (∃ h11, cpA h9 l1 (((l2 + (1 : Int32)) + 36)) v10 ((0 : Int32)) ((6 : Int32)) = some h11 ∧ (∃ v12, gN h11 l0 2 5 = some v12 ∧ (∃ h13, cpA h11 l1 ((((l2 + (1 : Int32)) + 36) + (6 : Int32))) v12 ((0 : Int32)) ((6 : Int32)) = some h13 ∧ Pr none h13))))))))))))) ∧ (¬ (l2 + (49 : Int32)) ≤ v1 → Pr none h)))))) : VB g K 4 D mc ms Pr Pt kc ks 0 [some (.ref l0), some (.ref l1), some (.int l2), none] [] h := by
  obtain ⟨p, e, s, m, args, below, meth, c⟩ := K
  have X : CX g p s m args meth c cX2_readFrom 4 yX2_readFrom none [] := X
  have hz := hg s X.gk.z
  show VV g p e (rmm D mc ms) s m args below meth c 4 (QQ g below args s mc ms Pr Pt) kc ks 0 [some (.ref l0), some (.ref l1), some (.int l2), none] [] h
  refine r_iload_n X dX2_readFrom_0 rfl ?_
  refine r_if_lt X dX2_readFrom_1 (tgt := 13) (by decide) (fun q => ?_) (fun q => ?_)
  · have w := w.1 q
    exact r_vret X dX2_readFrom_13 rfl w hk.1 hk.2
  · have w := w.2 q
    refine r_iload_n X dX2_readFrom_4 rfl ?_
    refine r_bipush X dX2_readFrom_5 (v := 49) (by decide) ?_
    refine r_iadd X dX2_readFrom_7 ?_
    refine r_aload_n X dX2_readFrom_8 rfl ?_
    obtain ⟨v1, ev1, w⟩ := w
    obtain ⟨tv1, nv1, fv1, cv1, iv1, qv1⟩ := lenA_s ev1
    refine r_alen X dX2_readFrom_9 cv1 iv1 ?_
    rw [qv1]
    refine r_icmp_le X dX2_readFrom_10 (tgt := 14) (by decide) (fun q => ?_) (fun q => ?_)
    · have w := w.1 q
      refine r_aload_n X dX2_readFrom_14 rfl ?_
      refine r_aload_n X dX2_readFrom_15 rfl ?_
      refine r_iload_n X dX2_readFrom_16 rfl ?_
      obtain ⟨v2, ev2, w⟩ := w
      obtain ⟨nv2, fv2, cv2, iv2, qv2⟩ := aI_s ev2
      refine r_iald X dX2_readFrom_17 cv2 iv2 ?_
      rw [qv2]
      obtain ⟨h3, eh3, w⟩ := w
      obtain ⟨fh3, ch3, lh3, rh3⟩ := pF_s eh3
      subst rh3
      refine r_putf X dX2_readFrom_18 fw_X2_30 ch3 lh3 rfl rfl ?_
      refine r_iload_n X dX2_readFrom_21 rfl ?_
      refine r_iconst X dX2_readFrom_22 (v := 1) (by decide) ?_
      refine r_iadd X dX2_readFrom_23 ?_
      refine r_istore_n X dX2_readFrom_24 (by decide) rfl ?_
      refine r_aload_n X dX2_readFrom_25 rfl ?_
      refine r_iload_n X dX2_readFrom_26 rfl ?_
      refine r_aload_n X dX2_readFrom_27 rfl ?_
      obtain ⟨v4, ev4, w⟩ := w
      obtain ⟨fv4, cv4, qv4⟩ := gN_s ev4
      refine r_getf X dX2_readFrom_28 fl_X2_9 cv4 qv4 ?_
      refine r_iconst X dX2_readFrom_31 (v := 0) (by decide) ?_
      refine r_bipush X dX2_readFrom_32 (v := 12) (by decide) ?_
      obtain ⟨h5, eh5, w⟩ := w
      obtain ⟨nh5, fh5, mh5, kh5, x1, x2, x3, x4, x5, x6, x7, rh5⟩ := cpA_s eh5
      subst rh5
      refine r_copy X dX2_readFrom_34 ac_X2_34 x1 x2 x3 x4 x5 x6 x7 (by refine ⟨?_, ?_⟩ <;> simp [rmm, Value.category, nativeFrameWords] <;> omega) ?_
      refine r_aload_n X dX2_readFrom_37 rfl ?_
      refine r_iload_n X dX2_readFrom_38 rfl ?_
      refine r_bipush X dX2_readFrom_39 (v := 12) (by decide) ?_
      refine r_iadd X dX2_readFrom_41 ?_
      refine r_aload_n X dX2_readFrom_42 rfl ?_
      obtain ⟨v6, ev6, w⟩ := w
      obtain ⟨fv6, cv6, qv6⟩ := gN_s ev6
      refine r_getf X dX2_readFrom_43 fl_X2_15 cv6 qv6 ?_
      refine r_iconst X dX2_readFrom_46 (v := 0) (by decide) ?_
      refine r_bipush X dX2_readFrom_47 (v := 12) (by decide) ?_
      obtain ⟨h7, eh7, w⟩ := w
      obtain ⟨nh7, fh7, mh7, kh7, x1, x2, x3, x4, x5, x6, x7, rh7⟩ := cpA_s eh7
      subst rh7
      refine r_copy X dX2_readFrom_49 ac_X2_34 x1 x2 x3 x4 x5 x6 x7 (by refine ⟨?_, ?_⟩ <;> simp [rmm, Value.category, nativeFrameWords] <;> omega) ?_
      refine r_aload_n X dX2_readFrom_52 rfl ?_
      refine r_iload_n X dX2_readFrom_53 rfl ?_
      refine r_bipush X dX2_readFrom_54 (v := 24) (by decide) ?_
      refine r_iadd X dX2_readFrom_56 ?_
      refine r_aload_n X dX2_readFrom_57 rfl ?_
      obtain ⟨v8, ev8, w⟩ := w
      obtain ⟨fv8, cv8, qv8⟩ := gN_s ev8
      refine r_getf X dX2_readFrom_58 fl_X2_18 cv8 qv8 ?_
      refine r_iconst X dX2_readFrom_61 (v := 0) (by decide) ?_
      refine r_bipush X dX2_readFrom_62 (v := 12) (by decide) ?_
      obtain ⟨h9, eh9, w⟩ := w
      obtain ⟨nh9, fh9, mh9, kh9, x1, x2, x3, x4, x5, x6, x7, rh9⟩ := cpA_s eh9
      subst rh9
      refine r_copy X dX2_readFrom_64 ac_X2_34 x1 x2 x3 x4 x5 x6 x7 (by refine ⟨?_, ?_⟩ <;> simp [rmm, Value.category, nativeFrameWords] <;> omega) ?_
      refine r_iinc X dX2_readFrom_67 rfl (v := ((l2 + (1 : Int32)) + 36)) rfl (by decide) rfl ?_
      refine r_aload_n X dX2_readFrom_70 rfl ?_
      refine r_iload_n X dX2_readFrom_71 rfl ?_
      refine r_aload_n X dX2_readFrom_72 rfl ?_
      obtain ⟨v10, ev10, w⟩ := w
      obtain ⟨fv10, cv10, qv10⟩ := gN_s ev10
      refine r_getf X dX2_readFrom_73 fl_X2_21 cv10 qv10 ?_
      refine r_iconst X dX2_readFrom_76 (v := 0) (by decide) ?_
      refine r_bipush X dX2_readFrom_77 (v := 6) (by decide) ?_
      obtain ⟨h11, eh11, w⟩ := w
      obtain ⟨nh11, fh11, mh11, kh11, x1, x2, x3, x4, x5, x6, x7, rh11⟩ := cpA_s eh11
      subst rh11
      refine r_copy X dX2_readFrom_79 ac_X2_34 x1 x2 x3 x4 x5 x6 x7 (by refine ⟨?_, ?_⟩ <;> simp [rmm, Value.category, nativeFrameWords] <;> omega) ?_
      refine r_aload_n X dX2_readFrom_82 rfl ?_
      refine r_iload_n X dX2_readFrom_83 rfl ?_
      refine r_bipush X dX2_readFrom_84 (v := 6) (by decide) ?_
      refine r_iadd X dX2_readFrom_86 ?_
      refine r_aload_n X dX2_readFrom_87 rfl ?_
      obtain ⟨v12, ev12, w⟩ := w
      obtain ⟨fv12, cv12, qv12⟩ := gN_s ev12
      refine r_getf X dX2_readFrom_88 fl_X2_24 cv12 qv12 ?_
      refine r_iconst X dX2_readFrom_91 (v := 0) (by decide) ?_
      refine r_bipush X dX2_readFrom_92 (v := 6) (by decide) ?_
      obtain ⟨h13, eh13, w⟩ := w
      obtain ⟨nh13, fh13, mh13, kh13, x1, x2, x3, x4, x5, x6, x7, rh13⟩ := cpA_s eh13
      subst rh13
      refine r_copy X dX2_readFrom_94 ac_X2_34 x1 x2 x3 x4 x5 x6 x7 (by refine ⟨?_, ?_⟩ <;> simp [rmm, Value.category, nativeFrameWords] <;> omega) ?_
      exact r_vret X dX2_readFrom_97 rfl w hk.1 hk.2
    · have w := w.2 q
      exact r_vret X dX2_readFrom_13 rfl w hk.1 hk.2

set_option maxRecDepth 10000 in
theorem b_X2_seamOfAll_0 {g : GG} {K : KX} {D mc ms : Nat} {Pr : Option Value → Hp → Prop} {Pt : String → Hp → Prop} {kc ks : Nat} (hg : GOK g) (hD : 8 ≤ D) (hk : kc ≤ mc ∧ ks ≤ ms) (X : CB g K cX2_seamOfAll 4 yX2_seamOfAll (some (.int)) []) (l0 : Nat) (l1 : Nat) (h : Hp)
    (w : VB g K 4 D mc ms Pr Pt kc ks 4 [some (.ref l0), some (.ref l1), some (.int ((0 : Int32))), some (.int ((0 : Int32)))] [] h) : VB g K 4 D mc ms Pr Pt kc ks 0 [some (.ref l0), some (.ref l1), none, none] [] h := by
  obtain ⟨p, e, s, m, args, below, meth, c⟩ := K
  have X : CX g p s m args meth c cX2_seamOfAll 4 yX2_seamOfAll (some (.int)) [] := X
  have hz := hg s X.gk.z
  show VV g p e (rmm D mc ms) s m args below meth c 4 (QQ g below args s mc ms Pr Pt) kc ks 0 [some (.ref l0), some (.ref l1), none, none] [] h
  refine r_iconst X dX2_seamOfAll_0 (v := 0) (by decide) ?_
  refine r_istore_n X dX2_seamOfAll_1 (by decide) rfl ?_
  refine r_iconst X dX2_seamOfAll_2 (v := 0) (by decide) ?_
  refine r_istore_n X dX2_seamOfAll_3 (by decide) rfl ?_
  refine VB_wk (ls' := [some (.ref l0), some (.ref l1), some (.int ((0 : Int32))), some (.int ((0 : Int32)))]) ?_ w
  exact (And.intro rfl (And.intro rfl (And.intro rfl (And.intro rfl trivial))))

set_option maxRecDepth 10000 in
theorem b_X2_seamOfAll_4 {g : GG} {K : KX} {D mc ms : Nat} {Pr : Option Value → Hp → Prop} {Pt : String → Hp → Prop} {kc ks : Nat} (hg : GOK g) (hD : 8 ≤ D) (hk : kc ≤ mc ∧ ks ≤ ms) (X : CB g K cX2_seamOfAll 4 yX2_seamOfAll (some (.int)) []) (l0 : Nat) (l1 : Nat) (l2 : Int32) (l3 : Int32) (h : Hp)
    (w : (∃ v1, gI h l1 9 0 = some v1 ∧ ((v1 ≤ l3 → Pr (some (.int l2)) h) ∧ (¬ v1 ≤ l3 → (∃ v2, gN h l0 2 2 = some v2 ∧ (∃ v3, aI h 0 v2 l3 = some v3 ∧ VB g K 4 D mc ms Pr Pt kc ks 4 [some (.ref l0), some (.ref l1), some (.int ((l2 + v3))), some (.int ((l3 + 1)))] [] h)))))) : VB g K 4 D mc ms Pr Pt kc ks 4 [some (.ref l0), some (.ref l1), some (.int l2), some (.int l3)] [] h := by
  obtain ⟨p, e, s, m, args, below, meth, c⟩ := K
  have X : CX g p s m args meth c cX2_seamOfAll 4 yX2_seamOfAll (some (.int)) [] := X
  have hz := hg s X.gk.z
  show VV g p e (rmm D mc ms) s m args below meth c 4 (QQ g below args s mc ms Pr Pt) kc ks 4 [some (.ref l0), some (.ref l1), some (.int l2), some (.int l3)] [] h
  refine r_iload_n X dX2_seamOfAll_4 rfl ?_
  refine r_aload_n X dX2_seamOfAll_5 rfl ?_
  obtain ⟨v1, ev1, w⟩ := w
  obtain ⟨fv1, cv1, qv1⟩ := gI_s ev1
  refine r_getf X dX2_seamOfAll_6 fl_X2_40 cv1 qv1 ?_
  refine r_icmp_ge X dX2_seamOfAll_9 (tgt := 27) (by decide) (fun q => ?_) (fun q => ?_)
  · have w := w.1 q
    refine r_iload_n X dX2_seamOfAll_27 rfl ?_
    exact r_iret X dX2_seamOfAll_28 rfl w hk.1 hk.2
  · have w := w.2 q
    refine r_iload_n X dX2_seamOfAll_12 rfl ?_
    refine r_aload_n X dX2_seamOfAll_13 rfl ?_
    obtain ⟨v2, ev2, w⟩ := w
    obtain ⟨fv2, cv2, qv2⟩ := gN_s ev2
    refine r_getf X dX2_seamOfAll_14 fl_X2_15 cv2 qv2 ?_
    refine r_iload_n X dX2_seamOfAll_17 rfl ?_
    obtain ⟨v3, ev3, w⟩ := w
    obtain ⟨nv3, fv3, cv3, iv3, qv3⟩ := aI_s ev3
    refine r_iald X dX2_seamOfAll_18 cv3 iv3 ?_
    rw [qv3]
    refine r_iadd X dX2_seamOfAll_19 ?_
    refine r_istore_n X dX2_seamOfAll_20 (by decide) rfl ?_
    refine r_iinc X dX2_seamOfAll_21 rfl (v := (l3 + 1)) rfl (by decide) rfl ?_
    refine r_goto X dX2_seamOfAll_24 (tgt := 4) (by decide) ?_
    refine VB_wk (ls' := [some (.ref l0), some (.ref l1), some (.int ((l2 + v3))), some (.int ((l3 + 1)))]) ?_ w
    exact (And.intro rfl (And.intro rfl (And.intro rfl (And.intro rfl trivial))))

set_option maxRecDepth 10000 in
theorem b_X2_seamWhere_0 {g : GG} {K : KX} {D mc ms : Nat} {Pr : Option Value → Hp → Prop} {Pt : String → Hp → Prop} {kc ks : Nat} (hg : GOK g) (hD : 8 ≤ D) (hk : kc ≤ mc ∧ ks ≤ ms) (X : CB g K cX2_seamWhere 3 yX2_seamWhere (some (.int)) []) (l0 : Nat) (l1 : Int32) (h : Hp)
    (w : (∃ v1, gN h l0 2 4 = some v1 ∧ (∃ v2, aI h 0 v1 l1 = some v2 ∧ ((v2 < 0 → VB g K 3 D mc ms Pr Pt kc ks 17 [none, none, none] [] h) ∧ (¬ v2 < 0 → ((v2 < (12 : Int32) → (∃ v3, gN h l0 2 2 = some v3 ∧ (∃ v4, aI h 0 v3 v2 = some v4 ∧ Pr (some (.int v4)) h))) ∧ (¬ v2 < (12 : Int32) → VB g K 3 D mc ms Pr Pt kc ks 17 [none, none, none] [] h))))))) : VB g K 3 D mc ms Pr Pt kc ks 0 [some (.ref l0), some (.int l1), none] [] h := by
  obtain ⟨p, e, s, m, args, below, meth, c⟩ := K
  have X : CX g p s m args meth c cX2_seamWhere 3 yX2_seamWhere (some (.int)) [] := X
  have hz := hg s X.gk.z
  show VV g p e (rmm D mc ms) s m args below meth c 3 (QQ g below args s mc ms Pr Pt) kc ks 0 [some (.ref l0), some (.int l1), none] [] h
  refine r_aload_n X dX2_seamWhere_0 rfl ?_
  obtain ⟨v1, ev1, w⟩ := w
  obtain ⟨fv1, cv1, qv1⟩ := gN_s ev1
  refine r_getf X dX2_seamWhere_1 fl_X2_21 cv1 qv1 ?_
  refine r_iload_n X dX2_seamWhere_4 rfl ?_
  obtain ⟨v2, ev2, w⟩ := w
  obtain ⟨nv2, fv2, cv2, iv2, qv2⟩ := aI_s ev2
  refine r_iald X dX2_seamWhere_5 cv2 iv2 ?_
  rw [qv2]
  refine r_istore_n X dX2_seamWhere_6 (by decide) rfl ?_
  refine r_iload_n X dX2_seamWhere_7 rfl ?_
  refine r_if_lt X dX2_seamWhere_8 (tgt := 17) (by decide) (fun q => ?_) (fun q => ?_)
  · have w := w.1 q
    refine VB_wk (ls' := [none, none, none]) ?_ w
    exact trivial
  · have w := w.2 q
    refine r_iload_n X dX2_seamWhere_11 rfl ?_
    refine r_bipush X dX2_seamWhere_12 (v := 12) (by decide) ?_
    refine r_icmp_lt X dX2_seamWhere_14 (tgt := 21) (by decide) (fun q => ?_) (fun q => ?_)
    · have w := w.1 q
      refine r_aload_n X dX2_seamWhere_21 rfl ?_
      obtain ⟨v3, ev3, w⟩ := w
      obtain ⟨fv3, cv3, qv3⟩ := gN_s ev3
      refine r_getf X dX2_seamWhere_22 fl_X2_15 cv3 qv3 ?_
      refine r_iload_n X dX2_seamWhere_25 rfl ?_
      obtain ⟨v4, ev4, w⟩ := w
      obtain ⟨nv4, fv4, cv4, iv4, qv4⟩ := aI_s ev4
      refine r_iald X dX2_seamWhere_26 cv4 iv4 ?_
      rw [qv4]
      exact r_iret X dX2_seamWhere_27 rfl w hk.1 hk.2
    · have w := w.2 q
      refine VB_wk (ls' := [none, none, none]) ?_ w
      exact trivial

set_option maxRecDepth 10000 in
theorem b_X2_seamWhere_17 {g : GG} {K : KX} {D mc ms : Nat} {Pr : Option Value → Hp → Prop} {Pt : String → Hp → Prop} {kc ks : Nat} (hg : GOK g) (hD : 8 ≤ D) (hk : kc ≤ mc ∧ ks ≤ ms) (X : CB g K cX2_seamWhere 3 yX2_seamWhere (some (.int)) [])  (h : Hp)
    (w : Pr (some (.int ((0 : Int32)))) h) : VB g K 3 D mc ms Pr Pt kc ks 17 [none, none, none] [] h := by
  obtain ⟨p, e, s, m, args, below, meth, c⟩ := K
  have X : CX g p s m args meth c cX2_seamWhere 3 yX2_seamWhere (some (.int)) [] := X
  have hz := hg s X.gk.z
  show VV g p e (rmm D mc ms) s m args below meth c 3 (QQ g below args s mc ms Pr Pt) kc ks 17 [none, none, none] [] h
  refine r_iconst X dX2_seamWhere_17 (v := 0) (by decide) ?_
  refine r_goto X dX2_seamWhere_18 (tgt := 27) (by decide) ?_
  exact r_iret X dX2_seamWhere_27 rfl w hk.1 hk.2

set_option maxRecDepth 10000 in
theorem b_X2_strainIfClosed_0 {g : GG} {K : KX} {D mc ms : Nat} {Pr : Option Value → Hp → Prop} {Pt : String → Hp → Prop} {kc ks : Nat} (hg : GOK g) (hD : 8 ≤ D) (hk : kc ≤ mc ∧ ks ≤ ms) (X : CB g K cX2_strainIfClosed 3 yX2_strainIfClosed none []) (l0 : Nat) (l1 : Int32) (l2 : Int32) (h : Hp)
    (w : (∃ fs0, oF h l0 2 = some fs0 ∧ (∃ d0 P0 E0 m0 n0, CT g d0 yX2_isOpen (wsC yX2_isOpen cX2_isOpen 2 (some (.boolean))) [.ref l0, .int l1] h m0 n0 P0 E0 ∧ (d0 + 1 ≤ D ∧ kc + m0 ≤ mc ∧ ks + n0 ≤ ms) ∧ (∀ E h', E0 E h' → Pt E h') ∧ (∀ v h0, P0 v h0 → ∃ v2, v = some (.int v2) ∧ ((¬ v2 = 0 → Pr none h0) ∧ (v2 = 0 → (∃ fs2, oF h0 l0 2 = some fs2 ∧ (∃ d2 P2 E2 m2 n2, CT g d2 yX2_addStrain (wsC yX2_addStrain cX2_addStrain 3 none) [.ref l0, .int l1, .int l2] h0 m2 n2 P2 E2 ∧ (d2 + 1 ≤ D ∧ (kc + m0) + m2 ≤ mc ∧ (ks + n0) + n2 ≤ ms) ∧ (∀ E h', E2 E h' → Pt E h') ∧ (∀ v h2, P2 v h2 → v = none ∧ Pr none h2))))))))) : VB g K 3 D mc ms Pr Pt kc ks 0 [some (.ref l0), some (.int l1), some (.int l2)] [] h := by
  obtain ⟨p, e, s, m, args, below, meth, c⟩ := K
  have X : CX g p s m args meth c cX2_strainIfClosed 3 yX2_strainIfClosed none [] := X
  have hz := hg s X.gk.z
  show VV g p e (rmm D mc ms) s m args below meth c 3 (QQ g below args s mc ms Pr Pt) kc ks 0 [some (.ref l0), some (.int l1), some (.int l2)] [] h
  refine r_aload_n X dX2_strainIfClosed_0 rfl ?_
  refine r_iload_n X dX2_strainIfClosed_1 rfl ?_
  obtain ⟨fs0, es0, w⟩ := w
  obtain ⟨d0, P0, E0, m0, n0, ct0, w⟩ := w
  obtain ⟨⟨x1, x2, x3⟩, w⟩ := w
  obtain ⟨x4, w⟩ := w
  refine r_callV X (As := [.int l1]) dX2_strainIfClosed_2 mk_X2_isOpen ⟨ml_X2_102, im_X2_isOpen, se_X2_isOpen⟩ (oF_s es0) (ci_X2).1 rfl rfl rfl (by simp [Value.category]) ⟨x1, by show 60 * (d0 + 1) + 200 ≤ 60 * D + 200; omega⟩ ⟨x2, x3⟩ ct0 x4 (fun _ z => nomatch z) (fun _ => ⟨x2, x3⟩) (fun v h0 w1 => ?_)
  have w := w v h0 w1
  have hk : kc + m0 ≤ mc ∧ ks + n0 ≤ ms := ⟨x2, x3⟩
  obtain ⟨v2, rfl, w⟩ := w
  refine r_if_ne X dX2_strainIfClosed_5 (tgt := 14) (by decide) (fun q => ?_) (fun q => ?_)
  · have w := w.1 q
    exact r_vret X dX2_strainIfClosed_14 rfl w hk.1 hk.2
  · have w := w.2 q
    refine r_aload_n X dX2_strainIfClosed_8 rfl ?_
    refine r_iload_n X dX2_strainIfClosed_9 rfl ?_
    refine r_iload_n X dX2_strainIfClosed_10 rfl ?_
    obtain ⟨fs2, es2, w⟩ := w
    obtain ⟨d2, P2, E2, m2, n2, ct2, w⟩ := w
    obtain ⟨⟨x1, x2, x3⟩, w⟩ := w
    obtain ⟨x4, w⟩ := w
    refine r_callV X (As := [.int l1, .int l2]) dX2_strainIfClosed_11 mk_X2_addStrain ⟨ml_X2_139, im_X2_addStrain, se_X2_addStrain⟩ (oF_s es2) (ci_X2).1 rfl rfl rfl (by simp [Value.category]) ⟨x1, by show 60 * (d2 + 1) + 200 ≤ 60 * D + 200; omega⟩ ⟨x2, x3⟩ ct2 x4 (fun _ z => nomatch z) (fun _ => ⟨x2, x3⟩) (fun v h2 w1 => ?_)
    have w := w v h2 w1
    have hk : (kc + m0) + m2 ≤ mc ∧ (ks + n0) + n2 ≤ ms := ⟨x2, x3⟩
    obtain ⟨rfl, w⟩ := w
    exact r_vret X dX2_strainIfClosed_14 rfl w hk.1 hk.2

set_option maxRecDepth 10000 in
theorem b_X2_strainedBits_0 {g : GG} {K : KX} {D mc ms : Nat} {Pr : Option Value → Hp → Prop} {Pt : String → Hp → Prop} {kc ks : Nat} (hg : GOK g) (hD : 8 ≤ D) (hk : kc ≤ mc ∧ ks ≤ ms) (X : CB g K cX2_strainedBits 5 yX2_strainedBits (some (.int)) []) (l0 : Nat) (l1 : Nat) (l2 : Int32) (h : Hp)
    (w : VB g K 5 D mc ms Pr Pt kc ks 5 [some (.ref l0), some (.ref l1), some (.int l2), some (.int ((0 : Int32))), some (.int ((0 : Int32)))] [] h) : VB g K 5 D mc ms Pr Pt kc ks 0 [some (.ref l0), some (.ref l1), some (.int l2), none, none] [] h := by
  obtain ⟨p, e, s, m, args, below, meth, c⟩ := K
  have X : CX g p s m args meth c cX2_strainedBits 5 yX2_strainedBits (some (.int)) [] := X
  have hz := hg s X.gk.z
  show VV g p e (rmm D mc ms) s m args below meth c 5 (QQ g below args s mc ms Pr Pt) kc ks 0 [some (.ref l0), some (.ref l1), some (.int l2), none, none] [] h
  refine r_iconst X dX2_strainedBits_0 (v := 0) (by decide) ?_
  refine r_istore_n X dX2_strainedBits_1 (by decide) rfl ?_
  refine r_iconst X dX2_strainedBits_2 (v := 0) (by decide) ?_
  refine r_istore X dX2_strainedBits_3 (by decide) rfl ?_
  refine VB_wk (ls' := [some (.ref l0), some (.ref l1), some (.int l2), some (.int ((0 : Int32))), some (.int ((0 : Int32)))]) ?_ w
  exact (And.intro rfl (And.intro rfl (And.intro rfl (And.intro rfl (And.intro rfl trivial)))))

set_option maxRecDepth 10000 in
theorem b_X2_strainedBits_5 {g : GG} {K : KX} {D mc ms : Nat} {Pr : Option Value → Hp → Prop} {Pt : String → Hp → Prop} {kc ks : Nat} (hg : GOK g) (hD : 8 ≤ D) (hk : kc ≤ mc ∧ ks ≤ ms) (X : CB g K cX2_strainedBits 5 yX2_strainedBits (some (.int)) []) (l0 : Nat) (l1 : Nat) (l2 : Int32) (l3 : Int32) (l4 : Int32) (h : Hp)
    (w : (∃ v1, gI h l1 9 0 = some v1 ∧ ((v1 ≤ l4 → Pr (some (.int l3)) h) ∧ (¬ v1 ≤ l4 → (∃ v2, gN h l0 2 1 = some v2 ∧ (∃ v3, aI h 0 v2 l4 = some v3 ∧ ((v3 < l2 → VB g K 5 D mc ms Pr Pt kc ks 32 [some (.ref l0), some (.ref l1), some (.int l2), some (.int l3), some (.int l4)] [] h) ∧ (¬ v3 < l2 → VB g K 5 D mc ms Pr Pt kc ks 32 [some (.ref l0), some (.ref l1), some (.int l2), some (.int ((l3 ||| ((1 : Int32) <<< (l4 &&& 31))))), some (.int l4)] [] h)))))))) : VB g K 5 D mc ms Pr Pt kc ks 5 [some (.ref l0), some (.ref l1), some (.int l2), some (.int l3), some (.int l4)] [] h := by
  obtain ⟨p, e, s, m, args, below, meth, c⟩ := K
  have X : CX g p s m args meth c cX2_strainedBits 5 yX2_strainedBits (some (.int)) [] := X
  have hz := hg s X.gk.z
  show VV g p e (rmm D mc ms) s m args below meth c 5 (QQ g below args s mc ms Pr Pt) kc ks 5 [some (.ref l0), some (.ref l1), some (.int l2), some (.int l3), some (.int l4)] [] h
  refine r_iload X dX2_strainedBits_5 rfl ?_
  refine r_aload_n X dX2_strainedBits_7 rfl ?_
  obtain ⟨v1, ev1, w⟩ := w
  obtain ⟨fv1, cv1, qv1⟩ := gI_s ev1
  refine r_getf X dX2_strainedBits_8 fl_X2_40 cv1 qv1 ?_
  refine r_icmp_ge X dX2_strainedBits_11 (tgt := 38) (by decide) (fun q => ?_) (fun q => ?_)
  · have w := w.1 q
    refine r_iload_n X dX2_strainedBits_38 rfl ?_
    exact r_iret X dX2_strainedBits_39 rfl w hk.1 hk.2
  · have w := w.2 q
    refine r_aload_n X dX2_strainedBits_14 rfl ?_
    obtain ⟨v2, ev2, w⟩ := w
    obtain ⟨fv2, cv2, qv2⟩ := gN_s ev2
    refine r_getf X dX2_strainedBits_15 fl_X2_9 cv2 qv2 ?_
    refine r_iload X dX2_strainedBits_18 rfl ?_
    obtain ⟨v3, ev3, w⟩ := w
    obtain ⟨nv3, fv3, cv3, iv3, qv3⟩ := aI_s ev3
    refine r_iald X dX2_strainedBits_20 cv3 iv3 ?_
    rw [qv3]
    refine r_iload_n X dX2_strainedBits_21 rfl ?_
    refine r_icmp_lt X dX2_strainedBits_22 (tgt := 32) (by decide) (fun q => ?_) (fun q => ?_)
    · have w := w.1 q
      refine VB_wk (ls' := [some (.ref l0), some (.ref l1), some (.int l2), some (.int l3), some (.int l4)]) ?_ w
      exact (And.intro rfl (And.intro rfl (And.intro rfl (And.intro rfl (And.intro rfl trivial)))))
    · have w := w.2 q
      refine r_iload_n X dX2_strainedBits_25 rfl ?_
      refine r_iconst X dX2_strainedBits_26 (v := 1) (by decide) ?_
      refine r_iload X dX2_strainedBits_27 rfl ?_
      refine r_ishl X dX2_strainedBits_29 ?_
      refine r_ior X dX2_strainedBits_30 ?_
      refine r_istore_n X dX2_strainedBits_31 (by decide) rfl ?_
      refine VB_wk (ls' := [some (.ref l0), some (.ref l1), some (.int l2), some (.int ((l3 ||| ((1 : Int32) <<< (l4 &&& 31))))), some (.int l4)]) ?_ w
      exact (And.intro rfl (And.intro rfl (And.intro rfl (And.intro rfl (And.intro rfl trivial)))))

set_option maxRecDepth 10000 in
theorem b_X2_strainedBits_32 {g : GG} {K : KX} {D mc ms : Nat} {Pr : Option Value → Hp → Prop} {Pt : String → Hp → Prop} {kc ks : Nat} (hg : GOK g) (hD : 8 ≤ D) (hk : kc ≤ mc ∧ ks ≤ ms) (X : CB g K cX2_strainedBits 5 yX2_strainedBits (some (.int)) []) (l0 : Nat) (l1 : Nat) (l2 : Int32) (l3 : Int32) (l4 : Int32) (h : Hp)
    (w : VB g K 5 D mc ms Pr Pt kc ks 5 [some (.ref l0), some (.ref l1), some (.int l2), some (.int l3), some (.int ((l4 + 1)))] [] h) : VB g K 5 D mc ms Pr Pt kc ks 32 [some (.ref l0), some (.ref l1), some (.int l2), some (.int l3), some (.int l4)] [] h := by
  obtain ⟨p, e, s, m, args, below, meth, c⟩ := K
  have X : CX g p s m args meth c cX2_strainedBits 5 yX2_strainedBits (some (.int)) [] := X
  have hz := hg s X.gk.z
  show VV g p e (rmm D mc ms) s m args below meth c 5 (QQ g below args s mc ms Pr Pt) kc ks 32 [some (.ref l0), some (.ref l1), some (.int l2), some (.int l3), some (.int l4)] [] h
  refine r_iinc X dX2_strainedBits_32 rfl (v := (l4 + 1)) rfl (by decide) rfl ?_
  refine r_goto X dX2_strainedBits_35 (tgt := 5) (by decide) ?_
  refine VB_wk (ls' := [some (.ref l0), some (.ref l1), some (.int l2), some (.int l3), some (.int ((l4 + 1)))]) ?_ w
  exact (And.intro rfl (And.intro rfl (And.intro rfl (And.intro rfl (And.intro rfl trivial)))))

set_option maxRecDepth 10000 in
theorem b_X2_tearOff_0 {g : GG} {K : KX} {D mc ms : Nat} {Pr : Option Value → Hp → Prop} {Pt : String → Hp → Prop} {kc ks : Nat} (hg : GOK g) (hD : 8 ≤ D) (hk : kc ≤ mc ∧ ks ≤ ms) (X : CB g K cX2_tearOff 4 yX2_tearOff none []) (l0 : Nat) (l1 : Nat) (l2 : Int32) (l3 : Int32) (h : Hp)
    (w : (∃ fs0, oF h l0 2 = some fs0 ∧ (∃ d0 P0 E0 m0 n0, CT g d0 yX2_isOpen (wsC yX2_isOpen cX2_isOpen 2 (some (.boolean))) [.ref l0, .int l2] h m0 n0 P0 E0 ∧ (d0 + 1 ≤ D ∧ kc + m0 ≤ mc ∧ ks + n0 ≤ ms) ∧ (∀ E h', E0 E h' → Pt E h') ∧ (∀ v h0, P0 v h0 → ∃ v2, v = some (.int v2) ∧ ((¬ v2 = 0 → Pr none h0) ∧ (v2 = 0 → (∃ fs2, oF h0 l0 2 = some fs2 ∧ (∃ d2 P2 E2 m2 n2, CT g d2 yX2_wear (wsC yX2_wear cX2_wear 5 none) [.ref l0, .ref l1, .int l2, .int l3] h0 m2 n2 P2 E2 ∧ (d2 + 1 ≤ D ∧ (kc + m0) + m2 ≤ mc ∧ (ks + n0) + n2 ≤ ms) ∧ (∀ E h', E2 E h' → Pt E h') ∧ (∀ v h2, P2 v h2 → v = none ∧ Pr none h2))))))))) : VB g K 4 D mc ms Pr Pt kc ks 0 [some (.ref l0), some (.ref l1), some (.int l2), some (.int l3)] [] h := by
  obtain ⟨p, e, s, m, args, below, meth, c⟩ := K
  have X : CX g p s m args meth c cX2_tearOff 4 yX2_tearOff none [] := X
  have hz := hg s X.gk.z
  show VV g p e (rmm D mc ms) s m args below meth c 4 (QQ g below args s mc ms Pr Pt) kc ks 0 [some (.ref l0), some (.ref l1), some (.int l2), some (.int l3)] [] h
  refine r_aload_n X dX2_tearOff_0 rfl ?_
  refine r_iload_n X dX2_tearOff_1 rfl ?_
  obtain ⟨fs0, es0, w⟩ := w
  obtain ⟨d0, P0, E0, m0, n0, ct0, w⟩ := w
  obtain ⟨⟨x1, x2, x3⟩, w⟩ := w
  obtain ⟨x4, w⟩ := w
  refine r_callV X (As := [.int l2]) dX2_tearOff_2 mk_X2_isOpen ⟨ml_X2_102, im_X2_isOpen, se_X2_isOpen⟩ (oF_s es0) (ci_X2).1 rfl rfl rfl (by simp [Value.category]) ⟨x1, by show 60 * (d0 + 1) + 200 ≤ 60 * D + 200; omega⟩ ⟨x2, x3⟩ ct0 x4 (fun _ z => nomatch z) (fun _ => ⟨x2, x3⟩) (fun v h0 w1 => ?_)
  have w := w v h0 w1
  have hk : kc + m0 ≤ mc ∧ ks + n0 ≤ ms := ⟨x2, x3⟩
  obtain ⟨v2, rfl, w⟩ := w
  refine r_if_ne X dX2_tearOff_5 (tgt := 15) (by decide) (fun q => ?_) (fun q => ?_)
  · have w := w.1 q
    exact r_vret X dX2_tearOff_15 rfl w hk.1 hk.2
  · have w := w.2 q
    refine r_aload_n X dX2_tearOff_8 rfl ?_
    refine r_aload_n X dX2_tearOff_9 rfl ?_
    refine r_iload_n X dX2_tearOff_10 rfl ?_
    refine r_iload_n X dX2_tearOff_11 rfl ?_
    obtain ⟨fs2, es2, w⟩ := w
    obtain ⟨d2, P2, E2, m2, n2, ct2, w⟩ := w
    obtain ⟨⟨x1, x2, x3⟩, w⟩ := w
    obtain ⟨x4, w⟩ := w
    refine r_callV X (As := [.ref l1, .int l2, .int l3]) dX2_tearOff_12 mk_X2_wear ⟨ml_X2_112, im_X2_wear, se_X2_wear⟩ (oF_s es2) (ci_X2).1 rfl rfl rfl (by simp [Value.category]) ⟨x1, by show 60 * (d2 + 1) + 200 ≤ 60 * D + 200; omega⟩ ⟨x2, x3⟩ ct2 x4 (fun _ z => nomatch z) (fun _ => ⟨x2, x3⟩) (fun v h2 w1 => ?_)
    have w := w v h2 w1
    have hk : (kc + m0) + m2 ≤ mc ∧ (ks + n0) + n2 ≤ ms := ⟨x2, x3⟩
    obtain ⟨rfl, w⟩ := w
    exact r_vret X dX2_tearOff_15 rfl w hk.1 hk.2

set_option maxRecDepth 10000 in
theorem b_X2_threadOfAll_0 {g : GG} {K : KX} {D mc ms : Nat} {Pr : Option Value → Hp → Prop} {Pt : String → Hp → Prop} {kc ks : Nat} (hg : GOK g) (hD : 8 ≤ D) (hk : kc ≤ mc ∧ ks ≤ ms) (X : CB g K cX2_threadOfAll 4 yX2_threadOfAll (some (.int)) []) (l0 : Nat) (l1 : Nat) (h : Hp)
    (w : VB g K 4 D mc ms Pr Pt kc ks 4 [some (.ref l0), some (.ref l1), some (.int ((0 : Int32))), some (.int ((0 : Int32)))] [] h) : VB g K 4 D mc ms Pr Pt kc ks 0 [some (.ref l0), some (.ref l1), none, none] [] h := by
  obtain ⟨p, e, s, m, args, below, meth, c⟩ := K
  have X : CX g p s m args meth c cX2_threadOfAll 4 yX2_threadOfAll (some (.int)) [] := X
  have hz := hg s X.gk.z
  show VV g p e (rmm D mc ms) s m args below meth c 4 (QQ g below args s mc ms Pr Pt) kc ks 0 [some (.ref l0), some (.ref l1), none, none] [] h
  refine r_iconst X dX2_threadOfAll_0 (v := 0) (by decide) ?_
  refine r_istore_n X dX2_threadOfAll_1 (by decide) rfl ?_
  refine r_iconst X dX2_threadOfAll_2 (v := 0) (by decide) ?_
  refine r_istore_n X dX2_threadOfAll_3 (by decide) rfl ?_
  refine VB_wk (ls' := [some (.ref l0), some (.ref l1), some (.int ((0 : Int32))), some (.int ((0 : Int32)))]) ?_ w
  exact (And.intro rfl (And.intro rfl (And.intro rfl (And.intro rfl trivial))))

set_option maxRecDepth 10000 in
theorem b_X2_threadOfAll_4 {g : GG} {K : KX} {D mc ms : Nat} {Pr : Option Value → Hp → Prop} {Pt : String → Hp → Prop} {kc ks : Nat} (hg : GOK g) (hD : 8 ≤ D) (hk : kc ≤ mc ∧ ks ≤ ms) (X : CB g K cX2_threadOfAll 4 yX2_threadOfAll (some (.int)) []) (l0 : Nat) (l1 : Nat) (l2 : Int32) (l3 : Int32) (h : Hp)
    (w : (∃ v1, gI h l1 9 1 = some v1 ∧ ((v1 ≤ l3 → Pr (some (.int l2)) h) ∧ (¬ v1 ≤ l3 → (∃ v2, gN h l0 2 5 = some v2 ∧ (∃ v3, aI h 0 v2 l3 = some v3 ∧ VB g K 4 D mc ms Pr Pt kc ks 4 [some (.ref l0), some (.ref l1), some (.int ((l2 + v3))), some (.int ((l3 + 1)))] [] h)))))) : VB g K 4 D mc ms Pr Pt kc ks 4 [some (.ref l0), some (.ref l1), some (.int l2), some (.int l3)] [] h := by
  obtain ⟨p, e, s, m, args, below, meth, c⟩ := K
  have X : CX g p s m args meth c cX2_threadOfAll 4 yX2_threadOfAll (some (.int)) [] := X
  have hz := hg s X.gk.z
  show VV g p e (rmm D mc ms) s m args below meth c 4 (QQ g below args s mc ms Pr Pt) kc ks 4 [some (.ref l0), some (.ref l1), some (.int l2), some (.int l3)] [] h
  refine r_iload_n X dX2_threadOfAll_4 rfl ?_
  refine r_aload_n X dX2_threadOfAll_5 rfl ?_
  obtain ⟨v1, ev1, w⟩ := w
  obtain ⟨fv1, cv1, qv1⟩ := gI_s ev1
  refine r_getf X dX2_threadOfAll_6 fl_X2_45 cv1 qv1 ?_
  refine r_icmp_ge X dX2_threadOfAll_9 (tgt := 27) (by decide) (fun q => ?_) (fun q => ?_)
  · have w := w.1 q
    refine r_iload_n X dX2_threadOfAll_27 rfl ?_
    exact r_iret X dX2_threadOfAll_28 rfl w hk.1 hk.2
  · have w := w.2 q
    refine r_iload_n X dX2_threadOfAll_12 rfl ?_
    refine r_aload_n X dX2_threadOfAll_13 rfl ?_
    obtain ⟨v2, ev2, w⟩ := w
    obtain ⟨fv2, cv2, qv2⟩ := gN_s ev2
    refine r_getf X dX2_threadOfAll_14 fl_X2_24 cv2 qv2 ?_
    refine r_iload_n X dX2_threadOfAll_17 rfl ?_
    obtain ⟨v3, ev3, w⟩ := w
    obtain ⟨nv3, fv3, cv3, iv3, qv3⟩ := aI_s ev3
    refine r_iald X dX2_threadOfAll_18 cv3 iv3 ?_
    rw [qv3]
    refine r_iadd X dX2_threadOfAll_19 ?_
    refine r_istore_n X dX2_threadOfAll_20 (by decide) rfl ?_
    refine r_iinc X dX2_threadOfAll_21 rfl (v := (l3 + 1)) rfl (by decide) rfl ?_
    refine r_goto X dX2_threadOfAll_24 (tgt := 4) (by decide) ?_
    refine VB_wk (ls' := [some (.ref l0), some (.ref l1), some (.int ((l2 + v3))), some (.int ((l3 + 1)))]) ?_ w
    exact (And.intro rfl (And.intro rfl (And.intro rfl (And.intro rfl trivial))))

set_option maxRecDepth 10000 in
theorem b_X2_tightest_0 {g : GG} {K : KX} {D mc ms : Nat} {Pr : Option Value → Hp → Prop} {Pt : String → Hp → Prop} {kc ks : Nat} (hg : GOK g) (hD : 8 ≤ D) (hk : kc ≤ mc ∧ ks ≤ ms) (X : CB g K cX2_tightest 4 yX2_tightest (some (.int)) []) (l0 : Nat) (l1 : Nat) (h : Hp)
    (w : VB g K 4 D mc ms Pr Pt kc ks 4 [some (.ref l0), some (.ref l1), some (.int ((0 : Int32))), some (.int ((1 : Int32)))] [] h) : VB g K 4 D mc ms Pr Pt kc ks 0 [some (.ref l0), some (.ref l1), none, none] [] h := by
  obtain ⟨p, e, s, m, args, below, meth, c⟩ := K
  have X : CX g p s m args meth c cX2_tightest 4 yX2_tightest (some (.int)) [] := X
  have hz := hg s X.gk.z
  show VV g p e (rmm D mc ms) s m args below meth c 4 (QQ g below args s mc ms Pr Pt) kc ks 0 [some (.ref l0), some (.ref l1), none, none] [] h
  refine r_iconst X dX2_tightest_0 (v := 0) (by decide) ?_
  refine r_istore_n X dX2_tightest_1 (by decide) rfl ?_
  refine r_iconst X dX2_tightest_2 (v := 1) (by decide) ?_
  refine r_istore_n X dX2_tightest_3 (by decide) rfl ?_
  refine VB_wk (ls' := [some (.ref l0), some (.ref l1), some (.int ((0 : Int32))), some (.int ((1 : Int32)))]) ?_ w
  exact (And.intro rfl (And.intro rfl (And.intro rfl (And.intro rfl trivial))))

set_option maxRecDepth 10000 in
theorem b_X2_tightest_4 {g : GG} {K : KX} {D mc ms : Nat} {Pr : Option Value → Hp → Prop} {Pt : String → Hp → Prop} {kc ks : Nat} (hg : GOK g) (hD : 8 ≤ D) (hk : kc ≤ mc ∧ ks ≤ ms) (X : CB g K cX2_tightest 4 yX2_tightest (some (.int)) []) (l0 : Nat) (l1 : Nat) (l2 : Int32) (l3 : Int32) (h : Hp)
    (w : (∃ v1, gI h l1 9 0 = some v1 ∧ ((v1 ≤ l3 → Pr (some (.int l2)) h) ∧ (¬ v1 ≤ l3 → (∃ v2, gN h l0 2 1 = some v2 ∧ (∃ v3, aI h 0 v2 l3 = some v3 ∧ (∃ v4, gN h l0 2 1 = some v4 ∧ (∃ v5, aI h 0 v4 l2 = some v5 ∧ ((v3 ≤ v5 → VB g K 4 D mc ms Pr Pt kc ks 29 [some (.ref l0), some (.ref l1), some (.int l2), some (.int l3)] [] h) ∧ (¬ v3 ≤ v5 → VB g K 4 D mc ms Pr Pt kc ks 29 [some (.ref l0), some (.ref l1), some (.int l3), some (.int l3)] [] h)))))))))) : VB g K 4 D mc ms Pr Pt kc ks 4 [some (.ref l0), some (.ref l1), some (.int l2), some (.int l3)] [] h := by
  obtain ⟨p, e, s, m, args, below, meth, c⟩ := K
  have X : CX g p s m args meth c cX2_tightest 4 yX2_tightest (some (.int)) [] := X
  have hz := hg s X.gk.z
  show VV g p e (rmm D mc ms) s m args below meth c 4 (QQ g below args s mc ms Pr Pt) kc ks 4 [some (.ref l0), some (.ref l1), some (.int l2), some (.int l3)] [] h
  refine r_iload_n X dX2_tightest_4 rfl ?_
  refine r_aload_n X dX2_tightest_5 rfl ?_
  obtain ⟨v1, ev1, w⟩ := w
  obtain ⟨fv1, cv1, qv1⟩ := gI_s ev1
  refine r_getf X dX2_tightest_6 fl_X2_40 cv1 qv1 ?_
  refine r_icmp_ge X dX2_tightest_9 (tgt := 35) (by decide) (fun q => ?_) (fun q => ?_)
  · have w := w.1 q
    refine r_iload_n X dX2_tightest_35 rfl ?_
    exact r_iret X dX2_tightest_36 rfl w hk.1 hk.2
  · have w := w.2 q
    refine r_aload_n X dX2_tightest_12 rfl ?_
    obtain ⟨v2, ev2, w⟩ := w
    obtain ⟨fv2, cv2, qv2⟩ := gN_s ev2
    refine r_getf X dX2_tightest_13 fl_X2_9 cv2 qv2 ?_
    refine r_iload_n X dX2_tightest_16 rfl ?_
    obtain ⟨v3, ev3, w⟩ := w
    obtain ⟨nv3, fv3, cv3, iv3, qv3⟩ := aI_s ev3
    refine r_iald X dX2_tightest_17 cv3 iv3 ?_
    rw [qv3]
    refine r_aload_n X dX2_tightest_18 rfl ?_
    obtain ⟨v4, ev4, w⟩ := w
    obtain ⟨fv4, cv4, qv4⟩ := gN_s ev4
    refine r_getf X dX2_tightest_19 fl_X2_9 cv4 qv4 ?_
    refine r_iload_n X dX2_tightest_22 rfl ?_
    obtain ⟨v5, ev5, w⟩ := w
    obtain ⟨nv5, fv5, cv5, iv5, qv5⟩ := aI_s ev5
    refine r_iald X dX2_tightest_23 cv5 iv5 ?_
    rw [qv5]
    refine r_icmp_le X dX2_tightest_24 (tgt := 29) (by decide) (fun q => ?_) (fun q => ?_)
    · have w := w.1 q
      refine VB_wk (ls' := [some (.ref l0), some (.ref l1), some (.int l2), some (.int l3)]) ?_ w
      exact (And.intro rfl (And.intro rfl (And.intro rfl (And.intro rfl trivial))))
    · have w := w.2 q
      refine r_iload_n X dX2_tightest_27 rfl ?_
      refine r_istore_n X dX2_tightest_28 (by decide) rfl ?_
      refine VB_wk (ls' := [some (.ref l0), some (.ref l1), some (.int l3), some (.int l3)]) ?_ w
      exact (And.intro rfl (And.intro rfl (And.intro rfl (And.intro rfl trivial))))

set_option maxRecDepth 10000 in
theorem b_X2_tightest_29 {g : GG} {K : KX} {D mc ms : Nat} {Pr : Option Value → Hp → Prop} {Pt : String → Hp → Prop} {kc ks : Nat} (hg : GOK g) (hD : 8 ≤ D) (hk : kc ≤ mc ∧ ks ≤ ms) (X : CB g K cX2_tightest 4 yX2_tightest (some (.int)) []) (l0 : Nat) (l1 : Nat) (l2 : Int32) (l3 : Int32) (h : Hp)
    (w : VB g K 4 D mc ms Pr Pt kc ks 4 [some (.ref l0), some (.ref l1), some (.int l2), some (.int ((l3 + 1)))] [] h) : VB g K 4 D mc ms Pr Pt kc ks 29 [some (.ref l0), some (.ref l1), some (.int l2), some (.int l3)] [] h := by
  obtain ⟨p, e, s, m, args, below, meth, c⟩ := K
  have X : CX g p s m args meth c cX2_tightest 4 yX2_tightest (some (.int)) [] := X
  have hz := hg s X.gk.z
  show VV g p e (rmm D mc ms) s m args below meth c 4 (QQ g below args s mc ms Pr Pt) kc ks 29 [some (.ref l0), some (.ref l1), some (.int l2), some (.int l3)] [] h
  refine r_iinc X dX2_tightest_29 rfl (v := (l3 + 1)) rfl (by decide) rfl ?_
  refine r_goto X dX2_tightest_32 (tgt := 4) (by decide) ?_
  refine VB_wk (ls' := [some (.ref l0), some (.ref l1), some (.int l2), some (.int ((l3 + 1)))]) ?_ w
  exact (And.intro rfl (And.intro rfl (And.intro rfl (And.intro rfl trivial))))

set_option maxRecDepth 10000 in
theorem b_X2_valueOf_0 {g : GG} {K : KX} {D mc ms : Nat} {Pr : Option Value → Hp → Prop} {Pt : String → Hp → Prop} {kc ks : Nat} (hg : GOK g) (hD : 8 ≤ D) (hk : kc ≤ mc ∧ ks ≤ ms) (X : CB g K cX2_valueOf 4 yX2_valueOf (some (.int)) []) (l0 : Nat) (l1 : Nat) (l2 : Int32) (l3 : Int32) (h : Hp)
    (w : ((((l2).toInt < -5 ∨ -1 < (l2).toInt) → (∃ v1, gI h l0 2 0 = some v1 ∧ Pr (some (.int v1)) h)) ∧ (((l2).toInt = -5 → (∃ fs1, oF h l0 2 = some fs1 ∧ (∃ d1 P1 E1 m1 n1, CT g d1 yX2_womenBits (wsC yX2_womenBits cX2_womenBits 5 (some (.int))) [.ref l0, .ref l1, .int l3] h m1 n1 P1 E1 ∧ (d1 + 1 ≤ D ∧ kc + m1 ≤ mc ∧ ks + n1 ≤ ms) ∧ (∀ E h', E1 E h' → Pt E h') ∧ (∀ v h1, P1 v h1 → ∃ v3, v = some (.int v3) ∧ (∃ d3 P3 E3 m3 n3, CT g d3 yJ6_bitCount_0f7a4 (wsC yJ6_bitCount_0f7a4 cJ6_bitCount_0f7a4 1 (some (.int))) [.int v3] h1 m3 n3 P3 E3 ∧ (d3 + 1 ≤ D ∧ (kc + m1) + m3 ≤ mc ∧ (ks + n1) + n3 ≤ ms) ∧ (∀ E h', E3 E h' → Pt E h') ∧ (∀ v h3, P3 v h3 → ∃ v5, v = some (.int v5) ∧ Pr (some (.int v5)) h3)))))) ∧ (((l2).toInt = -4 → (∃ fs5, oF h l0 2 = some fs5 ∧ (∃ d5 P5 E5 m5 n5, CT g d5 yX2_besideOf (wsC yX2_besideOf cX2_besideOf 4 (some (.int))) [.ref l0, .ref l1, .int l3] h m5 n5 P5 E5 ∧ (d5 + 1 ≤ D ∧ kc + m5 ≤ mc ∧ ks + n5 ≤ ms) ∧ (∀ E h', E5 E h' → Pt E h') ∧ (∀ v h5, P5 v h5 → ∃ v7, v = some (.int v7) ∧ Pr (some (.int v7)) h5)))) ∧ (((l2).toInt = -3 → (∃ v8, gN h l0 2 3 = some v8 ∧ (∃ v9, aI h 0 v8 l3 = some v9 ∧ Pr (some (.int v9)) h))) ∧ (((l2).toInt = -2 → (∃ v10, gN h l0 2 2 = some v10 ∧ (∃ v11, aI h 0 v10 l3 = some v11 ∧ Pr (some (.int v11)) h))) ∧ ((l2).toInt = -1 → (∃ v12, gN h l0 2 1 = some v12 ∧ (∃ v13, aI h 0 v12 l3 = some v13 ∧ Pr (some (.int v13)) h))))))))) : VB g K 4 D mc ms Pr Pt kc ks 0 [some (.ref l0), some (.ref l1), some (.int l2), some (.int l3)] [] h := by
  obtain ⟨p, e, s, m, args, below, meth, c⟩ := K
  have X : CX g p s m args meth c cX2_valueOf 4 yX2_valueOf (some (.int)) [] := X
  have hz := hg s X.gk.z
  show VV g p e (rmm D mc ms) s m args below meth c 4 (QQ g below args s mc ms Pr Pt) kc ks 0 [some (.ref l0), some (.ref l1), some (.int l2), some (.int l3)] [] h
  refine r_iload_n X dX2_valueOf_0 rfl ?_
  refine r_table X dX2_valueOf_1 (tgt := 74) (fun k => [64, 57, 50, 43, 36].getD k 0) (fun _ => by decide) (fun k y1 y2 y3 => ?_) (fun q => ?_) (fun k y1 y2 y3 => ?_)
  · rcases (by omega : k = 0 ∨ k = 1 ∨ k = 2 ∨ k = 3 ∨ k = 4) with rfl | rfl | rfl | rfl | rfl <;> exact ⟨_, rfl, by decide⟩
  · have w := w.1 q
    refine r_aload_n X dX2_valueOf_74 rfl ?_
    obtain ⟨v1, ev1, w⟩ := w
    obtain ⟨fv1, cv1, qv1⟩ := gI_s ev1
    refine r_getf X dX2_valueOf_75 fl_X2_30 cv1 qv1 ?_
    exact r_iret X dX2_valueOf_78 rfl w hk.1 hk.2
  · rcases (by omega : k = 0 ∨ k = 1 ∨ k = 2 ∨ k = 3 ∨ k = 4) with rfl | rfl | rfl | rfl | rfl
    · have w := w.2.1 (by omega)
      refine r_aload_n X dX2_valueOf_64 rfl ?_
      refine r_aload_n X dX2_valueOf_65 rfl ?_
      refine r_iload_n X dX2_valueOf_66 rfl ?_
      obtain ⟨fs1, es1, w⟩ := w
      obtain ⟨d1, P1, E1, m1, n1, ct1, w⟩ := w
      obtain ⟨⟨x1, x2, x3⟩, w⟩ := w
      obtain ⟨x4, w⟩ := w
      refine r_callV X (As := [.ref l1, .int l3]) dX2_valueOf_67 mk_X2_womenBits ⟨ml_X2_52, im_X2_womenBits, se_X2_womenBits⟩ (oF_s es1) (ci_X2).1 rfl rfl rfl (by simp [Value.category]) ⟨x1, by show 60 * (d1 + 1) + 200 ≤ 60 * D + 200; omega⟩ ⟨x2, x3⟩ ct1 x4 (fun _ z => nomatch z) (fun _ => ⟨x2, x3⟩) (fun v h1 w1 => ?_)
      have w := w v h1 w1
      have hk : kc + m1 ≤ mc ∧ ks + n1 ≤ ms := ⟨x2, x3⟩
      obtain ⟨v3, rfl, w⟩ := w
      obtain ⟨d3, P3, E3, m3, n3, ct3, w⟩ := w
      obtain ⟨⟨x1, x2, x3⟩, w⟩ := w
      obtain ⟨x4, w⟩ := w
      refine r_callS X (As := [.int v3]) dX2_valueOf_70 mk_J6_bitCount_0f7a4 ⟨ml_X2_68, sm_J6_bitCount_0f7a4⟩ rfl rfl (by simp [Value.category]) ⟨x1, by show 60 * (d3 + 1) + 200 ≤ 60 * D + 200; omega⟩ ⟨x2, x3⟩ ct3 x4 (fun _ z => nomatch z) (fun _ => ⟨x2, x3⟩) (fun v h3 w1 => ?_)
      have w := w v h3 w1
      have hk : (kc + m1) + m3 ≤ mc ∧ (ks + n1) + n3 ≤ ms := ⟨x2, x3⟩
      obtain ⟨v5, rfl, w⟩ := w
      exact r_iret X dX2_valueOf_73 rfl w hk.1 hk.2
    · have w := w.2.2.1 (by omega)
      refine r_aload_n X dX2_valueOf_57 rfl ?_
      refine r_aload_n X dX2_valueOf_58 rfl ?_
      refine r_iload_n X dX2_valueOf_59 rfl ?_
      obtain ⟨fs5, es5, w⟩ := w
      obtain ⟨d5, P5, E5, m5, n5, ct5, w⟩ := w
      obtain ⟨⟨x1, x2, x3⟩, w⟩ := w
      obtain ⟨x4, w⟩ := w
      refine r_callV X (As := [.ref l1, .int l3]) dX2_valueOf_60 mk_X2_besideOf ⟨ml_X2_65, im_X2_besideOf, se_X2_besideOf⟩ (oF_s es5) (ci_X2).1 rfl rfl rfl (by simp [Value.category]) ⟨x1, by show 60 * (d5 + 1) + 200 ≤ 60 * D + 200; omega⟩ ⟨x2, x3⟩ ct5 x4 (fun _ z => nomatch z) (fun _ => ⟨x2, x3⟩) (fun v h5 w1 => ?_)
      have w := w v h5 w1
      have hk : kc + m5 ≤ mc ∧ ks + n5 ≤ ms := ⟨x2, x3⟩
      obtain ⟨v7, rfl, w⟩ := w
      exact r_iret X dX2_valueOf_63 rfl w hk.1 hk.2
    · have w := w.2.2.2.1 (by omega)
      refine r_aload_n X dX2_valueOf_50 rfl ?_
      obtain ⟨v8, ev8, w⟩ := w
      obtain ⟨fv8, cv8, qv8⟩ := gN_s ev8
      refine r_getf X dX2_valueOf_51 fl_X2_18 cv8 qv8 ?_
      refine r_iload_n X dX2_valueOf_54 rfl ?_
      obtain ⟨v9, ev9, w⟩ := w
      obtain ⟨nv9, fv9, cv9, iv9, qv9⟩ := aI_s ev9
      refine r_iald X dX2_valueOf_55 cv9 iv9 ?_
      rw [qv9]
      exact r_iret X dX2_valueOf_56 rfl w hk.1 hk.2
    · have w := w.2.2.2.2.1 (by omega)
      refine r_aload_n X dX2_valueOf_43 rfl ?_
      obtain ⟨v10, ev10, w⟩ := w
      obtain ⟨fv10, cv10, qv10⟩ := gN_s ev10
      refine r_getf X dX2_valueOf_44 fl_X2_15 cv10 qv10 ?_
      refine r_iload_n X dX2_valueOf_47 rfl ?_
      obtain ⟨v11, ev11, w⟩ := w
      obtain ⟨nv11, fv11, cv11, iv11, qv11⟩ := aI_s ev11
      refine r_iald X dX2_valueOf_48 cv11 iv11 ?_
      rw [qv11]
      exact r_iret X dX2_valueOf_49 rfl w hk.1 hk.2
    · have w := w.2.2.2.2.2 (by omega)
      refine r_aload_n X dX2_valueOf_36 rfl ?_
      obtain ⟨v12, ev12, w⟩ := w
      obtain ⟨fv12, cv12, qv12⟩ := gN_s ev12
      refine r_getf X dX2_valueOf_37 fl_X2_9 cv12 qv12 ?_
      refine r_iload_n X dX2_valueOf_40 rfl ?_
      obtain ⟨v13, ev13, w⟩ := w
      obtain ⟨nv13, fv13, cv13, iv13, qv13⟩ := aI_s ev13
      refine r_iald X dX2_valueOf_41 cv13 iv13 ?_
      rw [qv13]
      exact r_iret X dX2_valueOf_42 rfl w hk.1 hk.2

set_option maxRecDepth 10000 in
theorem b_X2_wear_0 {g : GG} {K : KX} {D mc ms : Nat} {Pr : Option Value → Hp → Prop} {Pt : String → Hp → Prop} {kc ks : Nat} (hg : GOK g) (hD : 8 ≤ D) (hk : kc ≤ mc ∧ ks ≤ ms) (X : CB g K cX2_wear 5 yX2_wear none []) (l0 : Nat) (l1 : Nat) (l2 : Int32) (l3 : Int32) (h : Hp)
    (w : (∃ v1, gN h l0 2 2 = some v1 ∧ (∃ v2, gN h l0 2 2 = some v2 ∧ (∃ v3, aI h 0 v2 l2 = some v3 ∧ (∃ h4, uI h 0 v1 l2 ((if (0 : Int32) < (v3 - l3) then (v3 - l3) else (0 : Int32))) = some h4 ∧ (∃ v5, gN h4 l0 2 2 = some v5 ∧ (∃ v6, aI h4 0 v5 l2 = some v6 ∧ ((¬ v6 = 0 → Pr none h4) ∧ (v6 = 0 → (∃ v7, gN h4 l0 2 1 = some v7 ∧ (∃ v8, aI h4 0 v7 l2 = some v8 ∧ (∃ fs8, oF h4 l1 9 = some fs8 ∧ (∃ d8 P8 E8 m8 n8, CT g d8 yX9_ahead (wsC yX9_ahead cX9_ahead 2 (some (.int))) [.ref l1, .int l2] h4 m8 n8 P8 E8 ∧ (d8 + 1 ≤ D ∧ kc + m8 ≤ mc ∧ ks + n8 ≤ ms) ∧ (∀ E h', E8 E h' → Pt E h') ∧ (∀ v h8, P8 v h8 → ∃ v10, v = some (.int v10) ∧ (∃ fs10, oF h8 l0 2 = some fs10 ∧ (∃ d10 P10 E10 m10 n10, CT g d10 yX2_strainIfClosed (wsC yX2_strainIfClosed cX2_strainIfClosed 3 none) [.ref l0, .int v10, .int ((v8 / (2 : Int32)))] h8 m10 n10 P10 E10 ∧ (d10 + 1 ≤ D ∧ (kc + m8) + m10 ≤ mc ∧ (ks + n8) + n10 ≤ ms) ∧ (∀ E h', E10 E h' → Pt E h') ∧ (∀ v h10, P10 v h10 → v = none ∧ (∃ fs11, oF h10 l1 9 = some fs11 ∧ (∃ d11 P11 E11 m11 n11, CT g d11 yX9_after (wsC yX9_after cX9_after 2 (some (.int))) [.ref l1, .int l2] h10 m11 n11 P11 E11 ∧ (d11 + 1 ≤ D ∧ ((kc + m8) + m10) + m11 ≤ mc ∧ ((ks + n8) + n10) + n11 ≤ ms) ∧ (∀ E h', E11 E h' → Pt E h') ∧ (∀ v h11, P11 v h11 → ∃ v13, v = some (.int v13) ∧ (∃ fs13, oF h11 l0 2 = some fs13 ∧ (∃ d13 P13 E13 m13 n13, CT g d13 yX2_strainIfClosed (wsC yX2_strainIfClosed cX2_strainIfClosed 3 none) [.ref l0, .int v13, .int ((v8 / (2 : Int32)))] h11 m13 n13 P13 E13 ∧ (d13 + 1 ≤ D ∧ (((kc + m8) + m10) + m11) + m13 ≤ mc ∧ (((ks + n8) + n10) + n11) + n13 ≤ ms) ∧ (∀ E h', E13 E h' → Pt E h') ∧ (∀ v h13, P13 v h13 → v = none ∧ (∃ v15, gN h13 l0 2 1 = some v15 ∧ (∃ h16, uI h13 0 v15 l2 ((0 : Int32)) = some h16 ∧ Pr none h16))))))))))))))))))))))))) : VB g K 5 D mc ms Pr Pt kc ks 0 [some (.ref l0), some (.ref l1), some (.int l2), some (.int l3), none] [] h := by
  obtain ⟨p, e, s, m, args, below, meth, c⟩ := K
  have X : CX g p s m args meth c cX2_wear 5 yX2_wear none [] := X
  have hz := hg s X.gk.z
  show VV g p e (rmm D mc ms) s m args below meth c 5 (QQ g below args s mc ms Pr Pt) kc ks 0 [some (.ref l0), some (.ref l1), some (.int l2), some (.int l3), none] [] h
  refine r_aload_n X dX2_wear_0 rfl ?_
  obtain ⟨v1, ev1, w⟩ := w
  obtain ⟨fv1, cv1, qv1⟩ := gN_s ev1
  refine r_getf X dX2_wear_1 fl_X2_15 cv1 qv1 ?_
  refine r_iload_n X dX2_wear_4 rfl ?_
  refine r_iconst X dX2_wear_5 (v := 0) (by decide) ?_
  refine r_aload_n X dX2_wear_6 rfl ?_
  obtain ⟨v2, ev2, w⟩ := w
  obtain ⟨fv2, cv2, qv2⟩ := gN_s ev2
  refine r_getf X dX2_wear_7 fl_X2_15 cv2 qv2 ?_
  refine r_iload_n X dX2_wear_10 rfl ?_
  obtain ⟨v3, ev3, w⟩ := w
  obtain ⟨nv3, fv3, cv3, iv3, qv3⟩ := aI_s ev3
  refine r_iald X dX2_wear_11 cv3 iv3 ?_
  rw [qv3]
  refine r_iload_n X dX2_wear_12 rfl ?_
  refine r_isub X dX2_wear_13 ?_
  refine r_mmax X dX2_wear_14 ma_X2_56 (by refine ⟨?_, ?_, ?_, ?_⟩ <;> simp [rmm, Value.category] <;> omega) ?_
  obtain ⟨h4, eh4, w⟩ := w
  obtain ⟨nh4, fh4, ch4, ih4, rh4⟩ := uI_s eh4
  subst rh4
  refine r_iast X dX2_wear_17 ch4 ih4 ?_
  refine r_aload_n X dX2_wear_18 rfl ?_
  obtain ⟨v5, ev5, w⟩ := w
  obtain ⟨fv5, cv5, qv5⟩ := gN_s ev5
  refine r_getf X dX2_wear_19 fl_X2_15 cv5 qv5 ?_
  refine r_iload_n X dX2_wear_22 rfl ?_
  obtain ⟨v6, ev6, w⟩ := w
  obtain ⟨nv6, fv6, cv6, iv6, qv6⟩ := aI_s ev6
  refine r_iald X dX2_wear_23 cv6 iv6 ?_
  rw [qv6]
  refine r_if_ne X dX2_wear_24 (tgt := 66) (by decide) (fun q => ?_) (fun q => ?_)
  · have w := w.1 q
    exact r_vret X dX2_wear_66 rfl w hk.1 hk.2
  · have w := w.2 q
    refine r_aload_n X dX2_wear_27 rfl ?_
    obtain ⟨v7, ev7, w⟩ := w
    obtain ⟨fv7, cv7, qv7⟩ := gN_s ev7
    refine r_getf X dX2_wear_28 fl_X2_9 cv7 qv7 ?_
    refine r_iload_n X dX2_wear_31 rfl ?_
    obtain ⟨v8, ev8, w⟩ := w
    obtain ⟨nv8, fv8, cv8, iv8, qv8⟩ := aI_s ev8
    refine r_iald X dX2_wear_32 cv8 iv8 ?_
    rw [qv8]
    refine r_iconst X dX2_wear_33 (v := 2) (by decide) ?_
    refine r_idiv X dX2_wear_34 (by decide) ?_
    refine r_istore X dX2_wear_35 (by decide) rfl ?_
    refine r_aload_n X dX2_wear_37 rfl ?_
    refine r_aload_n X dX2_wear_38 rfl ?_
    refine r_iload_n X dX2_wear_39 rfl ?_
    obtain ⟨fs8, es8, w⟩ := w
    obtain ⟨d8, P8, E8, m8, n8, ct8, w⟩ := w
    obtain ⟨⟨x1, x2, x3⟩, w⟩ := w
    obtain ⟨x4, w⟩ := w
    refine r_callV X (As := [.int l2]) dX2_wear_40 mk_X9_ahead ⟨ml_X2_129, im_X9_ahead, se_X9_ahead⟩ (oF_s es8) (ci_X9).1 rfl rfl rfl (by simp [Value.category]) ⟨x1, by show 60 * (d8 + 1) + 200 ≤ 60 * D + 200; omega⟩ ⟨x2, x3⟩ ct8 x4 (fun _ z => nomatch z) (fun _ => ⟨x2, x3⟩) (fun v h8 w1 => ?_)
    have w := w v h8 w1
    have hk : kc + m8 ≤ mc ∧ ks + n8 ≤ ms := ⟨x2, x3⟩
    obtain ⟨v10, rfl, w⟩ := w
    refine r_iload X dX2_wear_43 rfl ?_
    obtain ⟨fs10, es10, w⟩ := w
    obtain ⟨d10, P10, E10, m10, n10, ct10, w⟩ := w
    obtain ⟨⟨x1, x2, x3⟩, w⟩ := w
    obtain ⟨x4, w⟩ := w
    refine r_callV X (As := [.int v10, .int ((v8 / (2 : Int32)))]) dX2_wear_45 mk_X2_strainIfClosed ⟨ml_X2_132, im_X2_strainIfClosed, se_X2_strainIfClosed⟩ (oF_s es10) (ci_X2).1 rfl rfl rfl (by simp [Value.category]) ⟨x1, by show 60 * (d10 + 1) + 200 ≤ 60 * D + 200; omega⟩ ⟨x2, x3⟩ ct10 x4 (fun _ z => nomatch z) (fun _ => ⟨x2, x3⟩) (fun v h10 w1 => ?_)
    have w := w v h10 w1
    have hk : (kc + m8) + m10 ≤ mc ∧ (ks + n8) + n10 ≤ ms := ⟨x2, x3⟩
    obtain ⟨rfl, w⟩ := w
    refine r_aload_n X dX2_wear_48 rfl ?_
    refine r_aload_n X dX2_wear_49 rfl ?_
    refine r_iload_n X dX2_wear_50 rfl ?_
    obtain ⟨fs11, es11, w⟩ := w
    obtain ⟨d11, P11, E11, m11, n11, ct11, w⟩ := w
    obtain ⟨⟨x1, x2, x3⟩, w⟩ := w
    obtain ⟨x4, w⟩ := w
    refine r_callV X (As := [.int l2]) dX2_wear_51 mk_X9_after ⟨ml_X2_136, im_X9_after, se_X9_after⟩ (oF_s es11) (ci_X9).1 rfl rfl rfl (by simp [Value.category]) ⟨x1, by show 60 * (d11 + 1) + 200 ≤ 60 * D + 200; omega⟩ ⟨x2, x3⟩ ct11 x4 (fun _ z => nomatch z) (fun _ => ⟨x2, x3⟩) (fun v h11 w1 => ?_)
    have w := w v h11 w1
    have hk : ((kc + m8) + m10) + m11 ≤ mc ∧ ((ks + n8) + n10) + n11 ≤ ms := ⟨x2, x3⟩
    obtain ⟨v13, rfl, w⟩ := w
    refine r_iload X dX2_wear_54 rfl ?_
    obtain ⟨fs13, es13, w⟩ := w
    obtain ⟨d13, P13, E13, m13, n13, ct13, w⟩ := w
    obtain ⟨⟨x1, x2, x3⟩, w⟩ := w
    obtain ⟨x4, w⟩ := w
    refine r_callV X (As := [.int v13, .int ((v8 / (2 : Int32)))]) dX2_wear_56 mk_X2_strainIfClosed ⟨ml_X2_132, im_X2_strainIfClosed, se_X2_strainIfClosed⟩ (oF_s es13) (ci_X2).1 rfl rfl rfl (by simp [Value.category]) ⟨x1, by show 60 * (d13 + 1) + 200 ≤ 60 * D + 200; omega⟩ ⟨x2, x3⟩ ct13 x4 (fun _ z => nomatch z) (fun _ => ⟨x2, x3⟩) (fun v h13 w1 => ?_)
    have w := w v h13 w1
    have hk : (((kc + m8) + m10) + m11) + m13 ≤ mc ∧ (((ks + n8) + n10) + n11) + n13 ≤ ms := ⟨x2, x3⟩
    obtain ⟨rfl, w⟩ := w
    refine r_aload_n X dX2_wear_59 rfl ?_
    obtain ⟨v15, ev15, w⟩ := w
    obtain ⟨fv15, cv15, qv15⟩ := gN_s ev15
    refine r_getf X dX2_wear_60 fl_X2_9 cv15 qv15 ?_
    refine r_iload_n X dX2_wear_63 rfl ?_
    refine r_iconst X dX2_wear_64 (v := 0) (by decide) ?_
    obtain ⟨h16, eh16, w⟩ := w
    obtain ⟨nh16, fh16, ch16, ih16, rh16⟩ := uI_s eh16
    subst rh16
    refine r_iast X dX2_wear_65 ch16 ih16 ?_
    exact r_vret X dX2_wear_66 rfl w hk.1 hk.2

set_option maxRecDepth 10000 in
theorem b_X2_womenBits_0 {g : GG} {K : KX} {D mc ms : Nat} {Pr : Option Value → Hp → Prop} {Pt : String → Hp → Prop} {kc ks : Nat} (hg : GOK g) (hD : 8 ≤ D) (hk : kc ≤ mc ∧ ks ≤ ms) (X : CB g K cX2_womenBits 5 yX2_womenBits (some (.int)) []) (l0 : Nat) (l1 : Nat) (l2 : Int32) (h : Hp)
    (w : VB g K 5 D mc ms Pr Pt kc ks 5 [some (.ref l0), some (.ref l1), some (.int l2), some (.int ((0 : Int32))), some (.int ((0 : Int32)))] [] h) : VB g K 5 D mc ms Pr Pt kc ks 0 [some (.ref l0), some (.ref l1), some (.int l2), none, none] [] h := by
  obtain ⟨p, e, s, m, args, below, meth, c⟩ := K
  have X : CX g p s m args meth c cX2_womenBits 5 yX2_womenBits (some (.int)) [] := X
  have hz := hg s X.gk.z
  show VV g p e (rmm D mc ms) s m args below meth c 5 (QQ g below args s mc ms Pr Pt) kc ks 0 [some (.ref l0), some (.ref l1), some (.int l2), none, none] [] h
  refine r_iconst X dX2_womenBits_0 (v := 0) (by decide) ?_
  refine r_istore_n X dX2_womenBits_1 (by decide) rfl ?_
  refine r_iconst X dX2_womenBits_2 (v := 0) (by decide) ?_
  refine r_istore X dX2_womenBits_3 (by decide) rfl ?_
  refine VB_wk (ls' := [some (.ref l0), some (.ref l1), some (.int l2), some (.int ((0 : Int32))), some (.int ((0 : Int32)))]) ?_ w
  exact (And.intro rfl (And.intro rfl (And.intro rfl (And.intro rfl (And.intro rfl trivial)))))

set_option maxRecDepth 10000 in
theorem b_X2_womenBits_5 {g : GG} {K : KX} {D mc ms : Nat} {Pr : Option Value → Hp → Prop} {Pt : String → Hp → Prop} {kc ks : Nat} (hg : GOK g) (hD : 8 ≤ D) (hk : kc ≤ mc ∧ ks ≤ ms) (X : CB g K cX2_womenBits 5 yX2_womenBits (some (.int)) []) (l0 : Nat) (l1 : Nat) (l2 : Int32) (l3 : Int32) (l4 : Int32) (h : Hp)
    (w : (∃ v1, gI h l1 9 1 = some v1 ∧ ((v1 ≤ l4 → Pr (some (.int l3)) h) ∧ (¬ v1 ≤ l4 → (∃ v2, gN h l0 2 4 = some v2 ∧ (∃ v3, aI h 0 v2 l4 = some v3 ∧ ((¬ v3 = l2 → VB g K 5 D mc ms Pr Pt kc ks 32 [some (.ref l0), some (.ref l1), some (.int l2), some (.int l3), some (.int l4)] [] h) ∧ (v3 = l2 → VB g K 5 D mc ms Pr Pt kc ks 32 [some (.ref l0), some (.ref l1), some (.int l2), some (.int ((l3 ||| ((1 : Int32) <<< (l4 &&& 31))))), some (.int l4)] [] h)))))))) : VB g K 5 D mc ms Pr Pt kc ks 5 [some (.ref l0), some (.ref l1), some (.int l2), some (.int l3), some (.int l4)] [] h := by
  obtain ⟨p, e, s, m, args, below, meth, c⟩ := K
  have X : CX g p s m args meth c cX2_womenBits 5 yX2_womenBits (some (.int)) [] := X
  have hz := hg s X.gk.z
  show VV g p e (rmm D mc ms) s m args below meth c 5 (QQ g below args s mc ms Pr Pt) kc ks 5 [some (.ref l0), some (.ref l1), some (.int l2), some (.int l3), some (.int l4)] [] h
  refine r_iload X dX2_womenBits_5 rfl ?_
  refine r_aload_n X dX2_womenBits_7 rfl ?_
  obtain ⟨v1, ev1, w⟩ := w
  obtain ⟨fv1, cv1, qv1⟩ := gI_s ev1
  refine r_getf X dX2_womenBits_8 fl_X2_45 cv1 qv1 ?_
  refine r_icmp_ge X dX2_womenBits_11 (tgt := 38) (by decide) (fun q => ?_) (fun q => ?_)
  · have w := w.1 q
    refine r_iload_n X dX2_womenBits_38 rfl ?_
    exact r_iret X dX2_womenBits_39 rfl w hk.1 hk.2
  · have w := w.2 q
    refine r_aload_n X dX2_womenBits_14 rfl ?_
    obtain ⟨v2, ev2, w⟩ := w
    obtain ⟨fv2, cv2, qv2⟩ := gN_s ev2
    refine r_getf X dX2_womenBits_15 fl_X2_21 cv2 qv2 ?_
    refine r_iload X dX2_womenBits_18 rfl ?_
    obtain ⟨v3, ev3, w⟩ := w
    obtain ⟨nv3, fv3, cv3, iv3, qv3⟩ := aI_s ev3
    refine r_iald X dX2_womenBits_20 cv3 iv3 ?_
    rw [qv3]
    refine r_iload_n X dX2_womenBits_21 rfl ?_
    refine r_icmp_ne X dX2_womenBits_22 (tgt := 32) (by decide) (fun q => ?_) (fun q => ?_)
    · have w := w.1 q
      refine VB_wk (ls' := [some (.ref l0), some (.ref l1), some (.int l2), some (.int l3), some (.int l4)]) ?_ w
      exact (And.intro rfl (And.intro rfl (And.intro rfl (And.intro rfl (And.intro rfl trivial)))))
    · have w := w.2 q
      refine r_iload_n X dX2_womenBits_25 rfl ?_
      refine r_iconst X dX2_womenBits_26 (v := 1) (by decide) ?_
      refine r_iload X dX2_womenBits_27 rfl ?_
      refine r_ishl X dX2_womenBits_29 ?_
      refine r_ior X dX2_womenBits_30 ?_
      refine r_istore_n X dX2_womenBits_31 (by decide) rfl ?_
      refine VB_wk (ls' := [some (.ref l0), some (.ref l1), some (.int l2), some (.int ((l3 ||| ((1 : Int32) <<< (l4 &&& 31))))), some (.int l4)]) ?_ w
      exact (And.intro rfl (And.intro rfl (And.intro rfl (And.intro rfl (And.intro rfl trivial)))))

set_option maxRecDepth 10000 in
theorem b_X2_womenBits_32 {g : GG} {K : KX} {D mc ms : Nat} {Pr : Option Value → Hp → Prop} {Pt : String → Hp → Prop} {kc ks : Nat} (hg : GOK g) (hD : 8 ≤ D) (hk : kc ≤ mc ∧ ks ≤ ms) (X : CB g K cX2_womenBits 5 yX2_womenBits (some (.int)) []) (l0 : Nat) (l1 : Nat) (l2 : Int32) (l3 : Int32) (l4 : Int32) (h : Hp)
    (w : VB g K 5 D mc ms Pr Pt kc ks 5 [some (.ref l0), some (.ref l1), some (.int l2), some (.int l3), some (.int ((l4 + 1)))] [] h) : VB g K 5 D mc ms Pr Pt kc ks 32 [some (.ref l0), some (.ref l1), some (.int l2), some (.int l3), some (.int l4)] [] h := by
  obtain ⟨p, e, s, m, args, below, meth, c⟩ := K
  have X : CX g p s m args meth c cX2_womenBits 5 yX2_womenBits (some (.int)) [] := X
  have hz := hg s X.gk.z
  show VV g p e (rmm D mc ms) s m args below meth c 5 (QQ g below args s mc ms Pr Pt) kc ks 32 [some (.ref l0), some (.ref l1), some (.int l2), some (.int l3), some (.int l4)] [] h
  refine r_iinc X dX2_womenBits_32 rfl (v := (l4 + 1)) rfl (by decide) rfl ?_
  refine r_goto X dX2_womenBits_35 (tgt := 5) (by decide) ?_
  refine VB_wk (ls' := [some (.ref l0), some (.ref l1), some (.int l2), some (.int l3), some (.int ((l4 + 1)))]) ?_ w
  exact (And.intro rfl (And.intro rfl (And.intro rfl (And.intro rfl (And.intro rfl trivial)))))

set_option maxRecDepth 10000 in
theorem b_X2_writeTo_0 {g : GG} {K : KX} {D mc ms : Nat} {Pr : Option Value → Hp → Prop} {Pt : String → Hp → Prop} {kc ks : Nat} (hg : GOK g) (hD : 8 ≤ D) (hk : kc ≤ mc ∧ ks ≤ ms) (X : CB g K cX2_writeTo 4 yX2_writeTo none []) (l0 : Nat) (l1 : Nat) (l2 : Int32) (h : Hp)
    (w : ((l2 < 0 → Pr none h) ∧ (¬ l2 < 0 → (∃ v1, lenA h l1 = some v1 ∧ (((l2 + (49 : Int32)) ≤ v1 → (∃ v2, gI h l0 2 0 = some v2 ∧ (∃ h3, uI h 0 l1 l2 v2 = some h3 ∧ (∃ v4, gN h3 l0 2 1 = some v4 ∧ (∃ h5, cpA h3 v4 ((0 : Int32)) l1 ((l2 + (1 : Int32))) ((12 : Int32)) = some h5 ∧ (∃ v6, gN h5 l0 2 2 = some v6 ∧ (∃ h7, cpA h5 v6 ((0 : Int32)) l1 (((l2 + (1 : Int32)) + (12 : Int32))) ((12 : Int32)) = some h7 ∧ (∃ v8, gN h7 l0 2 3 = some v8 ∧ (∃ h9, cpA h7 v8 ((0 : Int32)) l1 (((l2 + (1 : Int32)) + (24 : Int32))) ((12 : Int32)) = some h9 ∧ (∃ v10, gN h9 l0 2 4 = some v10 ∧ (∃ h11, cpA h9 v10 ((0 : Int32)) l1 (((l2 + (1 : Int32)) + 36)) ((6 : Int32)) = some h11 ∧ (∃ v12, gN h11 l0 2 5 = some v12 ∧ (∃ h13, cpA h11 v12 ((0 : Int32)) l1 ((((l2 + (1 : Int32)) + 36) + (6 : Int32))) ((6 : Int32)) = some h13 ∧ Pr none h13))))))))))))) ∧ (¬ (l2 + (49 : Int32)) ≤ v1 → Pr none h)))))) : VB g K 4 D mc ms Pr Pt kc ks 0 [some (.ref l0), some (.ref l1), some (.int l2), none] [] h := by
  obtain ⟨p, e, s, m, args, below, meth, c⟩ := K
  have X : CX g p s m args meth c cX2_writeTo 4 yX2_writeTo none [] := X
  have hz := hg s X.gk.z
  show VV g p e (rmm D mc ms) s m args below meth c 4 (QQ g below args s mc ms Pr Pt) kc ks 0 [some (.ref l0), some (.ref l1), some (.int l2), none] [] h
  refine r_iload_n X dX2_writeTo_0 rfl ?_
  refine r_if_lt X dX2_writeTo_1 (tgt := 13) (by decide) (fun q => ?_) (fun q => ?_)
  · have w := w.1 q
    exact r_vret X dX2_writeTo_13 rfl w hk.1 hk.2
  · have w := w.2 q
    refine r_iload_n X dX2_writeTo_4 rfl ?_
    refine r_bipush X dX2_writeTo_5 (v := 49) (by decide) ?_
    refine r_iadd X dX2_writeTo_7 ?_
    refine r_aload_n X dX2_writeTo_8 rfl ?_
    obtain ⟨v1, ev1, w⟩ := w
    obtain ⟨tv1, nv1, fv1, cv1, iv1, qv1⟩ := lenA_s ev1
    refine r_alen X dX2_writeTo_9 cv1 iv1 ?_
    rw [qv1]
    refine r_icmp_le X dX2_writeTo_10 (tgt := 14) (by decide) (fun q => ?_) (fun q => ?_)
    · have w := w.1 q
      refine r_aload_n X dX2_writeTo_14 rfl ?_
      refine r_iload_n X dX2_writeTo_15 rfl ?_
      refine r_aload_n X dX2_writeTo_16 rfl ?_
      obtain ⟨v2, ev2, w⟩ := w
      obtain ⟨fv2, cv2, qv2⟩ := gI_s ev2
      refine r_getf X dX2_writeTo_17 fl_X2_30 cv2 qv2 ?_
      obtain ⟨h3, eh3, w⟩ := w
      obtain ⟨nh3, fh3, ch3, ih3, rh3⟩ := uI_s eh3
      subst rh3
      refine r_iast X dX2_writeTo_20 ch3 ih3 ?_
      refine r_iload_n X dX2_writeTo_21 rfl ?_
      refine r_iconst X dX2_writeTo_22 (v := 1) (by decide) ?_
      refine r_iadd X dX2_writeTo_23 ?_
      refine r_istore_n X dX2_writeTo_24 (by decide) rfl ?_
      refine r_aload_n X dX2_writeTo_25 rfl ?_
      obtain ⟨v4, ev4, w⟩ := w
      obtain ⟨fv4, cv4, qv4⟩ := gN_s ev4
      refine r_getf X dX2_writeTo_26 fl_X2_9 cv4 qv4 ?_
      refine r_iconst X dX2_writeTo_29 (v := 0) (by decide) ?_
      refine r_aload_n X dX2_writeTo_30 rfl ?_
      refine r_iload_n X dX2_writeTo_31 rfl ?_
      refine r_bipush X dX2_writeTo_32 (v := 12) (by decide) ?_
      obtain ⟨h5, eh5, w⟩ := w
      obtain ⟨nh5, fh5, mh5, kh5, x1, x2, x3, x4, x5, x6, x7, rh5⟩ := cpA_s eh5
      subst rh5
      refine r_copy X dX2_writeTo_34 ac_X2_34 x1 x2 x3 x4 x5 x6 x7 (by refine ⟨?_, ?_⟩ <;> simp [rmm, Value.category, nativeFrameWords] <;> omega) ?_
      refine r_aload_n X dX2_writeTo_37 rfl ?_
      obtain ⟨v6, ev6, w⟩ := w
      obtain ⟨fv6, cv6, qv6⟩ := gN_s ev6
      refine r_getf X dX2_writeTo_38 fl_X2_15 cv6 qv6 ?_
      refine r_iconst X dX2_writeTo_41 (v := 0) (by decide) ?_
      refine r_aload_n X dX2_writeTo_42 rfl ?_
      refine r_iload_n X dX2_writeTo_43 rfl ?_
      refine r_bipush X dX2_writeTo_44 (v := 12) (by decide) ?_
      refine r_iadd X dX2_writeTo_46 ?_
      refine r_bipush X dX2_writeTo_47 (v := 12) (by decide) ?_
      obtain ⟨h7, eh7, w⟩ := w
      obtain ⟨nh7, fh7, mh7, kh7, x1, x2, x3, x4, x5, x6, x7, rh7⟩ := cpA_s eh7
      subst rh7
      refine r_copy X dX2_writeTo_49 ac_X2_34 x1 x2 x3 x4 x5 x6 x7 (by refine ⟨?_, ?_⟩ <;> simp [rmm, Value.category, nativeFrameWords] <;> omega) ?_
      refine r_aload_n X dX2_writeTo_52 rfl ?_
      obtain ⟨v8, ev8, w⟩ := w
      obtain ⟨fv8, cv8, qv8⟩ := gN_s ev8
      refine r_getf X dX2_writeTo_53 fl_X2_18 cv8 qv8 ?_
      refine r_iconst X dX2_writeTo_56 (v := 0) (by decide) ?_
      refine r_aload_n X dX2_writeTo_57 rfl ?_
      refine r_iload_n X dX2_writeTo_58 rfl ?_
      refine r_bipush X dX2_writeTo_59 (v := 24) (by decide) ?_
      refine r_iadd X dX2_writeTo_61 ?_
      refine r_bipush X dX2_writeTo_62 (v := 12) (by decide) ?_
      obtain ⟨h9, eh9, w⟩ := w
      obtain ⟨nh9, fh9, mh9, kh9, x1, x2, x3, x4, x5, x6, x7, rh9⟩ := cpA_s eh9
      subst rh9
      refine r_copy X dX2_writeTo_64 ac_X2_34 x1 x2 x3 x4 x5 x6 x7 (by refine ⟨?_, ?_⟩ <;> simp [rmm, Value.category, nativeFrameWords] <;> omega) ?_
      refine r_iinc X dX2_writeTo_67 rfl (v := ((l2 + (1 : Int32)) + 36)) rfl (by decide) rfl ?_
      refine r_aload_n X dX2_writeTo_70 rfl ?_
      obtain ⟨v10, ev10, w⟩ := w
      obtain ⟨fv10, cv10, qv10⟩ := gN_s ev10
      refine r_getf X dX2_writeTo_71 fl_X2_21 cv10 qv10 ?_
      refine r_iconst X dX2_writeTo_74 (v := 0) (by decide) ?_
      refine r_aload_n X dX2_writeTo_75 rfl ?_
      refine r_iload_n X dX2_writeTo_76 rfl ?_
      refine r_bipush X dX2_writeTo_77 (v := 6) (by decide) ?_
      obtain ⟨h11, eh11, w⟩ := w
      obtain ⟨nh11, fh11, mh11, kh11, x1, x2, x3, x4, x5, x6, x7, rh11⟩ := cpA_s eh11
      subst rh11
      refine r_copy X dX2_writeTo_79 ac_X2_34 x1 x2 x3 x4 x5 x6 x7 (by refine ⟨?_, ?_⟩ <;> simp [rmm, Value.category, nativeFrameWords] <;> omega) ?_
      refine r_aload_n X dX2_writeTo_82 rfl ?_
      obtain ⟨v12, ev12, w⟩ := w
      obtain ⟨fv12, cv12, qv12⟩ := gN_s ev12
      refine r_getf X dX2_writeTo_83 fl_X2_24 cv12 qv12 ?_
      refine r_iconst X dX2_writeTo_86 (v := 0) (by decide) ?_
      refine r_aload_n X dX2_writeTo_87 rfl ?_
      refine r_iload_n X dX2_writeTo_88 rfl ?_
      refine r_bipush X dX2_writeTo_89 (v := 6) (by decide) ?_
      refine r_iadd X dX2_writeTo_91 ?_
      refine r_bipush X dX2_writeTo_92 (v := 6) (by decide) ?_
      obtain ⟨h13, eh13, w⟩ := w
      obtain ⟨nh13, fh13, mh13, kh13, x1, x2, x3, x4, x5, x6, x7, rh13⟩ := cpA_s eh13
      subst rh13
      refine r_copy X dX2_writeTo_94 ac_X2_34 x1 x2 x3 x4 x5 x6 x7 (by refine ⟨?_, ?_⟩ <;> simp [rmm, Value.category, nativeFrameWords] <;> omega) ?_
      exact r_vret X dX2_writeTo_97 rfl w hk.1 hk.2
    · have w := w.2 q
      exact r_vret X dX2_writeTo_13 rfl w hk.1 hk.2

set_option maxRecDepth 10000 in
theorem b_X3_copyFrom_0 {g : GG} {K : KX} {D mc ms : Nat} {Pr : Option Value → Hp → Prop} {Pt : String → Hp → Prop} {kc ks : Nat} (hg : GOK g) (hD : 8 ≤ D) (hk : kc ≤ mc ∧ ks ≤ ms) (X : CB g K cX3_copyFrom 2 yX3_copyFrom none []) (l0 : Nat) (l1 : Nat) (h : Hp)
    (w : (∃ v1, gN h l0 3 0 = some v1 ∧ (∃ v2, gN h l1 3 0 = some v2 ∧ (∃ fs2, oF h v1 2 = some fs2 ∧ (∃ d2 P2 E2 m2 n2, CT g d2 yX2_copyFrom (wsC yX2_copyFrom cX2_copyFrom 2 none) [.ref v1, .ref v2] h m2 n2 P2 E2 ∧ (d2 + 1 ≤ D ∧ kc + m2 ≤ mc ∧ ks + n2 ≤ ms) ∧ (∀ E h', E2 E h' → Pt E h') ∧ (∀ v h2, P2 v h2 → v = none ∧ (∃ v4, gN h2 l0 3 1 = some v4 ∧ (∃ v5, gN h2 l1 3 1 = some v5 ∧ (∃ fs5, oF h2 v4 4 = some fs5 ∧ (∃ d5 P5 E5 m5 n5, CT g d5 yX4_copyFrom (wsC yX4_copyFrom cX4_copyFrom 2 none) [.ref v4, .ref v5] h2 m5 n5 P5 E5 ∧ (d5 + 1 ≤ D ∧ (kc + m2) + m5 ≤ mc ∧ (ks + n2) + n5 ≤ ms) ∧ (∀ E h', E5 E h' → Pt E h') ∧ (∀ v h5, P5 v h5 → v = none ∧ (∃ v7, gN h5 l0 3 2 = some v7 ∧ (∃ v8, gN h5 l1 3 2 = some v8 ∧ (∃ fs8, oF h5 v7 7 = some fs8 ∧ (∃ d8 P8 E8 m8 n8, CT g d8 yX7_copyFrom (wsC yX7_copyFrom cX7_copyFrom 2 none) [.ref v7, .ref v8] h5 m8 n8 P8 E8 ∧ (d8 + 1 ≤ D ∧ ((kc + m2) + m5) + m8 ≤ mc ∧ ((ks + n2) + n5) + n8 ≤ ms) ∧ (∀ E h', E8 E h' → Pt E h') ∧ (∀ v h8, P8 v h8 → v = none ∧ Pr none h8)))))))))))))))) : VB g K 2 D mc ms Pr Pt kc ks 0 [some (.ref l0), some (.ref l1)] [] h := by
  obtain ⟨p, e, s, m, args, below, meth, c⟩ := K
  have X : CX g p s m args meth c cX3_copyFrom 2 yX3_copyFrom none [] := X
  have hz := hg s X.gk.z
  show VV g p e (rmm D mc ms) s m args below meth c 2 (QQ g below args s mc ms Pr Pt) kc ks 0 [some (.ref l0), some (.ref l1)] [] h
  refine r_aload_n X dX3_copyFrom_0 rfl ?_
  obtain ⟨v1, ev1, w⟩ := w
  obtain ⟨fv1, cv1, qv1⟩ := gN_s ev1
  refine r_getf X dX3_copyFrom_1 fl_X3_10 cv1 qv1 ?_
  refine r_aload_n X dX3_copyFrom_4 rfl ?_
  obtain ⟨v2, ev2, w⟩ := w
  obtain ⟨fv2, cv2, qv2⟩ := gN_s ev2
  refine r_getf X dX3_copyFrom_5 fl_X3_10 cv2 qv2 ?_
  obtain ⟨fs2, es2, w⟩ := w
  obtain ⟨d2, P2, E2, m2, n2, ct2, w⟩ := w
  obtain ⟨⟨x1, x2, x3⟩, w⟩ := w
  obtain ⟨x4, w⟩ := w
  refine r_callV X (As := [.ref v2]) dX3_copyFrom_8 mk_X2_copyFrom ⟨ml_X3_30, im_X2_copyFrom, se_X2_copyFrom⟩ (oF_s es2) (ci_X2).1 rfl rfl rfl (by simp [Value.category]) ⟨x1, by show 60 * (d2 + 1) + 200 ≤ 60 * D + 200; omega⟩ ⟨x2, x3⟩ ct2 x4 (fun _ z => nomatch z) (fun _ => ⟨x2, x3⟩) (fun v h2 w1 => ?_)
  have w := w v h2 w1
  have hk : kc + m2 ≤ mc ∧ ks + n2 ≤ ms := ⟨x2, x3⟩
  obtain ⟨rfl, w⟩ := w
  refine r_aload_n X dX3_copyFrom_11 rfl ?_
  obtain ⟨v4, ev4, w⟩ := w
  obtain ⟨fv4, cv4, qv4⟩ := gN_s ev4
  refine r_getf X dX3_copyFrom_12 fl_X3_19 cv4 qv4 ?_
  refine r_aload_n X dX3_copyFrom_15 rfl ?_
  obtain ⟨v5, ev5, w⟩ := w
  obtain ⟨fv5, cv5, qv5⟩ := gN_s ev5
  refine r_getf X dX3_copyFrom_16 fl_X3_19 cv5 qv5 ?_
  obtain ⟨fs5, es5, w⟩ := w
  obtain ⟨d5, P5, E5, m5, n5, ct5, w⟩ := w
  obtain ⟨⟨x1, x2, x3⟩, w⟩ := w
  obtain ⟨x4, w⟩ := w
  refine r_callV X (As := [.ref v5]) dX3_copyFrom_19 mk_X4_copyFrom ⟨ml_X3_34, im_X4_copyFrom, se_X4_copyFrom⟩ (oF_s es5) (ci_X4).1 rfl rfl rfl (by simp [Value.category]) ⟨x1, by show 60 * (d5 + 1) + 200 ≤ 60 * D + 200; omega⟩ ⟨x2, x3⟩ ct5 x4 (fun _ z => nomatch z) (fun _ => ⟨x2, x3⟩) (fun v h5 w1 => ?_)
  have w := w v h5 w1
  have hk : (kc + m2) + m5 ≤ mc ∧ (ks + n2) + n5 ≤ ms := ⟨x2, x3⟩
  obtain ⟨rfl, w⟩ := w
  refine r_aload_n X dX3_copyFrom_22 rfl ?_
  obtain ⟨v7, ev7, w⟩ := w
  obtain ⟨fv7, cv7, qv7⟩ := gN_s ev7
  refine r_getf X dX3_copyFrom_23 fl_X3_26 cv7 qv7 ?_
  refine r_aload_n X dX3_copyFrom_26 rfl ?_
  obtain ⟨v8, ev8, w⟩ := w
  obtain ⟨fv8, cv8, qv8⟩ := gN_s ev8
  refine r_getf X dX3_copyFrom_27 fl_X3_26 cv8 qv8 ?_
  obtain ⟨fs8, es8, w⟩ := w
  obtain ⟨d8, P8, E8, m8, n8, ct8, w⟩ := w
  obtain ⟨⟨x1, x2, x3⟩, w⟩ := w
  obtain ⟨x4, w⟩ := w
  refine r_callV X (As := [.ref v8]) dX3_copyFrom_30 mk_X7_copyFrom ⟨ml_X3_37, im_X7_copyFrom, se_X7_copyFrom⟩ (oF_s es8) (ci_X7).1 rfl rfl rfl (by simp [Value.category]) ⟨x1, by show 60 * (d8 + 1) + 200 ≤ 60 * D + 200; omega⟩ ⟨x2, x3⟩ ct8 x4 (fun _ z => nomatch z) (fun _ => ⟨x2, x3⟩) (fun v h8 w1 => ?_)
  have w := w v h8 w1
  have hk : ((kc + m2) + m5) + m8 ≤ mc ∧ ((ks + n2) + n5) + n8 ≤ ms := ⟨x2, x3⟩
  obtain ⟨rfl, w⟩ := w
  exact r_vret X dX3_copyFrom_33 rfl w hk.1 hk.2

set_option maxRecDepth 10000 in
theorem b_X3_init_0 {g : GG} {K : KX} {D mc ms : Nat} {Pr : Option Value → Hp → Prop} {Pt : String → Hp → Prop} {kc ks : Nat} (hg : GOK g) (hD : 8 ≤ D) (hk : kc ≤ mc ∧ ks ≤ ms) (X : CB g K cX3_init 1 yX3_init none []) (l0 : Nat) (h : Hp)
    (w : ((kc + 1 ≤ mc ∧ ks + 7 ≤ ms) ∧ (∃ d1 P1 m1 n1, CT g d1 yX2_init (wsC yX2_init cX2_init 1 none) [.ref ((h).length)] ((h ++ [.inr (2, [.int 0, .null, .null, .null, .null, .null, .null])])) m1 n1 P1 noT ∧ (d1 + 1 ≤ D ∧ (kc + 1) + m1 ≤ mc ∧ (ks + 7) + n1 ≤ ms) ∧ (∀ v h1, P1 v h1 → v = none ∧ (∃ h3, pF h1 l0 3 0 (.ref ((h).length)) = some h3 ∧ ((((kc + 1) + m1) + 1 ≤ mc ∧ ((ks + 7) + n1) + 3 ≤ ms) ∧ (∃ d4 P4 m4 n4, CT g d4 yX4_init (wsC yX4_init cX4_init 1 none) [.ref ((h3).length)] ((h3 ++ [.inr (4, [.int 0, .int 0, .null])])) m4 n4 P4 noT ∧ (d4 + 1 ≤ D ∧ (((kc + 1) + m1) + 1) + m4 ≤ mc ∧ (((ks + 7) + n1) + 3) + n4 ≤ ms) ∧ (∀ v h4, P4 v h4 → v = none ∧ (∃ h6, pF h4 l0 3 1 (.ref ((h3).length)) = some h6 ∧ ((((((kc + 1) + m1) + 1) + m4) + 1 ≤ mc ∧ ((((ks + 7) + n1) + 3) + n4) + 4 ≤ ms) ∧ (∃ d7 P7 m7 n7, CT g d7 yX7_init (wsC yX7_init cX7_init 1 none) [.ref ((h6).length)] ((h6 ++ [.inr (7, [.int 0, .null, .null, .null])])) m7 n7 P7 noT ∧ (d7 + 1 ≤ D ∧ (((((kc + 1) + m1) + 1) + m4) + 1) + m7 ≤ mc ∧ (((((ks + 7) + n1) + 3) + n4) + 4) + n7 ≤ ms) ∧ (∀ v h7, P7 v h7 → v = none ∧ (∃ h9, pF h7 l0 3 2 (.ref ((h6).length)) = some h9 ∧ Pr none h9))))))))))))) : VB g K 1 D mc ms Pr Pt kc ks 0 [some (.ref l0)] [] h := by
  obtain ⟨p, e, s, m, args, below, meth, c⟩ := K
  have X : CX g p s m args meth c cX3_init 1 yX3_init none [] := X
  have hz := hg s X.gk.z
  show VV g p e (rmm D mc ms) s m args below meth c 1 (QQ g below args s mc ms Pr Pt) kc ks 0 [some (.ref l0)] [] h
  refine r_aload_n X dX3_init_0 rfl ?_
  refine r_objInit X dX3_init_1 ob_X3_1 (by show 1 ≤ D; omega) (by simp [rmm, Value.category]) ?_
  refine r_aload_n X dX3_init_4 rfl ?_
  obtain ⟨q1, w⟩ := w
  refine r_new X dX3_init_5 ci_X2 nc_X3_7 (fs := [.int 0, .null, .null, .null, .null, .null, .null]) rfl q1.1 q1.2 ?_
  have hk : (kc + 1) ≤ mc ∧ (ks + 7) ≤ ms := q1
  refine r_dup X dX3_init_8 rfl ?_
  obtain ⟨d1, P1, m1, n1, ct1, w⟩ := w
  obtain ⟨⟨x1, x2, x3⟩, w⟩ := w
  refine r_callIN X (As := []) dX3_init_9 mk_X2_init im_X2_init (hz.2.2.1 (.methodLinkNest RX3 9 yX2_init "HorizonSeam") (by decide +kernel)) rfl rfl rfl (by simp [Value.category]) ⟨x1, by show 60 * (d1 + 1) + 200 ≤ 60 * D + 200; omega⟩ ⟨x2, x3⟩ ct1 (fun v h1 w1 => ?_)
  have w := w v h1 w1
  have hk : (kc + 1) + m1 ≤ mc ∧ (ks + 7) + n1 ≤ ms := ⟨x2, x3⟩
  obtain ⟨rfl, w⟩ := w
  obtain ⟨h3, eh3, w⟩ := w
  obtain ⟨fh3, ch3, lh3, rh3⟩ := pF_s eh3
  subst rh3
  refine r_putF X dX3_init_12 fw_X3_10 rfl ch3 lh3 rfl rfl ?_
  refine r_aload_n X dX3_init_15 rfl ?_
  obtain ⟨q4, w⟩ := w
  refine r_new X dX3_init_16 ci_X4 nc_X3_16 (fs := [.int 0, .int 0, .null]) rfl q4.1 q4.2 ?_
  have hk : (((kc + 1) + m1) + 1) ≤ mc ∧ (((ks + 7) + n1) + 3) ≤ ms := q4
  refine r_dup X dX3_init_19 rfl ?_
  obtain ⟨d4, P4, m4, n4, ct4, w⟩ := w
  obtain ⟨⟨x1, x2, x3⟩, w⟩ := w
  refine r_callIN X (As := []) dX3_init_20 mk_X4_init im_X4_init (hz.2.2.1 (.methodLinkNest RX3 18 yX4_init "HorizonSeam") (by decide +kernel)) rfl rfl rfl (by simp [Value.category]) ⟨x1, by show 60 * (d4 + 1) + 200 ≤ 60 * D + 200; omega⟩ ⟨x2, x3⟩ ct4 (fun v h4 w1 => ?_)
  have w := w v h4 w1
  have hk : (((kc + 1) + m1) + 1) + m4 ≤ mc ∧ (((ks + 7) + n1) + 3) + n4 ≤ ms := ⟨x2, x3⟩
  obtain ⟨rfl, w⟩ := w
  obtain ⟨h6, eh6, w⟩ := w
  obtain ⟨fh6, ch6, lh6, rh6⟩ := pF_s eh6
  subst rh6
  refine r_putF X dX3_init_23 fw_X3_19 rfl ch6 lh6 rfl rfl ?_
  refine r_aload_n X dX3_init_26 rfl ?_
  obtain ⟨q7, w⟩ := w
  refine r_new X dX3_init_27 ci_X7 nc_X3_23 (fs := [.int 0, .null, .null, .null]) rfl q7.1 q7.2 ?_
  have hk : (((((kc + 1) + m1) + 1) + m4) + 1) ≤ mc ∧ (((((ks + 7) + n1) + 3) + n4) + 4) ≤ ms := q7
  refine r_dup X dX3_init_30 rfl ?_
  obtain ⟨d7, P7, m7, n7, ct7, w⟩ := w
  obtain ⟨⟨x1, x2, x3⟩, w⟩ := w
  refine r_callIN X (As := []) dX3_init_31 mk_X7_init im_X7_init (hz.2.2.1 (.methodLinkNest RX3 25 yX7_init "HorizonSeam") (by decide +kernel)) rfl rfl rfl (by simp [Value.category]) ⟨x1, by show 60 * (d7 + 1) + 200 ≤ 60 * D + 200; omega⟩ ⟨x2, x3⟩ ct7 (fun v h7 w1 => ?_)
  have w := w v h7 w1
  have hk : (((((kc + 1) + m1) + 1) + m4) + 1) + m7 ≤ mc ∧ (((((ks + 7) + n1) + 3) + n4) + 4) + n7 ≤ ms := ⟨x2, x3⟩
  obtain ⟨rfl, w⟩ := w
  obtain ⟨h9, eh9, w⟩ := w
  obtain ⟨fh9, ch9, lh9, rh9⟩ := pF_s eh9
  subst rh9
  refine r_putF X dX3_init_34 fw_X3_26 rfl ch9 lh9 rfl rfl ?_
  exact r_vret X dX3_init_37 rfl w hk.1 hk.2

set_option maxRecDepth 10000 in
theorem b_X4_clear_0 {g : GG} {K : KX} {D mc ms : Nat} {Pr : Option Value → Hp → Prop} {Pt : String → Hp → Prop} {kc ks : Nat} (hg : GOK g) (hD : 8 ≤ D) (hk : kc ≤ mc ∧ ks ≤ ms) (X : CB g K cX4_clear 1 yX4_clear none []) (l0 : Nat) (h : Hp)
    (w : (∃ h1, pF h l0 4 0 (.int ((0 : Int32))) = some h1 ∧ (∃ h2, pF h1 l0 4 1 (.int ((0 : Int32))) = some h2 ∧ Pr none h2))) : VB g K 1 D mc ms Pr Pt kc ks 0 [some (.ref l0)] [] h := by
  obtain ⟨p, e, s, m, args, below, meth, c⟩ := K
  have X : CX g p s m args meth c cX4_clear 1 yX4_clear none [] := X
  have hz := hg s X.gk.z
  show VV g p e (rmm D mc ms) s m args below meth c 1 (QQ g below args s mc ms Pr Pt) kc ks 0 [some (.ref l0)] [] h
  refine r_aload_n X dX4_clear_0 rfl ?_
  refine r_iconst X dX4_clear_1 (v := 0) (by decide) ?_
  obtain ⟨h1, eh1, w⟩ := w
  obtain ⟨fh1, ch1, lh1, rh1⟩ := pF_s eh1
  subst rh1
  refine r_putf X dX4_clear_2 fw_X4_15 ch1 lh1 rfl rfl ?_
  refine r_aload_n X dX4_clear_5 rfl ?_
  refine r_iconst X dX4_clear_6 (v := 0) (by decide) ?_
  obtain ⟨h2, eh2, w⟩ := w
  obtain ⟨fh2, ch2, lh2, rh2⟩ := pF_s eh2
  subst rh2
  refine r_putf X dX4_clear_7 fw_X4_19 ch2 lh2 rfl rfl ?_
  exact r_vret X dX4_clear_10 rfl w hk.1 hk.2

set_option maxRecDepth 10000 in
theorem b_X4_copyFrom_0 {g : GG} {K : KX} {D mc ms : Nat} {Pr : Option Value → Hp → Prop} {Pt : String → Hp → Prop} {kc ks : Nat} (hg : GOK g) (hD : 8 ≤ D) (hk : kc ≤ mc ∧ ks ≤ ms) (X : CB g K cX4_copyFrom 2 yX4_copyFrom none []) (l0 : Nat) (l1 : Nat) (h : Hp)
    (w : (∃ v1, gI h l1 4 0 = some v1 ∧ (∃ h2, pF h l0 4 0 (.int v1) = some h2 ∧ (∃ v3, gI h2 l1 4 1 = some v3 ∧ (∃ h4, pF h2 l0 4 1 (.int v3) = some h4 ∧ (∃ v5, gN h4 l1 4 2 = some v5 ∧ (∃ v6, gN h4 l0 4 2 = some v6 ∧ (∃ v7, gN h4 l0 4 2 = some v7 ∧ (∃ v8, lenA h4 v7 = some v8 ∧ (∃ h9, cpA h4 v5 ((0 : Int32)) v6 ((0 : Int32)) v8 = some h9 ∧ Pr none h9)))))))))) : VB g K 2 D mc ms Pr Pt kc ks 0 [some (.ref l0), some (.ref l1)] [] h := by
  obtain ⟨p, e, s, m, args, below, meth, c⟩ := K
  have X : CX g p s m args meth c cX4_copyFrom 2 yX4_copyFrom none [] := X
  have hz := hg s X.gk.z
  show VV g p e (rmm D mc ms) s m args below meth c 2 (QQ g below args s mc ms Pr Pt) kc ks 0 [some (.ref l0), some (.ref l1)] [] h
  refine r_aload_n X dX4_copyFrom_0 rfl ?_
  refine r_aload_n X dX4_copyFrom_1 rfl ?_
  obtain ⟨v1, ev1, w⟩ := w
  obtain ⟨fv1, cv1, qv1⟩ := gI_s ev1
  refine r_getf X dX4_copyFrom_2 fl_X4_15 cv1 qv1 ?_
  obtain ⟨h2, eh2, w⟩ := w
  obtain ⟨fh2, ch2, lh2, rh2⟩ := pF_s eh2
  subst rh2
  refine r_putf X dX4_copyFrom_5 fw_X4_15 ch2 lh2 rfl rfl ?_
  refine r_aload_n X dX4_copyFrom_8 rfl ?_
  refine r_aload_n X dX4_copyFrom_9 rfl ?_
  obtain ⟨v3, ev3, w⟩ := w
  obtain ⟨fv3, cv3, qv3⟩ := gI_s ev3
  refine r_getf X dX4_copyFrom_10 fl_X4_19 cv3 qv3 ?_
  obtain ⟨h4, eh4, w⟩ := w
  obtain ⟨fh4, ch4, lh4, rh4⟩ := pF_s eh4
  subst rh4
  refine r_putf X dX4_copyFrom_13 fw_X4_19 ch4 lh4 rfl rfl ?_
  refine r_aload_n X dX4_copyFrom_16 rfl ?_
  obtain ⟨v5, ev5, w⟩ := w
  obtain ⟨fv5, cv5, qv5⟩ := gN_s ev5
  refine r_getf X dX4_copyFrom_17 fl_X4_9 cv5 qv5 ?_
  refine r_iconst X dX4_copyFrom_20 (v := 0) (by decide) ?_
  refine r_aload_n X dX4_copyFrom_21 rfl ?_
  obtain ⟨v6, ev6, w⟩ := w
  obtain ⟨fv6, cv6, qv6⟩ := gN_s ev6
  refine r_getf X dX4_copyFrom_22 fl_X4_9 cv6 qv6 ?_
  refine r_iconst X dX4_copyFrom_25 (v := 0) (by decide) ?_
  refine r_aload_n X dX4_copyFrom_26 rfl ?_
  obtain ⟨v7, ev7, w⟩ := w
  obtain ⟨fv7, cv7, qv7⟩ := gN_s ev7
  refine r_getf X dX4_copyFrom_27 fl_X4_9 cv7 qv7 ?_
  obtain ⟨v8, ev8, w⟩ := w
  obtain ⟨tv8, nv8, fv8, cv8, iv8, qv8⟩ := lenA_s ev8
  refine r_alen X dX4_copyFrom_30 cv8 iv8 ?_
  rw [qv8]
  obtain ⟨h9, eh9, w⟩ := w
  obtain ⟨nh9, fh9, mh9, kh9, x1, x2, x3, x4, x5, x6, x7, rh9⟩ := cpA_s eh9
  subst rh9
  refine r_copy X dX4_copyFrom_31 ac_X4_22 x1 x2 x3 x4 x5 x6 x7 (by refine ⟨?_, ?_⟩ <;> simp [rmm, Value.category, nativeFrameWords] <;> omega) ?_
  exact r_vret X dX4_copyFrom_34 rfl w hk.1 hk.2

set_option maxRecDepth 10000 in
theorem b_X4_init_0 {g : GG} {K : KX} {D mc ms : Nat} {Pr : Option Value → Hp → Prop} {Pt : String → Hp → Prop} {kc ks : Nat} (hg : GOK g) (hD : 8 ≤ D) (hk : kc ≤ mc ∧ ks ≤ ms) (X : CB g K cX4_init 1 yX4_init none []) (l0 : Nat) (h : Hp)
    (w : ((kc + 1 ≤ mc ∧ ks + 1960 ≤ ms) ∧ (∃ h2, pF ((h ++ [arr0 0 1960])) l0 4 2 (.ref ((h).length)) = some h2 ∧ Pr none h2))) : VB g K 1 D mc ms Pr Pt kc ks 0 [some (.ref l0)] [] h := by
  obtain ⟨p, e, s, m, args, below, meth, c⟩ := K
  have X : CX g p s m args meth c cX4_init 1 yX4_init none [] := X
  have hz := hg s X.gk.z
  show VV g p e (rmm D mc ms) s m args below meth c 1 (QQ g below args s mc ms Pr Pt) kc ks 0 [some (.ref l0)] [] h
  refine r_aload_n X dX4_init_0 rfl ?_
  refine r_objInit X dX4_init_1 ob_X4_3 (by show 1 ≤ D; omega) (by simp [rmm, Value.category]) ?_
  refine r_aload_n X dX4_init_4 rfl ?_
  refine r_sipush X dX4_init_5 (v := 1960) (by decide) ?_
  obtain ⟨q1, w⟩ := w
  refine r_newa X dX4_init_8 (t := 0) (N := 1960) (by decide) rfl ar_int (by decide) (by decide) (by decide) q1.1 q1.2 ?_
  have hk : (kc + 1) ≤ mc ∧ (ks + 1960) ≤ ms := q1
  obtain ⟨h2, eh2, w⟩ := w
  obtain ⟨fh2, ch2, lh2, rh2⟩ := pF_s eh2
  subst rh2
  refine r_putF X dX4_init_10 fw_X4_9 rfl ch2 lh2 rfl rfl ?_
  exact r_vret X dX4_init_13 rfl w hk.1 hk.2

set_option maxRecDepth 10000 in
theorem b_X4_keep_0 {g : GG} {K : KX} {D mc ms : Nat} {Pr : Option Value → Hp → Prop} {Pt : String → Hp → Prop} {kc ks : Nat} (hg : GOK g) (hD : 8 ≤ D) (hk : kc ≤ mc ∧ ks ≤ ms) (X : CB g K cX4_keep 2 yX4_keep none []) (l0 : Nat) (l1 : Nat) (h : Hp)
    (w : (∃ v1, gN h l0 4 2 = some v1 ∧ (∃ v2, gI h l0 4 0 = some v2 ∧ (∃ fs2, oF h l0 4 = some fs2 ∧ (∃ d2 P2 E2 m2 n2, CT g d2 yX4_placeOf (wsC yX4_placeOf cX4_placeOf 2 (some (.int))) [.ref l0, .int v2] h m2 n2 P2 E2 ∧ (d2 + 1 ≤ D ∧ kc + m2 ≤ mc ∧ ks + n2 ≤ ms) ∧ (∀ E h', E2 E h' → Pt E h') ∧ (∀ v h2, P2 v h2 → ∃ v4, v = some (.int v4) ∧ (∃ fs4, oF h2 l1 2 = some fs4 ∧ (∃ d4 P4 E4 m4 n4, CT g d4 yX2_writeTo (wsC yX2_writeTo cX2_writeTo 4 none) [.ref l1, .ref v1, .int v4] h2 m4 n4 P4 E4 ∧ (d4 + 1 ≤ D ∧ (kc + m2) + m4 ≤ mc ∧ (ks + n2) + n4 ≤ ms) ∧ (∀ E h', E4 E h' → Pt E h') ∧ (∀ v h4, P4 v h4 → v = none ∧ (∃ v6, gI h4 l0 4 0 = some v6 ∧ (((40 : Int32) ≤ v6 → (∃ v7, gI h4 l0 4 1 = some v7 ∧ (∃ h8, pF h4 l0 4 1 (.int (((v7 + (1 : Int32)) - (v7 + (1 : Int32)) / (40 : Int32) * (40 : Int32)))) = some h8 ∧ Pr none h8))) ∧ (¬ (40 : Int32) ≤ v6 → (∃ v9, gI h4 l0 4 0 = some v9 ∧ (∃ h10, pF h4 l0 4 0 (.int ((v9 + (1 : Int32)))) = some h10 ∧ Pr none h10)))))))))))))) : VB g K 2 D mc ms Pr Pt kc ks 0 [some (.ref l0), some (.ref l1)] [] h := by
  obtain ⟨p, e, s, m, args, below, meth, c⟩ := K
  have X : CX g p s m args meth c cX4_keep 2 yX4_keep none [] := X
  have hz := hg s X.gk.z
  show VV g p e (rmm D mc ms) s m args below meth c 2 (QQ g below args s mc ms Pr Pt) kc ks 0 [some (.ref l0), some (.ref l1)] [] h
  refine r_aload_n X dX4_keep_0 rfl ?_
  refine r_aload_n X dX4_keep_1 rfl ?_
  obtain ⟨v1, ev1, w⟩ := w
  obtain ⟨fv1, cv1, qv1⟩ := gN_s ev1
  refine r_getf X dX4_keep_2 fl_X4_9 cv1 qv1 ?_
  refine r_aload_n X dX4_keep_5 rfl ?_
  refine r_aload_n X dX4_keep_6 rfl ?_
  obtain ⟨v2, ev2, w⟩ := w
  obtain ⟨fv2, cv2, qv2⟩ := gI_s ev2
  refine r_getf X dX4_keep_7 fl_X4_15 cv2 qv2 ?_
  obtain ⟨fs2, es2, w⟩ := w
  obtain ⟨d2, P2, E2, m2, n2, ct2, w⟩ := w
  obtain ⟨⟨x1, x2, x3⟩, w⟩ := w
  obtain ⟨x4, w⟩ := w
  refine r_callV X (As := [.int v2]) dX4_keep_10 mk_X4_placeOf ⟨ml_X4_28, im_X4_placeOf, se_X4_placeOf⟩ (oF_s es2) (ci_X4).1 rfl rfl rfl (by simp [Value.category]) ⟨x1, by show 60 * (d2 + 1) + 200 ≤ 60 * D + 200; omega⟩ ⟨x2, x3⟩ ct2 x4 (fun _ z => nomatch z) (fun _ => ⟨x2, x3⟩) (fun v h2 w1 => ?_)
  have w := w v h2 w1
  have hk : kc + m2 ≤ mc ∧ ks + n2 ≤ ms := ⟨x2, x3⟩
  obtain ⟨v4, rfl, w⟩ := w
  obtain ⟨fs4, es4, w⟩ := w
  obtain ⟨d4, P4, E4, m4, n4, ct4, w⟩ := w
  obtain ⟨⟨x1, x2, x3⟩, w⟩ := w
  obtain ⟨x4, w⟩ := w
  refine r_callV X (As := [.ref v1, .int v4]) dX4_keep_13 mk_X2_writeTo ⟨ml_X4_32, im_X2_writeTo, se_X2_writeTo⟩ (oF_s es4) (ci_X2).1 rfl rfl rfl (by simp [Value.category]) ⟨x1, by show 60 * (d4 + 1) + 200 ≤ 60 * D + 200; omega⟩ ⟨x2, x3⟩ ct4 x4 (fun _ z => nomatch z) (fun _ => ⟨x2, x3⟩) (fun v h4 w1 => ?_)
  have w := w v h4 w1
  have hk : (kc + m2) + m4 ≤ mc ∧ (ks + n2) + n4 ≤ ms := ⟨x2, x3⟩
  obtain ⟨rfl, w⟩ := w
  refine r_aload_n X dX4_keep_16 rfl ?_
  obtain ⟨v6, ev6, w⟩ := w
  obtain ⟨fv6, cv6, qv6⟩ := gI_s ev6
  refine r_getf X dX4_keep_17 fl_X4_15 cv6 qv6 ?_
  refine r_bipush X dX4_keep_20 (v := 40) (by decide) ?_
  refine r_icmp_ge X dX4_keep_22 (tgt := 38) (by decide) (fun q => ?_) (fun q => ?_)
  · have w := w.1 q
    refine r_aload_n X dX4_keep_38 rfl ?_
    refine r_aload_n X dX4_keep_39 rfl ?_
    obtain ⟨v7, ev7, w⟩ := w
    obtain ⟨fv7, cv7, qv7⟩ := gI_s ev7
    refine r_getf X dX4_keep_40 fl_X4_19 cv7 qv7 ?_
    refine r_iconst X dX4_keep_43 (v := 1) (by decide) ?_
    refine r_iadd X dX4_keep_44 ?_
    refine r_bipush X dX4_keep_45 (v := 40) (by decide) ?_
    refine r_irem X dX4_keep_47 (by decide) ?_
    obtain ⟨h8, eh8, w⟩ := w
    obtain ⟨fh8, ch8, lh8, rh8⟩ := pF_s eh8
    subst rh8
    refine r_putf X dX4_keep_48 fw_X4_19 ch8 lh8 rfl rfl ?_
    exact r_vret X dX4_keep_51 rfl w hk.1 hk.2
  · have w := w.2 q
    refine r_aload_n X dX4_keep_25 rfl ?_
    refine r_dup X dX4_keep_26 rfl ?_
    obtain ⟨v9, ev9, w⟩ := w
    obtain ⟨fv9, cv9, qv9⟩ := gI_s ev9
    refine r_getf X dX4_keep_27 fl_X4_15 cv9 qv9 ?_
    refine r_iconst X dX4_keep_30 (v := 1) (by decide) ?_
    refine r_iadd X dX4_keep_31 ?_
    obtain ⟨h10, eh10, w⟩ := w
    obtain ⟨fh10, ch10, lh10, rh10⟩ := pF_s eh10
    subst rh10
    refine r_putf X dX4_keep_32 fw_X4_15 ch10 lh10 rfl rfl ?_
    refine r_goto X dX4_keep_35 (tgt := 51) (by decide) ?_
    exact r_vret X dX4_keep_51 rfl w hk.1 hk.2

set_option maxRecDepth 10000 in
theorem b_X4_placeOf_0 {g : GG} {K : KX} {D mc ms : Nat} {Pr : Option Value → Hp → Prop} {Pt : String → Hp → Prop} {kc ks : Nat} (hg : GOK g) (hD : 8 ≤ D) (hk : kc ≤ mc ∧ ks ≤ ms) (X : CB g K cX4_placeOf 2 yX4_placeOf (some (.int)) []) (l0 : Nat) (l1 : Int32) (h : Hp)
    (w : (∃ v1, gI h l0 4 1 = some v1 ∧ Pr (some (.int ((((v1 + l1) - (v1 + l1) / (40 : Int32) * (40 : Int32)) * (49 : Int32))))) h)) : VB g K 2 D mc ms Pr Pt kc ks 0 [some (.ref l0), some (.int l1)] [] h := by
  obtain ⟨p, e, s, m, args, below, meth, c⟩ := K
  have X : CX g p s m args meth c cX4_placeOf 2 yX4_placeOf (some (.int)) [] := X
  have hz := hg s X.gk.z
  show VV g p e (rmm D mc ms) s m args below meth c 2 (QQ g below args s mc ms Pr Pt) kc ks 0 [some (.ref l0), some (.int l1)] [] h
  refine r_aload_n X dX4_placeOf_0 rfl ?_
  obtain ⟨v1, ev1, w⟩ := w
  obtain ⟨fv1, cv1, qv1⟩ := gI_s ev1
  refine r_getf X dX4_placeOf_1 fl_X4_19 cv1 qv1 ?_
  refine r_iload_n X dX4_placeOf_4 rfl ?_
  refine r_iadd X dX4_placeOf_5 ?_
  refine r_bipush X dX4_placeOf_6 (v := 40) (by decide) ?_
  refine r_irem X dX4_placeOf_8 (by decide) ?_
  refine r_bipush X dX4_placeOf_9 (v := 49) (by decide) ?_
  refine r_imul X dX4_placeOf_11 ?_
  exact r_iret X dX4_placeOf_12 rfl w hk.1 hk.2

set_option maxRecDepth 10000 in
theorem b_X4_takeBack_0 {g : GG} {K : KX} {D mc ms : Nat} {Pr : Option Value → Hp → Prop} {Pt : String → Hp → Prop} {kc ks : Nat} (hg : GOK g) (hD : 8 ≤ D) (hk : kc ≤ mc ∧ ks ≤ ms) (X : CB g K cX4_takeBack 2 yX4_takeBack none []) (l0 : Nat) (l1 : Nat) (h : Hp)
    (w : (∃ v1, gI h l0 4 0 = some v1 ∧ ((v1 ≤ 0 → Pr none h) ∧ (¬ v1 ≤ 0 → (∃ v2, gI h l0 4 0 = some v2 ∧ (∃ h3, pF h l0 4 0 (.int ((v2 - (1 : Int32)))) = some h3 ∧ (∃ v4, gN h3 l0 4 2 = some v4 ∧ (∃ v5, gI h3 l0 4 0 = some v5 ∧ (∃ fs5, oF h3 l0 4 = some fs5 ∧ (∃ d5 P5 E5 m5 n5, CT g d5 yX4_placeOf (wsC yX4_placeOf cX4_placeOf 2 (some (.int))) [.ref l0, .int v5] h3 m5 n5 P5 E5 ∧ (d5 + 1 ≤ D ∧ kc + m5 ≤ mc ∧ ks + n5 ≤ ms) ∧ (∀ E h', E5 E h' → Pt E h') ∧ (∀ v h5, P5 v h5 → ∃ v7, v = some (.int v7) ∧ (∃ fs7, oF h5 l1 2 = some fs7 ∧ (∃ d7 P7 E7 m7 n7, CT g d7 yX2_readFrom (wsC yX2_readFrom cX2_readFrom 4 none) [.ref l1, .ref v4, .int v7] h5 m7 n7 P7 E7 ∧ (d7 + 1 ≤ D ∧ (kc + m5) + m7 ≤ mc ∧ (ks + n5) + n7 ≤ ms) ∧ (∀ E h', E7 E h' → Pt E h') ∧ (∀ v h7, P7 v h7 → v = none ∧ Pr none h7)))))))))))))) : VB g K 2 D mc ms Pr Pt kc ks 0 [some (.ref l0), some (.ref l1)] [] h := by
  obtain ⟨p, e, s, m, args, below, meth, c⟩ := K
  have X : CX g p s m args meth c cX4_takeBack 2 yX4_takeBack none [] := X
  have hz := hg s X.gk.z
  show VV g p e (rmm D mc ms) s m args below meth c 2 (QQ g below args s mc ms Pr Pt) kc ks 0 [some (.ref l0), some (.ref l1)] [] h
  refine r_aload_n X dX4_takeBack_0 rfl ?_
  obtain ⟨v1, ev1, w⟩ := w
  obtain ⟨fv1, cv1, qv1⟩ := gI_s ev1
  refine r_getf X dX4_takeBack_1 fl_X4_15 cv1 qv1 ?_
  refine r_if_le X dX4_takeBack_4 (tgt := 33) (by decide) (fun q => ?_) (fun q => ?_)
  · have w := w.1 q
    exact r_vret X dX4_takeBack_33 rfl w hk.1 hk.2
  · have w := w.2 q
    refine r_aload_n X dX4_takeBack_7 rfl ?_
    refine r_dup X dX4_takeBack_8 rfl ?_
    obtain ⟨v2, ev2, w⟩ := w
    obtain ⟨fv2, cv2, qv2⟩ := gI_s ev2
    refine r_getf X dX4_takeBack_9 fl_X4_15 cv2 qv2 ?_
    refine r_iconst X dX4_takeBack_12 (v := 1) (by decide) ?_
    refine r_isub X dX4_takeBack_13 ?_
    obtain ⟨h3, eh3, w⟩ := w
    obtain ⟨fh3, ch3, lh3, rh3⟩ := pF_s eh3
    subst rh3
    refine r_putf X dX4_takeBack_14 fw_X4_15 ch3 lh3 rfl rfl ?_
    refine r_aload_n X dX4_takeBack_17 rfl ?_
    refine r_aload_n X dX4_takeBack_18 rfl ?_
    obtain ⟨v4, ev4, w⟩ := w
    obtain ⟨fv4, cv4, qv4⟩ := gN_s ev4
    refine r_getf X dX4_takeBack_19 fl_X4_9 cv4 qv4 ?_
    refine r_aload_n X dX4_takeBack_22 rfl ?_
    refine r_aload_n X dX4_takeBack_23 rfl ?_
    obtain ⟨v5, ev5, w⟩ := w
    obtain ⟨fv5, cv5, qv5⟩ := gI_s ev5
    refine r_getf X dX4_takeBack_24 fl_X4_15 cv5 qv5 ?_
    obtain ⟨fs5, es5, w⟩ := w
    obtain ⟨d5, P5, E5, m5, n5, ct5, w⟩ := w
    obtain ⟨⟨x1, x2, x3⟩, w⟩ := w
    obtain ⟨x4, w⟩ := w
    refine r_callV X (As := [.int v5]) dX4_takeBack_27 mk_X4_placeOf ⟨ml_X4_28, im_X4_placeOf, se_X4_placeOf⟩ (oF_s es5) (ci_X4).1 rfl rfl rfl (by simp [Value.category]) ⟨x1, by show 60 * (d5 + 1) + 200 ≤ 60 * D + 200; omega⟩ ⟨x2, x3⟩ ct5 x4 (fun _ z => nomatch z) (fun _ => ⟨x2, x3⟩) (fun v h5 w1 => ?_)
    have w := w v h5 w1
    have hk : kc + m5 ≤ mc ∧ ks + n5 ≤ ms := ⟨x2, x3⟩
    obtain ⟨v7, rfl, w⟩ := w
    obtain ⟨fs7, es7, w⟩ := w
    obtain ⟨d7, P7, E7, m7, n7, ct7, w⟩ := w
    obtain ⟨⟨x1, x2, x3⟩, w⟩ := w
    obtain ⟨x4, w⟩ := w
    refine r_callV X (As := [.ref v4, .int v7]) dX4_takeBack_30 mk_X2_readFrom ⟨ml_X4_38, im_X2_readFrom, se_X2_readFrom⟩ (oF_s es7) (ci_X2).1 rfl rfl rfl (by simp [Value.category]) ⟨x1, by show 60 * (d7 + 1) + 200 ≤ 60 * D + 200; omega⟩ ⟨x2, x3⟩ ct7 x4 (fun _ z => nomatch z) (fun _ => ⟨x2, x3⟩) (fun v h7 w1 => ?_)
    have w := w v h7 w1
    have hk : (kc + m5) + m7 ≤ mc ∧ (ks + n5) + n7 ≤ ms := ⟨x2, x3⟩
    obtain ⟨rfl, w⟩ := w
    exact r_vret X dX4_takeBack_33 rfl w hk.1 hk.2

set_option maxRecDepth 10000 in
theorem b_X6_clear_0 {g : GG} {K : KX} {D mc ms : Nat} {Pr : Option Value → Hp → Prop} {Pt : String → Hp → Prop} {kc ks : Nat} (hg : GOK g) (hD : 8 ≤ D) (hk : kc ≤ mc ∧ ks ≤ ms) (X : CB g K cX6_clear 1 yX6_clear none []) (l0 : Nat) (h : Hp)
    (w : (isB ((0 : Int32)) ∧ (∃ h1, pF h l0 6 0 (.int ((0 : Int32))) = some h1 ∧ (∃ h2, pF h1 l0 6 1 (.int ((0 : Int32))) = some h2 ∧ (∃ h3, pF h2 l0 6 2 (.int ((0 : Int32))) = some h3 ∧ Pr none h3))))) : VB g K 1 D mc ms Pr Pt kc ks 0 [some (.ref l0)] [] h := by
  obtain ⟨p, e, s, m, args, below, meth, c⟩ := K
  have X : CX g p s m args meth c cX6_clear 1 yX6_clear none [] := X
  have hz := hg s X.gk.z
  show VV g p e (rmm D mc ms) s m args below meth c 1 (QQ g below args s mc ms Pr Pt) kc ks 0 [some (.ref l0)] [] h
  refine r_aload_n X dX6_clear_0 rfl ?_
  refine r_iconst X dX6_clear_1 (v := 0) (by decide) ?_
  obtain ⟨bh1, w⟩ := w
  obtain ⟨h1, eh1, w⟩ := w
  obtain ⟨fh1, ch1, lh1, rh1⟩ := pF_s eh1
  subst rh1
  refine r_putf X dX6_clear_2 fw_X6_7 ch1 lh1 (isB_n bh1) (isB_f bh1) ?_
  refine r_aload_n X dX6_clear_5 rfl ?_
  refine r_iconst X dX6_clear_6 (v := 0) (by decide) ?_
  obtain ⟨h2, eh2, w⟩ := w
  obtain ⟨fh2, ch2, lh2, rh2⟩ := pF_s eh2
  subst rh2
  refine r_putf X dX6_clear_7 fw_X6_13 ch2 lh2 rfl rfl ?_
  refine r_aload_n X dX6_clear_10 rfl ?_
  refine r_iconst X dX6_clear_11 (v := 0) (by decide) ?_
  obtain ⟨h3, eh3, w⟩ := w
  obtain ⟨fh3, ch3, lh3, rh3⟩ := pF_s eh3
  subst rh3
  refine r_putf X dX6_clear_12 fw_X6_17 ch3 lh3 rfl rfl ?_
  exact r_vret X dX6_clear_15 rfl w hk.1 hk.2

set_option maxRecDepth 10000 in
theorem b_X6_init_0 {g : GG} {K : KX} {D mc ms : Nat} {Pr : Option Value → Hp → Prop} {Pt : String → Hp → Prop} {kc ks : Nat} (hg : GOK g) (hD : 8 ≤ D) (hk : kc ≤ mc ∧ ks ≤ ms) (X : CB g K cX6_init 1 yX6_init none []) (l0 : Nat) (h : Hp)
    (w : Pr none h) : VB g K 1 D mc ms Pr Pt kc ks 0 [some (.ref l0)] [] h := by
  obtain ⟨p, e, s, m, args, below, meth, c⟩ := K
  have X : CX g p s m args meth c cX6_init 1 yX6_init none [] := X
  have hz := hg s X.gk.z
  show VV g p e (rmm D mc ms) s m args below meth c 1 (QQ g below args s mc ms Pr Pt) kc ks 0 [some (.ref l0)] [] h
  refine r_aload_n X dX6_init_0 rfl ?_
  refine r_objInit X dX6_init_1 ob_X6_1 (by show 1 ≤ D; omega) (by simp [rmm, Value.category]) ?_
  exact r_vret X dX6_init_4 rfl w hk.1 hk.2

set_option maxRecDepth 10000 in
theorem b_X7_clear_0 {g : GG} {K : KX} {D mc ms : Nat} {Pr : Option Value → Hp → Prop} {Pt : String → Hp → Prop} {kc ks : Nat} (hg : GOK g) (hD : 8 ≤ D) (hk : kc ≤ mc ∧ ks ≤ ms) (X : CB g K cX7_clear 1 yX7_clear none []) (l0 : Nat) (h : Hp)
    (w : (∃ h1, pF h l0 7 0 (.int ((0 : Int32))) = some h1 ∧ Pr none h1)) : VB g K 1 D mc ms Pr Pt kc ks 0 [some (.ref l0)] [] h := by
  obtain ⟨p, e, s, m, args, below, meth, c⟩ := K
  have X : CX g p s m args meth c cX7_clear 1 yX7_clear none [] := X
  have hz := hg s X.gk.z
  show VV g p e (rmm D mc ms) s m args below meth c 1 (QQ g below args s mc ms Pr Pt) kc ks 0 [some (.ref l0)] [] h
  refine r_aload_n X dX7_clear_0 rfl ?_
  refine r_iconst X dX7_clear_1 (v := 0) (by decide) ?_
  obtain ⟨h1, eh1, w⟩ := w
  obtain ⟨fh1, ch1, lh1, rh1⟩ := pF_s eh1
  subst rh1
  refine r_putf X dX7_clear_2 fw_X7_21 ch1 lh1 rfl rfl ?_
  exact r_vret X dX7_clear_5 rfl w hk.1 hk.2

set_option maxRecDepth 10000 in
theorem b_X7_copyFrom_0 {g : GG} {K : KX} {D mc ms : Nat} {Pr : Option Value → Hp → Prop} {Pt : String → Hp → Prop} {kc ks : Nat} (hg : GOK g) (hD : 8 ≤ D) (hk : kc ≤ mc ∧ ks ≤ ms) (X : CB g K cX7_copyFrom 2 yX7_copyFrom none []) (l0 : Nat) (l1 : Nat) (h : Hp)
    (w : (∃ v1, gI h l1 7 0 = some v1 ∧ (∃ h2, pF h l0 7 0 (.int v1) = some h2 ∧ (∃ v3, gN h2 l1 7 1 = some v3 ∧ (∃ v4, gN h2 l0 7 1 = some v4 ∧ (∃ h5, cpA h2 v3 ((0 : Int32)) v4 ((0 : Int32)) ((8 : Int32)) = some h5 ∧ (∃ v6, gN h5 l1 7 2 = some v6 ∧ (∃ v7, gN h5 l0 7 2 = some v7 ∧ (∃ h8, cpA h5 v6 ((0 : Int32)) v7 ((0 : Int32)) ((8 : Int32)) = some h8 ∧ (∃ v9, gN h8 l1 7 3 = some v9 ∧ (∃ v10, gN h8 l0 7 3 = some v10 ∧ (∃ h11, cpA h8 v9 ((0 : Int32)) v10 ((0 : Int32)) ((8 : Int32)) = some h11 ∧ Pr none h11)))))))))))) : VB g K 2 D mc ms Pr Pt kc ks 0 [some (.ref l0), some (.ref l1)] [] h := by
  obtain ⟨p, e, s, m, args, below, meth, c⟩ := K
  have X : CX g p s m args meth c cX7_copyFrom 2 yX7_copyFrom none [] := X
  have hz := hg s X.gk.z
  show VV g p e (rmm D mc ms) s m args below meth c 2 (QQ g below args s mc ms Pr Pt) kc ks 0 [some (.ref l0), some (.ref l1)] [] h
  refine r_aload_n X dX7_copyFrom_0 rfl ?_
  refine r_aload_n X dX7_copyFrom_1 rfl ?_
  obtain ⟨v1, ev1, w⟩ := w
  obtain ⟨fv1, cv1, qv1⟩ := gI_s ev1
  refine r_getf X dX7_copyFrom_2 fl_X7_21 cv1 qv1 ?_
  obtain ⟨h2, eh2, w⟩ := w
  obtain ⟨fh2, ch2, lh2, rh2⟩ := pF_s eh2
  subst rh2
  refine r_putf X dX7_copyFrom_5 fw_X7_21 ch2 lh2 rfl rfl ?_
  refine r_aload_n X dX7_copyFrom_8 rfl ?_
  obtain ⟨v3, ev3, w⟩ := w
  obtain ⟨fv3, cv3, qv3⟩ := gN_s ev3
  refine r_getf X dX7_copyFrom_9 fl_X7_9 cv3 qv3 ?_
  refine r_iconst X dX7_copyFrom_12 (v := 0) (by decide) ?_
  refine r_aload_n X dX7_copyFrom_13 rfl ?_
  obtain ⟨v4, ev4, w⟩ := w
  obtain ⟨fv4, cv4, qv4⟩ := gN_s ev4
  refine r_getf X dX7_copyFrom_14 fl_X7_9 cv4 qv4 ?_
  refine r_iconst X dX7_copyFrom_17 (v := 0) (by decide) ?_
  refine r_bipush X dX7_copyFrom_18 (v := 8) (by decide) ?_
  obtain ⟨h5, eh5, w⟩ := w
  obtain ⟨nh5, fh5, mh5, kh5, x1, x2, x3, x4, x5, x6, x7, rh5⟩ := cpA_s eh5
  subst rh5
  refine r_copy X dX7_copyFrom_20 ac_X7_25 x1 x2 x3 x4 x5 x6 x7 (by refine ⟨?_, ?_⟩ <;> simp [rmm, Value.category, nativeFrameWords] <;> omega) ?_
  refine r_aload_n X dX7_copyFrom_23 rfl ?_
  obtain ⟨v6, ev6, w⟩ := w
  obtain ⟨fv6, cv6, qv6⟩ := gN_s ev6
  refine r_getf X dX7_copyFrom_24 fl_X7_15 cv6 qv6 ?_
  refine r_iconst X dX7_copyFrom_27 (v := 0) (by decide) ?_
  refine r_aload_n X dX7_copyFrom_28 rfl ?_
  obtain ⟨v7, ev7, w⟩ := w
  obtain ⟨fv7, cv7, qv7⟩ := gN_s ev7
  refine r_getf X dX7_copyFrom_29 fl_X7_15 cv7 qv7 ?_
  refine r_iconst X dX7_copyFrom_32 (v := 0) (by decide) ?_
  refine r_bipush X dX7_copyFrom_33 (v := 8) (by decide) ?_
  obtain ⟨h8, eh8, w⟩ := w
  obtain ⟨nh8, fh8, mh8, kh8, x1, x2, x3, x4, x5, x6, x7, rh8⟩ := cpA_s eh8
  subst rh8
  refine r_copy X dX7_copyFrom_35 ac_X7_25 x1 x2 x3 x4 x5 x6 x7 (by refine ⟨?_, ?_⟩ <;> simp [rmm, Value.category, nativeFrameWords] <;> omega) ?_
  refine r_aload_n X dX7_copyFrom_38 rfl ?_
  obtain ⟨v9, ev9, w⟩ := w
  obtain ⟨fv9, cv9, qv9⟩ := gN_s ev9
  refine r_getf X dX7_copyFrom_39 fl_X7_18 cv9 qv9 ?_
  refine r_iconst X dX7_copyFrom_42 (v := 0) (by decide) ?_
  refine r_aload_n X dX7_copyFrom_43 rfl ?_
  obtain ⟨v10, ev10, w⟩ := w
  obtain ⟨fv10, cv10, qv10⟩ := gN_s ev10
  refine r_getf X dX7_copyFrom_44 fl_X7_18 cv10 qv10 ?_
  refine r_iconst X dX7_copyFrom_47 (v := 0) (by decide) ?_
  refine r_bipush X dX7_copyFrom_48 (v := 8) (by decide) ?_
  obtain ⟨h11, eh11, w⟩ := w
  obtain ⟨nh11, fh11, mh11, kh11, x1, x2, x3, x4, x5, x6, x7, rh11⟩ := cpA_s eh11
  subst rh11
  refine r_copy X dX7_copyFrom_50 ac_X7_25 x1 x2 x3 x4 x5 x6 x7 (by refine ⟨?_, ?_⟩ <;> simp [rmm, Value.category, nativeFrameWords] <;> omega) ?_
  exact r_vret X dX7_copyFrom_53 rfl w hk.1 hk.2

set_option maxRecDepth 10000 in
theorem b_X7_init_0 {g : GG} {K : KX} {D mc ms : Nat} {Pr : Option Value → Hp → Prop} {Pt : String → Hp → Prop} {kc ks : Nat} (hg : GOK g) (hD : 8 ≤ D) (hk : kc ≤ mc ∧ ks ≤ ms) (X : CB g K cX7_init 1 yX7_init none []) (l0 : Nat) (h : Hp)
    (w : ((kc + 1 ≤ mc ∧ ks + 8 ≤ ms) ∧ (∃ h2, pF ((h ++ [arr0 0 8])) l0 7 1 (.ref ((h).length)) = some h2 ∧ (((kc + 1) + 1 ≤ mc ∧ (ks + 8) + 8 ≤ ms) ∧ (∃ h4, pF ((h2 ++ [arr0 0 8])) l0 7 2 (.ref ((h2).length)) = some h4 ∧ ((((kc + 1) + 1) + 1 ≤ mc ∧ ((ks + 8) + 8) + 8 ≤ ms) ∧ (∃ h6, pF ((h4 ++ [arr0 0 8])) l0 7 3 (.ref ((h4).length)) = some h6 ∧ Pr none h6))))))) : VB g K 1 D mc ms Pr Pt kc ks 0 [some (.ref l0)] [] h := by
  obtain ⟨p, e, s, m, args, below, meth, c⟩ := K
  have X : CX g p s m args meth c cX7_init 1 yX7_init none [] := X
  have hz := hg s X.gk.z
  show VV g p e (rmm D mc ms) s m args below meth c 1 (QQ g below args s mc ms Pr Pt) kc ks 0 [some (.ref l0)] [] h
  refine r_aload_n X dX7_init_0 rfl ?_
  refine r_objInit X dX7_init_1 ob_X7_3 (by show 1 ≤ D; omega) (by simp [rmm, Value.category]) ?_
  refine r_aload_n X dX7_init_4 rfl ?_
  refine r_bipush X dX7_init_5 (v := 8) (by decide) ?_
  obtain ⟨q1, w⟩ := w
  refine r_newa X dX7_init_7 (t := 0) (N := 8) (by decide) rfl ar_int (by decide) (by decide) (by decide) q1.1 q1.2 ?_
  have hk : (kc + 1) ≤ mc ∧ (ks + 8) ≤ ms := q1
  obtain ⟨h2, eh2, w⟩ := w
  obtain ⟨fh2, ch2, lh2, rh2⟩ := pF_s eh2
  subst rh2
  refine r_putF X dX7_init_9 fw_X7_9 rfl ch2 lh2 rfl rfl ?_
  refine r_aload_n X dX7_init_12 rfl ?_
  refine r_bipush X dX7_init_13 (v := 8) (by decide) ?_
  obtain ⟨q3, w⟩ := w
  refine r_newa X dX7_init_15 (t := 0) (N := 8) (by decide) rfl ar_int (by decide) (by decide) (by decide) q3.1 q3.2 ?_
  have hk : ((kc + 1) + 1) ≤ mc ∧ ((ks + 8) + 8) ≤ ms := q3
  obtain ⟨h4, eh4, w⟩ := w
  obtain ⟨fh4, ch4, lh4, rh4⟩ := pF_s eh4
  subst rh4
  refine r_putF X dX7_init_17 fw_X7_15 rfl ch4 lh4 rfl rfl ?_
  refine r_aload_n X dX7_init_20 rfl ?_
  refine r_bipush X dX7_init_21 (v := 8) (by decide) ?_
  obtain ⟨q5, w⟩ := w
  refine r_newa X dX7_init_23 (t := 0) (N := 8) (by decide) rfl ar_int (by decide) (by decide) (by decide) q5.1 q5.2 ?_
  have hk : (((kc + 1) + 1) + 1) ≤ mc ∧ (((ks + 8) + 8) + 8) ≤ ms := q5
  obtain ⟨h6, eh6, w⟩ := w
  obtain ⟨fh6, ch6, lh6, rh6⟩ := pF_s eh6
  subst rh6
  refine r_putF X dX7_init_25 fw_X7_18 rfl ch6 lh6 rfl rfl ?_
  exact r_vret X dX7_init_28 rfl w hk.1 hk.2

set_option maxRecDepth 10000 in
theorem b_X7_isSo_0 {g : GG} {K : KX} {D mc ms : Nat} {Pr : Option Value → Hp → Prop} {Pt : String → Hp → Prop} {kc ks : Nat} (hg : GOK g) (hD : 8 ≤ D) (hk : kc ≤ mc ∧ ks ≤ ms) (X : CB g K cX7_isSo 4 yX7_isSo (some (.boolean)) []) (l0 : Nat) (l1 : Nat) (l2 : Int32) (h : Hp)
    (w : VB g K 4 D mc ms Pr Pt kc ks 2 [some (.ref l0), some (.ref l1), some (.int l2), some (.int ((0 : Int32)))] [] h) : VB g K 4 D mc ms Pr Pt kc ks 0 [some (.ref l0), some (.ref l1), some (.int l2), none] [] h := by
  obtain ⟨p, e, s, m, args, below, meth, c⟩ := K
  have X : CX g p s m args meth c cX7_isSo 4 yX7_isSo (some (.boolean)) [] := X
  have hz := hg s X.gk.z
  show VV g p e (rmm D mc ms) s m args below meth c 4 (QQ g below args s mc ms Pr Pt) kc ks 0 [some (.ref l0), some (.ref l1), some (.int l2), none] [] h
  refine r_iconst X dX7_isSo_0 (v := 0) (by decide) ?_
  refine r_istore_n X dX7_isSo_1 (by decide) rfl ?_
  refine VB_wk (ls' := [some (.ref l0), some (.ref l1), some (.int l2), some (.int ((0 : Int32)))]) ?_ w
  exact (And.intro rfl (And.intro rfl (And.intro rfl (And.intro rfl trivial))))

set_option maxRecDepth 10000 in
theorem b_X7_isSo_2 {g : GG} {K : KX} {D mc ms : Nat} {Pr : Option Value → Hp → Prop} {Pt : String → Hp → Prop} {kc ks : Nat} (hg : GOK g) (hD : 8 ≤ D) (hk : kc ≤ mc ∧ ks ≤ ms) (X : CB g K cX7_isSo 4 yX7_isSo (some (.boolean)) []) (l0 : Nat) (l1 : Nat) (l2 : Int32) (l3 : Int32) (h : Hp)
    (w : (∃ v1, gI h l0 7 0 = some v1 ∧ ((v1 ≤ l3 → (isB ((1 : Int32)) ∧ Pr (some (.int ((1 : Int32)))) h)) ∧ (¬ v1 ≤ l3 → (∃ v2, gN h l0 7 2 = some v2 ∧ (∃ v3, aI h 0 v2 l3 = some v3 ∧ ((¬ v3 = l2 → VB g K 4 D mc ms Pr Pt kc ks 42 [some (.ref l0), some (.ref l1), some (.int l2), some (.int l3)] [] h) ∧ (v3 = l2 → (∃ v4, gN h l1 2 2 = some v4 ∧ (∃ v5, gN h l0 7 1 = some v5 ∧ (∃ v6, aI h 0 v5 l3 = some v6 ∧ (∃ v7, aI h 0 v4 v6 = some v7 ∧ (∃ v8, gN h l0 7 3 = some v8 ∧ (∃ v9, aI h 0 v8 l3 = some v9 ∧ ((v7 = v9 → VB g K 4 D mc ms Pr Pt kc ks 42 [some (.ref l0), some (.ref l1), some (.int l2), some (.int l3)] [] h) ∧ (¬ v7 = v9 → (isB ((0 : Int32)) ∧ Pr (some (.int ((0 : Int32)))) h))))))))))))))))) : VB g K 4 D mc ms Pr Pt kc ks 2 [some (.ref l0), some (.ref l1), some (.int l2), some (.int l3)] [] h := by
  obtain ⟨p, e, s, m, args, below, meth, c⟩ := K
  have X : CX g p s m args meth c cX7_isSo 4 yX7_isSo (some (.boolean)) [] := X
  have hz := hg s X.gk.z
  show VV g p e (rmm D mc ms) s m args below meth c 4 (QQ g below args s mc ms Pr Pt) kc ks 2 [some (.ref l0), some (.ref l1), some (.int l2), some (.int l3)] [] h
  refine r_iload_n X dX7_isSo_2 rfl ?_
  refine r_aload_n X dX7_isSo_3 rfl ?_
  obtain ⟨v1, ev1, w⟩ := w
  obtain ⟨fv1, cv1, qv1⟩ := gI_s ev1
  refine r_getf X dX7_isSo_4 fl_X7_21 cv1 qv1 ?_
  refine r_icmp_ge X dX7_isSo_7 (tgt := 48) (by decide) (fun q => ?_) (fun q => ?_)
  · have w := w.1 q
    refine r_iconst X dX7_isSo_48 (v := 1) (by decide) ?_
    exact r_zret X dX7_isSo_49 rfl (isB_n w.1) w.2 hk.1 hk.2
  · have w := w.2 q
    refine r_aload_n X dX7_isSo_10 rfl ?_
    obtain ⟨v2, ev2, w⟩ := w
    obtain ⟨fv2, cv2, qv2⟩ := gN_s ev2
    refine r_getf X dX7_isSo_11 fl_X7_15 cv2 qv2 ?_
    refine r_iload_n X dX7_isSo_14 rfl ?_
    obtain ⟨v3, ev3, w⟩ := w
    obtain ⟨nv3, fv3, cv3, iv3, qv3⟩ := aI_s ev3
    refine r_iald X dX7_isSo_15 cv3 iv3 ?_
    rw [qv3]
    refine r_iload_n X dX7_isSo_16 rfl ?_
    refine r_icmp_ne X dX7_isSo_17 (tgt := 42) (by decide) (fun q => ?_) (fun q => ?_)
    · have w := w.1 q
      refine VB_wk (ls' := [some (.ref l0), some (.ref l1), some (.int l2), some (.int l3)]) ?_ w
      exact (And.intro rfl (And.intro rfl (And.intro rfl (And.intro rfl trivial))))
    · have w := w.2 q
      refine r_aload_n X dX7_isSo_20 rfl ?_
      obtain ⟨v4, ev4, w⟩ := w
      obtain ⟨fv4, cv4, qv4⟩ := gN_s ev4
      refine r_getf X dX7_isSo_21 fl_X7_37 cv4 qv4 ?_
      refine r_aload_n X dX7_isSo_24 rfl ?_
      obtain ⟨v5, ev5, w⟩ := w
      obtain ⟨fv5, cv5, qv5⟩ := gN_s ev5
      refine r_getf X dX7_isSo_25 fl_X7_9 cv5 qv5 ?_
      refine r_iload_n X dX7_isSo_28 rfl ?_
      obtain ⟨v6, ev6, w⟩ := w
      obtain ⟨nv6, fv6, cv6, iv6, qv6⟩ := aI_s ev6
      refine r_iald X dX7_isSo_29 cv6 iv6 ?_
      rw [qv6]
      obtain ⟨v7, ev7, w⟩ := w
      obtain ⟨nv7, fv7, cv7, iv7, qv7⟩ := aI_s ev7
      refine r_iald X dX7_isSo_30 cv7 iv7 ?_
      rw [qv7]
      refine r_aload_n X dX7_isSo_31 rfl ?_
      obtain ⟨v8, ev8, w⟩ := w
      obtain ⟨fv8, cv8, qv8⟩ := gN_s ev8
      refine r_getf X dX7_isSo_32 fl_X7_18 cv8 qv8 ?_
      refine r_iload_n X dX7_isSo_35 rfl ?_
      obtain ⟨v9, ev9, w⟩ := w
      obtain ⟨nv9, fv9, cv9, iv9, qv9⟩ := aI_s ev9
      refine r_iald X dX7_isSo_36 cv9 iv9 ?_
      rw [qv9]
      refine r_icmp_eq X dX7_isSo_37 (tgt := 42) (by decide) (fun q => ?_) (fun q => ?_)
      · have w := w.1 q
        refine VB_wk (ls' := [some (.ref l0), some (.ref l1), some (.int l2), some (.int l3)]) ?_ w
        exact (And.intro rfl (And.intro rfl (And.intro rfl (And.intro rfl trivial))))
      · have w := w.2 q
        refine r_iconst X dX7_isSo_40 (v := 0) (by decide) ?_
        exact r_zret X dX7_isSo_41 rfl (isB_n w.1) w.2 hk.1 hk.2

set_option maxRecDepth 10000 in
theorem b_X7_isSo_42 {g : GG} {K : KX} {D mc ms : Nat} {Pr : Option Value → Hp → Prop} {Pt : String → Hp → Prop} {kc ks : Nat} (hg : GOK g) (hD : 8 ≤ D) (hk : kc ≤ mc ∧ ks ≤ ms) (X : CB g K cX7_isSo 4 yX7_isSo (some (.boolean)) []) (l0 : Nat) (l1 : Nat) (l2 : Int32) (l3 : Int32) (h : Hp)
    (w : VB g K 4 D mc ms Pr Pt kc ks 2 [some (.ref l0), some (.ref l1), some (.int l2), some (.int ((l3 + 1)))] [] h) : VB g K 4 D mc ms Pr Pt kc ks 42 [some (.ref l0), some (.ref l1), some (.int l2), some (.int l3)] [] h := by
  obtain ⟨p, e, s, m, args, below, meth, c⟩ := K
  have X : CX g p s m args meth c cX7_isSo 4 yX7_isSo (some (.boolean)) [] := X
  have hz := hg s X.gk.z
  show VV g p e (rmm D mc ms) s m args below meth c 4 (QQ g below args s mc ms Pr Pt) kc ks 42 [some (.ref l0), some (.ref l1), some (.int l2), some (.int l3)] [] h
  refine r_iinc X dX7_isSo_42 rfl (v := (l3 + 1)) rfl (by decide) rfl ?_
  refine r_goto X dX7_isSo_45 (tgt := 2) (by decide) ?_
  refine VB_wk (ls' := [some (.ref l0), some (.ref l1), some (.int l2), some (.int ((l3 + 1)))]) ?_ w
  exact (And.intro rfl (And.intro rfl (And.intro rfl (And.intro rfl trivial))))

set_option maxRecDepth 10000 in
theorem b_X7_lastDay_0 {g : GG} {K : KX} {D mc ms : Nat} {Pr : Option Value → Hp → Prop} {Pt : String → Hp → Prop} {kc ks : Nat} (hg : GOK g) (hD : 8 ≤ D) (hk : kc ≤ mc ∧ ks ≤ ms) (X : CB g K cX7_lastDay 3 yX7_lastDay (some (.int)) []) (l0 : Nat) (h : Hp)
    (w : VB g K 3 D mc ms Pr Pt kc ks 4 [some (.ref l0), some (.int ((0 : Int32))), some (.int ((0 : Int32)))] [] h) : VB g K 3 D mc ms Pr Pt kc ks 0 [some (.ref l0), none, none] [] h := by
  obtain ⟨p, e, s, m, args, below, meth, c⟩ := K
  have X : CX g p s m args meth c cX7_lastDay 3 yX7_lastDay (some (.int)) [] := X
  have hz := hg s X.gk.z
  show VV g p e (rmm D mc ms) s m args below meth c 3 (QQ g below args s mc ms Pr Pt) kc ks 0 [some (.ref l0), none, none] [] h
  refine r_iconst X dX7_lastDay_0 (v := 0) (by decide) ?_
  refine r_istore_n X dX7_lastDay_1 (by decide) rfl ?_
  refine r_iconst X dX7_lastDay_2 (v := 0) (by decide) ?_
  refine r_istore_n X dX7_lastDay_3 (by decide) rfl ?_
  refine VB_wk (ls' := [some (.ref l0), some (.int ((0 : Int32))), some (.int ((0 : Int32)))]) ?_ w
  exact (And.intro rfl (And.intro rfl (And.intro rfl trivial)))

set_option maxRecDepth 10000 in
theorem b_X7_lastDay_4 {g : GG} {K : KX} {D mc ms : Nat} {Pr : Option Value → Hp → Prop} {Pt : String → Hp → Prop} {kc ks : Nat} (hg : GOK g) (hD : 8 ≤ D) (hk : kc ≤ mc ∧ ks ≤ ms) (X : CB g K cX7_lastDay 3 yX7_lastDay (some (.int)) []) (l0 : Nat) (l1 : Int32) (l2 : Int32) (h : Hp)
    (w : (∃ v1, gI h l0 7 0 = some v1 ∧ ((v1 ≤ l2 → Pr (some (.int l1)) h) ∧ (¬ v1 ≤ l2 → (∃ v2, gN h l0 7 2 = some v2 ∧ (∃ v3, aI h 0 v2 l2 = some v3 ∧ VB g K 3 D mc ms Pr Pt kc ks 4 [some (.ref l0), some (.int ((if l1 < v3 then v3 else l1))), some (.int ((l2 + 1)))] [] h)))))) : VB g K 3 D mc ms Pr Pt kc ks 4 [some (.ref l0), some (.int l1), some (.int l2)] [] h := by
  obtain ⟨p, e, s, m, args, below, meth, c⟩ := K
  have X : CX g p s m args meth c cX7_lastDay 3 yX7_lastDay (some (.int)) [] := X
  have hz := hg s X.gk.z
  show VV g p e (rmm D mc ms) s m args below meth c 3 (QQ g below args s mc ms Pr Pt) kc ks 4 [some (.ref l0), some (.int l1), some (.int l2)] [] h
  refine r_iload_n X dX7_lastDay_4 rfl ?_
  refine r_aload_n X dX7_lastDay_5 rfl ?_
  obtain ⟨v1, ev1, w⟩ := w
  obtain ⟨fv1, cv1, qv1⟩ := gI_s ev1
  refine r_getf X dX7_lastDay_6 fl_X7_21 cv1 qv1 ?_
  refine r_icmp_ge X dX7_lastDay_9 (tgt := 29) (by decide) (fun q => ?_) (fun q => ?_)
  · have w := w.1 q
    refine r_iload_n X dX7_lastDay_29 rfl ?_
    exact r_iret X dX7_lastDay_30 rfl w hk.1 hk.2
  · have w := w.2 q
    refine r_iload_n X dX7_lastDay_12 rfl ?_
    refine r_aload_n X dX7_lastDay_13 rfl ?_
    obtain ⟨v2, ev2, w⟩ := w
    obtain ⟨fv2, cv2, qv2⟩ := gN_s ev2
    refine r_getf X dX7_lastDay_14 fl_X7_15 cv2 qv2 ?_
    refine r_iload_n X dX7_lastDay_17 rfl ?_
    obtain ⟨v3, ev3, w⟩ := w
    obtain ⟨nv3, fv3, cv3, iv3, qv3⟩ := aI_s ev3
    refine r_iald X dX7_lastDay_18 cv3 iv3 ?_
    rw [qv3]
    refine r_mmax X dX7_lastDay_19 ma_X7_31 (by refine ⟨?_, ?_, ?_, ?_⟩ <;> simp [rmm, Value.category] <;> omega) ?_
    refine r_istore_n X dX7_lastDay_22 (by decide) rfl ?_
    refine r_iinc X dX7_lastDay_23 rfl (v := (l2 + 1)) rfl (by decide) rfl ?_
    refine r_goto X dX7_lastDay_26 (tgt := 4) (by decide) ?_
    refine VB_wk (ls' := [some (.ref l0), some (.int ((if l1 < v3 then v3 else l1))), some (.int ((l2 + 1)))]) ?_ w
    exact (And.intro rfl (And.intro rfl (And.intro rfl trivial)))

set_option maxRecDepth 10000 in
theorem b_X7_put_0 {g : GG} {K : KX} {D mc ms : Nat} {Pr : Option Value → Hp → Prop} {Pt : String → Hp → Prop} {kc ks : Nat} (hg : GOK g) (hD : 8 ≤ D) (hk : kc ≤ mc ∧ ks ≤ ms) (X : CB g K cX7_put 4 yX7_put none []) (l0 : Nat) (l1 : Int32) (l2 : Int32) (l3 : Int32) (h : Hp)
    (w : (∃ v1, gI h l0 7 0 = some v1 ∧ (((8 : Int32) ≤ v1 → Pr none h) ∧ (¬ (8 : Int32) ≤ v1 → (∃ v2, gN h l0 7 1 = some v2 ∧ (∃ v3, gI h l0 7 0 = some v3 ∧ (∃ h4, uI h 0 v2 v3 l1 = some h4 ∧ (∃ v5, gN h4 l0 7 2 = some v5 ∧ (∃ v6, gI h4 l0 7 0 = some v6 ∧ (∃ h7, uI h4 0 v5 v6 l2 = some h7 ∧ (∃ v8, gN h7 l0 7 3 = some v8 ∧ (∃ v9, gI h7 l0 7 0 = some v9 ∧ (∃ h10, uI h7 0 v8 v9 l3 = some h10 ∧ (∃ v11, gI h10 l0 7 0 = some v11 ∧ (∃ h12, pF h10 l0 7 0 (.int ((v11 + (1 : Int32)))) = some h12 ∧ Pr none h12))))))))))))))) : VB g K 4 D mc ms Pr Pt kc ks 0 [some (.ref l0), some (.int l1), some (.int l2), some (.int l3)] [] h := by
  obtain ⟨p, e, s, m, args, below, meth, c⟩ := K
  have X : CX g p s m args meth c cX7_put 4 yX7_put none [] := X
  have hz := hg s X.gk.z
  show VV g p e (rmm D mc ms) s m args below meth c 4 (QQ g below args s mc ms Pr Pt) kc ks 0 [some (.ref l0), some (.int l1), some (.int l2), some (.int l3)] [] h
  refine r_aload_n X dX7_put_0 rfl ?_
  obtain ⟨v1, ev1, w⟩ := w
  obtain ⟨fv1, cv1, qv1⟩ := gI_s ev1
  refine r_getf X dX7_put_1 fl_X7_21 cv1 qv1 ?_
  refine r_bipush X dX7_put_4 (v := 8) (by decide) ?_
  refine r_icmp_ge X dX7_put_6 (tgt := 49) (by decide) (fun q => ?_) (fun q => ?_)
  · have w := w.1 q
    exact r_vret X dX7_put_49 rfl w hk.1 hk.2
  · have w := w.2 q
    refine r_aload_n X dX7_put_9 rfl ?_
    obtain ⟨v2, ev2, w⟩ := w
    obtain ⟨fv2, cv2, qv2⟩ := gN_s ev2
    refine r_getf X dX7_put_10 fl_X7_9 cv2 qv2 ?_
    refine r_aload_n X dX7_put_13 rfl ?_
    obtain ⟨v3, ev3, w⟩ := w
    obtain ⟨fv3, cv3, qv3⟩ := gI_s ev3
    refine r_getf X dX7_put_14 fl_X7_21 cv3 qv3 ?_
    refine r_iload_n X dX7_put_17 rfl ?_
    obtain ⟨h4, eh4, w⟩ := w
    obtain ⟨nh4, fh4, ch4, ih4, rh4⟩ := uI_s eh4
    subst rh4
    refine r_iast X dX7_put_18 ch4 ih4 ?_
    refine r_aload_n X dX7_put_19 rfl ?_
    obtain ⟨v5, ev5, w⟩ := w
    obtain ⟨fv5, cv5, qv5⟩ := gN_s ev5
    refine r_getf X dX7_put_20 fl_X7_15 cv5 qv5 ?_
    refine r_aload_n X dX7_put_23 rfl ?_
    obtain ⟨v6, ev6, w⟩ := w
    obtain ⟨fv6, cv6, qv6⟩ := gI_s ev6
    refine r_getf X dX7_put_24 fl_X7_21 cv6 qv6 ?_
    refine r_iload_n X dX7_put_27 rfl ?_
    obtain ⟨h7, eh7, w⟩ := w
    obtain ⟨nh7, fh7, ch7, ih7, rh7⟩ := uI_s eh7
    subst rh7
    refine r_iast X dX7_put_28 ch7 ih7 ?_
    refine r_aload_n X dX7_put_29 rfl ?_
    obtain ⟨v8, ev8, w⟩ := w
    obtain ⟨fv8, cv8, qv8⟩ := gN_s ev8
    refine r_getf X dX7_put_30 fl_X7_18 cv8 qv8 ?_
    refine r_aload_n X dX7_put_33 rfl ?_
    obtain ⟨v9, ev9, w⟩ := w
    obtain ⟨fv9, cv9, qv9⟩ := gI_s ev9
    refine r_getf X dX7_put_34 fl_X7_21 cv9 qv9 ?_
    refine r_iload_n X dX7_put_37 rfl ?_
    obtain ⟨h10, eh10, w⟩ := w
    obtain ⟨nh10, fh10, ch10, ih10, rh10⟩ := uI_s eh10
    subst rh10
    refine r_iast X dX7_put_38 ch10 ih10 ?_
    refine r_aload_n X dX7_put_39 rfl ?_
    refine r_dup X dX7_put_40 rfl ?_
    obtain ⟨v11, ev11, w⟩ := w
    obtain ⟨fv11, cv11, qv11⟩ := gI_s ev11
    refine r_getf X dX7_put_41 fl_X7_21 cv11 qv11 ?_
    refine r_iconst X dX7_put_44 (v := 1) (by decide) ?_
    refine r_iadd X dX7_put_45 ?_
    obtain ⟨h12, eh12, w⟩ := w
    obtain ⟨fh12, ch12, lh12, rh12⟩ := pF_s eh12
    subst rh12
    refine r_putf X dX7_put_46 fw_X7_21 ch12 lh12 rfl rfl ?_
    exact r_vret X dX7_put_49 rfl w hk.1 hk.2

set_option maxRecDepth 10000 in
theorem b_X8_fewestBehind_0 {g : GG} {K : KX} {D mc ms : Nat} {Pr : Option Value → Hp → Prop} {Pt : String → Hp → Prop} {kc ks : Nat} (hg : GOK g) (hD : 8 ≤ D) (hk : kc ≤ mc ∧ ks ≤ ms) (X : CB g K cX8_fewestBehind 6 yX8_fewestBehind (some (.int)) []) (l0 : Nat) (l1 : Nat) (l2 : Nat) (l3 : Int32) (h : Hp)
    (w : VB g K 6 D mc ms Pr Pt kc ks 8 [some (.ref l0), some (.ref l1), some (.ref l2), some (.int l3), some (.int ((1000 : Int32))), some (.int ((0 : Int32)))] [] h) : VB g K 6 D mc ms Pr Pt kc ks 0 [some (.ref l0), some (.ref l1), some (.ref l2), some (.int l3), none, none] [] h := by
  obtain ⟨p, e, s, m, args, below, meth, c⟩ := K
  have X : CX g p s m args meth c cX8_fewestBehind 6 yX8_fewestBehind (some (.int)) [] := X
  have hz := hg s X.gk.z
  show VV g p e (rmm D mc ms) s m args below meth c 6 (QQ g below args s mc ms Pr Pt) kc ks 0 [some (.ref l0), some (.ref l1), some (.ref l2), some (.int l3), none, none] [] h
  refine r_sipush X dX8_fewestBehind_0 (v := 1000) (by decide) ?_
  refine r_istore X dX8_fewestBehind_3 (by decide) rfl ?_
  refine r_iconst X dX8_fewestBehind_5 (v := 0) (by decide) ?_
  refine r_istore X dX8_fewestBehind_6 (by decide) rfl ?_
  refine VB_wk (ls' := [some (.ref l0), some (.ref l1), some (.ref l2), some (.int l3), some (.int ((1000 : Int32))), some (.int ((0 : Int32)))]) ?_ w
  exact (And.intro rfl (And.intro rfl (And.intro rfl (And.intro rfl (And.intro rfl (And.intro rfl trivial))))))

set_option maxRecDepth 10000 in
theorem b_X8_fewestBehind_8 {g : GG} {K : KX} {D mc ms : Nat} {Pr : Option Value → Hp → Prop} {Pt : String → Hp → Prop} {kc ks : Nat} (hg : GOK g) (hD : 8 ≤ D) (hk : kc ≤ mc ∧ ks ≤ ms) (X : CB g K cX8_fewestBehind 6 yX8_fewestBehind (some (.int)) []) (l0 : Nat) (l1 : Nat) (l2 : Nat) (l3 : Int32) (l4 : Int32) (l5 : Int32) (h : Hp)
    (w : (∃ v1, gI h l1 9 1 = some v1 ∧ ((v1 ≤ l5 → Pr (some (.int l4)) h) ∧ (¬ v1 ≤ l5 → ((¬ ((l3 >>> (l5 &&& 31)) &&& (1 : Int32)) = 0 → VB g K 6 D mc ms Pr Pt kc ks 42 [some (.ref l0), some (.ref l1), some (.ref l2), some (.int l3), some (.int l4), some (.int l5)] [] h) ∧ (((l3 >>> (l5 &&& 31)) &&& (1 : Int32)) = 0 → (∃ fs1, oF h l0 8 = some fs1 ∧ (∃ d1 P1 E1 m1 n1, CT g d1 yX8_stepsBy (wsC yX8_stepsBy cX8_stepsBy 6 (some (.int))) [.ref l0, .ref l1, .ref l2, .int l3, .int l5] h m1 n1 P1 E1 ∧ (d1 + 1 ≤ D ∧ kc + m1 ≤ mc ∧ ks + n1 ≤ ms) ∧ (∀ E h', E1 E h' → Pt E h') ∧ (∀ v h1, P1 v h1 → ∃ v3, v = some (.int v3) ∧ VB g K 6 D mc ms Pr Pt ((kc + m1)) ((ks + n1)) 42 [some (.ref l0), some (.ref l1), some (.ref l2), some (.int l3), some (.int ((if v3 < l4 then v3 else l4))), some (.int l5)] [] h1))))))))) : VB g K 6 D mc ms Pr Pt kc ks 8 [some (.ref l0), some (.ref l1), some (.ref l2), some (.int l3), some (.int l4), some (.int l5)] [] h := by
  obtain ⟨p, e, s, m, args, below, meth, c⟩ := K
  have X : CX g p s m args meth c cX8_fewestBehind 6 yX8_fewestBehind (some (.int)) [] := X
  have hz := hg s X.gk.z
  show VV g p e (rmm D mc ms) s m args below meth c 6 (QQ g below args s mc ms Pr Pt) kc ks 8 [some (.ref l0), some (.ref l1), some (.ref l2), some (.int l3), some (.int l4), some (.int l5)] [] h
  refine r_iload X dX8_fewestBehind_8 rfl ?_
  refine r_aload_n X dX8_fewestBehind_10 rfl ?_
  obtain ⟨v1, ev1, w⟩ := w
  obtain ⟨fv1, cv1, qv1⟩ := gI_s ev1
  refine r_getf X dX8_fewestBehind_11 fl_X8_27 cv1 qv1 ?_
  refine r_icmp_ge X dX8_fewestBehind_14 (tgt := 48) (by decide) (fun q => ?_) (fun q => ?_)
  · have w := w.1 q
    refine r_iload X dX8_fewestBehind_48 rfl ?_
    exact r_iret X dX8_fewestBehind_50 rfl w hk.1 hk.2
  · have w := w.2 q
    refine r_iload_n X dX8_fewestBehind_17 rfl ?_
    refine r_iload X dX8_fewestBehind_18 rfl ?_
    refine r_ishr X dX8_fewestBehind_20 ?_
    refine r_iconst X dX8_fewestBehind_21 (v := 1) (by decide) ?_
    refine r_iand X dX8_fewestBehind_22 ?_
    refine r_if_ne X dX8_fewestBehind_23 (tgt := 42) (by decide) (fun q => ?_) (fun q => ?_)
    · have w := w.1 q
      refine VB_wk (ls' := [some (.ref l0), some (.ref l1), some (.ref l2), some (.int l3), some (.int l4), some (.int l5)]) ?_ w
      exact (And.intro rfl (And.intro rfl (And.intro rfl (And.intro rfl (And.intro rfl (And.intro rfl trivial))))))
    · have w := w.2 q
      refine r_iload X dX8_fewestBehind_26 rfl ?_
      refine r_aload_n X dX8_fewestBehind_28 rfl ?_
      refine r_aload_n X dX8_fewestBehind_29 rfl ?_
      refine r_aload_n X dX8_fewestBehind_30 rfl ?_
      refine r_iload_n X dX8_fewestBehind_31 rfl ?_
      refine r_iload X dX8_fewestBehind_32 rfl ?_
      obtain ⟨fs1, es1, w⟩ := w
      obtain ⟨d1, P1, E1, m1, n1, ct1, w⟩ := w
      obtain ⟨⟨x1, x2, x3⟩, w⟩ := w
      obtain ⟨x4, w⟩ := w
      refine r_callV X (As := [.ref l1, .ref l2, .int l3, .int l5]) dX8_fewestBehind_34 mk_X8_stepsBy ⟨ml_X8_40, im_X8_stepsBy, se_X8_stepsBy⟩ (oF_s es1) (ci_X8).1 rfl rfl rfl (by simp [Value.category]) ⟨x1, by show 60 * (d1 + 1) + 200 ≤ 60 * D + 200; omega⟩ ⟨x2, x3⟩ ct1 x4 (fun _ z => nomatch z) (fun _ => ⟨x2, x3⟩) (fun v h1 w1 => ?_)
      have w := w v h1 w1
      have hk : kc + m1 ≤ mc ∧ ks + n1 ≤ ms := ⟨x2, x3⟩
      obtain ⟨v3, rfl, w⟩ := w
      refine r_mmin X dX8_fewestBehind_37 ma_X8_44 (by refine ⟨?_, ?_, ?_, ?_⟩ <;> simp [rmm, Value.category] <;> omega) ?_
      refine r_istore X dX8_fewestBehind_40 (by decide) rfl ?_
      refine VB_wk (ls' := [some (.ref l0), some (.ref l1), some (.ref l2), some (.int l3), some (.int ((if v3 < l4 then v3 else l4))), some (.int l5)]) ?_ w
      exact (And.intro rfl (And.intro rfl (And.intro rfl (And.intro rfl (And.intro rfl (And.intro rfl trivial))))))

set_option maxRecDepth 10000 in
theorem b_X8_fewestBehind_42 {g : GG} {K : KX} {D mc ms : Nat} {Pr : Option Value → Hp → Prop} {Pt : String → Hp → Prop} {kc ks : Nat} (hg : GOK g) (hD : 8 ≤ D) (hk : kc ≤ mc ∧ ks ≤ ms) (X : CB g K cX8_fewestBehind 6 yX8_fewestBehind (some (.int)) []) (l0 : Nat) (l1 : Nat) (l2 : Nat) (l3 : Int32) (l4 : Int32) (l5 : Int32) (h : Hp)
    (w : VB g K 6 D mc ms Pr Pt kc ks 8 [some (.ref l0), some (.ref l1), some (.ref l2), some (.int l3), some (.int l4), some (.int ((l5 + 1)))] [] h) : VB g K 6 D mc ms Pr Pt kc ks 42 [some (.ref l0), some (.ref l1), some (.ref l2), some (.int l3), some (.int l4), some (.int l5)] [] h := by
  obtain ⟨p, e, s, m, args, below, meth, c⟩ := K
  have X : CX g p s m args meth c cX8_fewestBehind 6 yX8_fewestBehind (some (.int)) [] := X
  have hz := hg s X.gk.z
  show VV g p e (rmm D mc ms) s m args below meth c 6 (QQ g below args s mc ms Pr Pt) kc ks 42 [some (.ref l0), some (.ref l1), some (.ref l2), some (.int l3), some (.int l4), some (.int l5)] [] h
  refine r_iinc X dX8_fewestBehind_42 rfl (v := (l5 + 1)) rfl (by decide) rfl ?_
  refine r_goto X dX8_fewestBehind_45 (tgt := 8) (by decide) ?_
  refine VB_wk (ls' := [some (.ref l0), some (.ref l1), some (.ref l2), some (.int l3), some (.int l4), some (.int ((l5 + 1)))]) ?_ w
  exact (And.intro rfl (And.intro rfl (And.intro rfl (And.intro rfl (And.intro rfl (And.intro rfl trivial))))))

set_option maxRecDepth 10000 in
theorem b_X8_init_0 {g : GG} {K : KX} {D mc ms : Nat} {Pr : Option Value → Hp → Prop} {Pt : String → Hp → Prop} {kc ks : Nat} (hg : GOK g) (hD : 8 ≤ D) (hk : kc ≤ mc ∧ ks ≤ ms) (X : CB g K cX8_init 1 yX8_init none []) (l0 : Nat) (h : Hp)
    (w : ((kc + 1 ≤ mc ∧ ks + 64 ≤ ms) ∧ (∃ h2, pF ((h ++ [arr0 0 64])) l0 8 0 (.ref ((h).length)) = some h2 ∧ (((kc + 1) + 1 ≤ mc ∧ (ks + 64) + 6 ≤ ms) ∧ (∃ h4, pF ((h2 ++ [arr0 0 6])) l0 8 1 (.ref ((h2).length)) = some h4 ∧ Pr none h4))))) : VB g K 1 D mc ms Pr Pt kc ks 0 [some (.ref l0)] [] h := by
  obtain ⟨p, e, s, m, args, below, meth, c⟩ := K
  have X : CX g p s m args meth c cX8_init 1 yX8_init none [] := X
  have hz := hg s X.gk.z
  show VV g p e (rmm D mc ms) s m args below meth c 1 (QQ g below args s mc ms Pr Pt) kc ks 0 [some (.ref l0)] [] h
  refine r_aload_n X dX8_init_0 rfl ?_
  refine r_objInit X dX8_init_1 ob_X8_3 (by show 1 ≤ D; omega) (by simp [rmm, Value.category]) ?_
  refine r_aload_n X dX8_init_4 rfl ?_
  refine r_bipush X dX8_init_5 (v := 64) (by decide) ?_
  obtain ⟨q1, w⟩ := w
  refine r_newa X dX8_init_7 (t := 0) (N := 64) (by decide) rfl ar_int (by decide) (by decide) (by decide) q1.1 q1.2 ?_
  have hk : (kc + 1) ≤ mc ∧ (ks + 64) ≤ ms := q1
  obtain ⟨h2, eh2, w⟩ := w
  obtain ⟨fh2, ch2, lh2, rh2⟩ := pF_s eh2
  subst rh2
  refine r_putF X dX8_init_9 fw_X8_9 rfl ch2 lh2 rfl rfl ?_
  refine r_aload_n X dX8_init_12 rfl ?_
  refine r_bipush X dX8_init_13 (v := 6) (by decide) ?_
  obtain ⟨q3, w⟩ := w
  refine r_newa X dX8_init_15 (t := 0) (N := 6) (by decide) rfl ar_int (by decide) (by decide) (by decide) q3.1 q3.2 ?_
  have hk : ((kc + 1) + 1) ≤ mc ∧ ((ks + 64) + 6) ≤ ms := q3
  obtain ⟨h4, eh4, w⟩ := w
  obtain ⟨fh4, ch4, lh4, rh4⟩ := pF_s eh4
  subst rh4
  refine r_putF X dX8_init_17 fw_X8_15 rfl ch4 lh4 rfl rfl ?_
  exact r_vret X dX8_init_20 rfl w hk.1 hk.2

set_option maxRecDepth 10000 in
theorem b_X8_stepsBy_0 {g : GG} {K : KX} {D mc ms : Nat} {Pr : Option Value → Hp → Prop} {Pt : String → Hp → Prop} {kc ks : Nat} (hg : GOK g) (hD : 8 ≤ D) (hk : kc ≤ mc ∧ ks ≤ ms) (X : CB g K cX8_stepsBy 6 yX8_stepsBy (some (.int)) []) (l0 : Nat) (l1 : Nat) (l2 : Nat) (l3 : Int32) (l4 : Int32) (h : Hp)
    (w : (∃ d0 P0 E0 m0 n0, CT g d0 yJ6_bitCount_0f7a4 (wsC yJ6_bitCount_0f7a4 cJ6_bitCount_0f7a4 1 (some (.int))) [.int l3] h m0 n0 P0 E0 ∧ (d0 + 1 ≤ D ∧ kc + m0 ≤ mc ∧ ks + n0 ≤ ms) ∧ (∀ E h', E0 E h' → Pt E h') ∧ (∀ v h0, P0 v h0 → ∃ v2, v = some (.int v2) ∧ (∃ v3, gI h0 l0 8 2 = some v3 ∧ ((v2 < v3 → (∃ v4, gN h0 l2 2 4 = some v4 ∧ (∃ v5, aI h0 0 v4 l4 = some v5 ∧ (∃ v6, gN h0 l0 8 1 = some v6 ∧ (∃ v7, aI h0 0 v6 v2 = some v7 ∧ (∃ fs7, oF h0 l1 9 = some fs7 ∧ (∃ d7 P7 E7 m7 n7, CT g d7 yX9_steps (wsC yX9_steps cX9_steps 4 (some (.int))) [.ref l1, .int v5, .int v7] h0 m7 n7 P7 E7 ∧ (d7 + 1 ≤ D ∧ (kc + m0) + m7 ≤ mc ∧ (ks + n0) + n7 ≤ ms) ∧ (∀ E h', E7 E h' → Pt E h') ∧ (∀ v h7, P7 v h7 → ∃ v9, v = some (.int v9) ∧ (∃ v10, gN h7 l0 8 0 = some v10 ∧ (∃ v11, aI h7 0 v10 ((l3 ||| ((1 : Int32) <<< (l4 &&& 31)))) = some v11 ∧ Pr (some (.int ((v9 + v11)))) h7)))))))))) ∧ (¬ v2 < v3 → Pr (some (.int ((0 : Int32)))) h0)))))) : VB g K 6 D mc ms Pr Pt kc ks 0 [some (.ref l0), some (.ref l1), some (.ref l2), some (.int l3), some (.int l4), none] [] h := by
  obtain ⟨p, e, s, m, args, below, meth, c⟩ := K
  have X : CX g p s m args meth c cX8_stepsBy 6 yX8_stepsBy (some (.int)) [] := X
  have hz := hg s X.gk.z
  show VV g p e (rmm D mc ms) s m args below meth c 6 (QQ g below args s mc ms Pr Pt) kc ks 0 [some (.ref l0), some (.ref l1), some (.ref l2), some (.int l3), some (.int l4), none] [] h
  refine r_iload_n X dX8_stepsBy_0 rfl ?_
  obtain ⟨d0, P0, E0, m0, n0, ct0, w⟩ := w
  obtain ⟨⟨x1, x2, x3⟩, w⟩ := w
  obtain ⟨x4, w⟩ := w
  refine r_callS X (As := [.int l3]) dX8_stepsBy_1 mk_J6_bitCount_0f7a4 ⟨ml_X8_30, sm_J6_bitCount_0f7a4⟩ rfl rfl (by simp [Value.category]) ⟨x1, by show 60 * (d0 + 1) + 200 ≤ 60 * D + 200; omega⟩ ⟨x2, x3⟩ ct0 x4 (fun _ z => nomatch z) (fun _ => ⟨x2, x3⟩) (fun v h0 w1 => ?_)
  have w := w v h0 w1
  have hk : kc + m0 ≤ mc ∧ ks + n0 ≤ ms := ⟨x2, x3⟩
  obtain ⟨v2, rfl, w⟩ := w
  refine r_istore X dX8_stepsBy_4 (by decide) rfl ?_
  refine r_iload X dX8_stepsBy_6 rfl ?_
  refine r_aload_n X dX8_stepsBy_8 rfl ?_
  obtain ⟨v3, ev3, w⟩ := w
  obtain ⟨fv3, cv3, qv3⟩ := gI_s ev3
  refine r_getf X dX8_stepsBy_9 fl_X8_18 cv3 qv3 ?_
  refine r_icmp_lt X dX8_stepsBy_12 (tgt := 19) (by decide) (fun q => ?_) (fun q => ?_)
  · have w := w.1 q
    refine r_aload_n X dX8_stepsBy_19 rfl ?_
    refine r_aload_n X dX8_stepsBy_20 rfl ?_
    obtain ⟨v4, ev4, w⟩ := w
    obtain ⟨fv4, cv4, qv4⟩ := gN_s ev4
    refine r_getf X dX8_stepsBy_21 fl_X8_50 cv4 qv4 ?_
    refine r_iload X dX8_stepsBy_24 rfl ?_
    obtain ⟨v5, ev5, w⟩ := w
    obtain ⟨nv5, fv5, cv5, iv5, qv5⟩ := aI_s ev5
    refine r_iald X dX8_stepsBy_26 cv5 iv5 ?_
    rw [qv5]
    refine r_aload_n X dX8_stepsBy_27 rfl ?_
    obtain ⟨v6, ev6, w⟩ := w
    obtain ⟨fv6, cv6, qv6⟩ := gN_s ev6
    refine r_getf X dX8_stepsBy_28 fl_X8_15 cv6 qv6 ?_
    refine r_iload X dX8_stepsBy_31 rfl ?_
    obtain ⟨v7, ev7, w⟩ := w
    obtain ⟨nv7, fv7, cv7, iv7, qv7⟩ := aI_s ev7
    refine r_iald X dX8_stepsBy_33 cv7 iv7 ?_
    rw [qv7]
    obtain ⟨fs7, es7, w⟩ := w
    obtain ⟨d7, P7, E7, m7, n7, ct7, w⟩ := w
    obtain ⟨⟨x1, x2, x3⟩, w⟩ := w
    obtain ⟨x4, w⟩ := w
    refine r_callV X (As := [.int v5, .int v7]) dX8_stepsBy_34 mk_X9_steps ⟨ml_X8_55, im_X9_steps, se_X9_steps⟩ (oF_s es7) (ci_X9).1 rfl rfl rfl (by simp [Value.category]) ⟨x1, by show 60 * (d7 + 1) + 200 ≤ 60 * D + 200; omega⟩ ⟨x2, x3⟩ ct7 x4 (fun _ z => nomatch z) (fun _ => ⟨x2, x3⟩) (fun v h7 w1 => ?_)
    have w := w v h7 w1
    have hk : (kc + m0) + m7 ≤ mc ∧ (ks + n0) + n7 ≤ ms := ⟨x2, x3⟩
    obtain ⟨v9, rfl, w⟩ := w
    refine r_aload_n X dX8_stepsBy_37 rfl ?_
    obtain ⟨v10, ev10, w⟩ := w
    obtain ⟨fv10, cv10, qv10⟩ := gN_s ev10
    refine r_getf X dX8_stepsBy_38 fl_X8_9 cv10 qv10 ?_
    refine r_iload_n X dX8_stepsBy_41 rfl ?_
    refine r_iconst X dX8_stepsBy_42 (v := 1) (by decide) ?_
    refine r_iload X dX8_stepsBy_43 rfl ?_
    refine r_ishl X dX8_stepsBy_45 ?_
    refine r_ior X dX8_stepsBy_46 ?_
    obtain ⟨v11, ev11, w⟩ := w
    obtain ⟨nv11, fv11, cv11, iv11, qv11⟩ := aI_s ev11
    refine r_iald X dX8_stepsBy_47 cv11 iv11 ?_
    rw [qv11]
    refine r_iadd X dX8_stepsBy_48 ?_
    exact r_iret X dX8_stepsBy_49 rfl w hk.1 hk.2
  · have w := w.2 q
    refine r_iconst X dX8_stepsBy_15 (v := 0) (by decide) ?_
    refine r_goto X dX8_stepsBy_16 (tgt := 49) (by decide) ?_
    exact r_iret X dX8_stepsBy_49 rfl w hk.1 hk.2

set_option maxRecDepth 10000 in
theorem b_X8_stepsOfAll_0 {g : GG} {K : KX} {D mc ms : Nat} {Pr : Option Value → Hp → Prop} {Pt : String → Hp → Prop} {kc ks : Nat} (hg : GOK g) (hD : 8 ≤ D) (hk : kc ≤ mc ∧ ks ≤ ms) (X : CB g K cX8_stepsOfAll 1 yX8_stepsOfAll (some (.int)) []) (l0 : Nat) (h : Hp)
    (w : (∃ v1, gN h l0 8 0 = some v1 ∧ (∃ v2, aI h 0 v1 ((0 : Int32)) = some v2 ∧ Pr (some (.int v2)) h))) : VB g K 1 D mc ms Pr Pt kc ks 0 [some (.ref l0)] [] h := by
  obtain ⟨p, e, s, m, args, below, meth, c⟩ := K
  have X : CX g p s m args meth c cX8_stepsOfAll 1 yX8_stepsOfAll (some (.int)) [] := X
  have hz := hg s X.gk.z
  show VV g p e (rmm D mc ms) s m args below meth c 1 (QQ g below args s mc ms Pr Pt) kc ks 0 [some (.ref l0)] [] h
  refine r_aload_n X dX8_stepsOfAll_0 rfl ?_
  obtain ⟨v1, ev1, w⟩ := w
  obtain ⟨fv1, cv1, qv1⟩ := gN_s ev1
  refine r_getf X dX8_stepsOfAll_1 fl_X8_9 cv1 qv1 ?_
  refine r_iconst X dX8_stepsOfAll_4 (v := 0) (by decide) ?_
  obtain ⟨v2, ev2, w⟩ := w
  obtain ⟨nv2, fv2, cv2, iv2, qv2⟩ := aI_s ev2
  refine r_iald X dX8_stepsOfAll_5 cv2 iv2 ?_
  rw [qv2]
  exact r_iret X dX8_stepsOfAll_6 rfl w hk.1 hk.2

set_option maxRecDepth 10000 in
theorem b_X8_weigh_0 {g : GG} {K : KX} {D mc ms : Nat} {Pr : Option Value → Hp → Prop} {Pt : String → Hp → Prop} {kc ks : Nat} (hg : GOK g) (hD : 8 ≤ D) (hk : kc ≤ mc ∧ ks ≤ ms) (X : CB g K cX8_weigh 5 yX8_weigh none []) (l0 : Nat) (l1 : Nat) (l2 : Nat) (l3 : Int32) (h : Hp)
    (w : (∃ h1, pF h l0 8 2 (.int ((0 : Int32))) = some h1 ∧ VB g K 5 D mc ms Pr Pt kc ks 8 [some (.ref l0), some (.ref l1), some (.ref l2), some (.int l3), some (.int ((0 : Int32)))] [] h1)) : VB g K 5 D mc ms Pr Pt kc ks 0 [some (.ref l0), some (.ref l1), some (.ref l2), some (.int l3), none] [] h := by
  obtain ⟨p, e, s, m, args, below, meth, c⟩ := K
  have X : CX g p s m args meth c cX8_weigh 5 yX8_weigh none [] := X
  have hz := hg s X.gk.z
  show VV g p e (rmm D mc ms) s m args below meth c 5 (QQ g below args s mc ms Pr Pt) kc ks 0 [some (.ref l0), some (.ref l1), some (.ref l2), some (.int l3), none] [] h
  refine r_aload_n X dX8_weigh_0 rfl ?_
  refine r_iconst X dX8_weigh_1 (v := 0) (by decide) ?_
  obtain ⟨h1, eh1, w⟩ := w
  obtain ⟨fh1, ch1, lh1, rh1⟩ := pF_s eh1
  subst rh1
  refine r_putf X dX8_weigh_2 fw_X8_18 ch1 lh1 rfl rfl ?_
  refine r_iconst X dX8_weigh_5 (v := 0) (by decide) ?_
  refine r_istore X dX8_weigh_6 (by decide) rfl ?_
  refine VB_wk (ls' := [some (.ref l0), some (.ref l1), some (.ref l2), some (.int l3), some (.int ((0 : Int32)))]) ?_ w
  exact (And.intro rfl (And.intro rfl (And.intro rfl (And.intro rfl (And.intro rfl trivial)))))

set_option maxRecDepth 10000 in
theorem b_X8_weigh_8 {g : GG} {K : KX} {D mc ms : Nat} {Pr : Option Value → Hp → Prop} {Pt : String → Hp → Prop} {kc ks : Nat} (hg : GOK g) (hD : 8 ≤ D) (hk : kc ≤ mc ∧ ks ≤ ms) (X : CB g K cX8_weigh 5 yX8_weigh none []) (l0 : Nat) (l1 : Nat) (l2 : Nat) (l3 : Int32) (l4 : Int32) (h : Hp)
    (w : (∃ v1, gI h l1 9 0 = some v1 ∧ ((v1 ≤ l4 → (∃ v2, gI h l1 9 1 = some v2 ∧ VB g K 5 D mc ms Pr Pt kc ks 76 [some (.ref l0), some (.ref l1), some (.ref l2), none, some (.int ((((1 : Int32) <<< (v2 &&& 31)) - (1 : Int32))))] [] h)) ∧ (¬ v1 ≤ l4 → ((¬ ((l3 >>> (l4 &&& 31)) &&& (1 : Int32)) = (1 : Int32) → VB g K 5 D mc ms Pr Pt kc ks 60 [some (.ref l0), some (.ref l1), some (.ref l2), some (.int l3), some (.int l4)] [] h) ∧ (((l3 >>> (l4 &&& 31)) &&& (1 : Int32)) = (1 : Int32) → (∃ v3, gI h l0 8 2 = some v3 ∧ (∃ v4, gN h l0 8 1 = some v4 ∧ (∃ v5, lenA h v4 = some v5 ∧ ((v5 ≤ v3 → VB g K 5 D mc ms Pr Pt kc ks 60 [some (.ref l0), some (.ref l1), some (.ref l2), some (.int l3), some (.int l4)] [] h) ∧ (¬ v5 ≤ v3 → (∃ v6, gN h l0 8 1 = some v6 ∧ (∃ v7, gI h l0 8 2 = some v7 ∧ (∃ h8, uI h 0 v6 v7 l4 = some h8 ∧ (∃ v9, gI h8 l0 8 2 = some v9 ∧ (∃ h10, pF h8 l0 8 2 (.int ((v9 + (1 : Int32)))) = some h10 ∧ VB g K 5 D mc ms Pr Pt kc ks 60 [some (.ref l0), some (.ref l1), some (.ref l2), some (.int l3), some (.int l4)] [] h10)))))))))))))))) : VB g K 5 D mc ms Pr Pt kc ks 8 [some (.ref l0), some (.ref l1), some (.ref l2), some (.int l3), some (.int l4)] [] h := by
  obtain ⟨p, e, s, m, args, below, meth, c⟩ := K
  have X : CX g p s m args meth c cX8_weigh 5 yX8_weigh none [] := X
  have hz := hg s X.gk.z
  show VV g p e (rmm D mc ms) s m args below meth c 5 (QQ g below args s mc ms Pr Pt) kc ks 8 [some (.ref l0), some (.ref l1), some (.ref l2), some (.int l3), some (.int l4)] [] h
  refine r_iload X dX8_weigh_8 rfl ?_
  refine r_aload_n X dX8_weigh_10 rfl ?_
  obtain ⟨v1, ev1, w⟩ := w
  obtain ⟨fv1, cv1, qv1⟩ := gI_s ev1
  refine r_getf X dX8_weigh_11 fl_X8_22 cv1 qv1 ?_
  refine r_icmp_ge X dX8_weigh_14 (tgt := 66) (by decide) (fun q => ?_) (fun q => ?_)
  · have w := w.1 q
    refine r_iconst X dX8_weigh_66 (v := 1) (by decide) ?_
    refine r_aload_n X dX8_weigh_67 rfl ?_
    obtain ⟨v2, ev2, w⟩ := w
    obtain ⟨fv2, cv2, qv2⟩ := gI_s ev2
    refine r_getf X dX8_weigh_68 fl_X8_27 cv2 qv2 ?_
    refine r_ishl X dX8_weigh_71 ?_
    refine r_iconst X dX8_weigh_72 (v := 1) (by decide) ?_
    refine r_isub X dX8_weigh_73 ?_
    refine r_istore X dX8_weigh_74 (by decide) rfl ?_
    refine VB_wk (ls' := [some (.ref l0), some (.ref l1), some (.ref l2), none, some (.int ((((1 : Int32) <<< (v2 &&& 31)) - (1 : Int32))))]) ?_ w
    exact (And.intro rfl (And.intro rfl (And.intro rfl (And.intro rfl trivial))))
  · have w := w.2 q
    refine r_iload_n X dX8_weigh_17 rfl ?_
    refine r_iload X dX8_weigh_18 rfl ?_
    refine r_ishr X dX8_weigh_20 ?_
    refine r_iconst X dX8_weigh_21 (v := 1) (by decide) ?_
    refine r_iand X dX8_weigh_22 ?_
    refine r_iconst X dX8_weigh_23 (v := 1) (by decide) ?_
    refine r_icmp_ne X dX8_weigh_24 (tgt := 60) (by decide) (fun q => ?_) (fun q => ?_)
    · have w := w.1 q
      refine VB_wk (ls' := [some (.ref l0), some (.ref l1), some (.ref l2), some (.int l3), some (.int l4)]) ?_ w
      exact (And.intro rfl (And.intro rfl (And.intro rfl (And.intro rfl (And.intro rfl trivial)))))
    · have w := w.2 q
      refine r_aload_n X dX8_weigh_27 rfl ?_
      obtain ⟨v3, ev3, w⟩ := w
      obtain ⟨fv3, cv3, qv3⟩ := gI_s ev3
      refine r_getf X dX8_weigh_28 fl_X8_18 cv3 qv3 ?_
      refine r_aload_n X dX8_weigh_31 rfl ?_
      obtain ⟨v4, ev4, w⟩ := w
      obtain ⟨fv4, cv4, qv4⟩ := gN_s ev4
      refine r_getf X dX8_weigh_32 fl_X8_15 cv4 qv4 ?_
      obtain ⟨v5, ev5, w⟩ := w
      obtain ⟨tv5, nv5, fv5, cv5, iv5, qv5⟩ := lenA_s ev5
      refine r_alen X dX8_weigh_35 cv5 iv5 ?_
      rw [qv5]
      refine r_icmp_ge X dX8_weigh_36 (tgt := 60) (by decide) (fun q => ?_) (fun q => ?_)
      · have w := w.1 q
        refine VB_wk (ls' := [some (.ref l0), some (.ref l1), some (.ref l2), some (.int l3), some (.int l4)]) ?_ w
        exact (And.intro rfl (And.intro rfl (And.intro rfl (And.intro rfl (And.intro rfl trivial)))))
      · have w := w.2 q
        refine r_aload_n X dX8_weigh_39 rfl ?_
        obtain ⟨v6, ev6, w⟩ := w
        obtain ⟨fv6, cv6, qv6⟩ := gN_s ev6
        refine r_getf X dX8_weigh_40 fl_X8_15 cv6 qv6 ?_
        refine r_aload_n X dX8_weigh_43 rfl ?_
        obtain ⟨v7, ev7, w⟩ := w
        obtain ⟨fv7, cv7, qv7⟩ := gI_s ev7
        refine r_getf X dX8_weigh_44 fl_X8_18 cv7 qv7 ?_
        refine r_iload X dX8_weigh_47 rfl ?_
        obtain ⟨h8, eh8, w⟩ := w
        obtain ⟨nh8, fh8, ch8, ih8, rh8⟩ := uI_s eh8
        subst rh8
        refine r_iast X dX8_weigh_49 ch8 ih8 ?_
        refine r_aload_n X dX8_weigh_50 rfl ?_
        refine r_dup X dX8_weigh_51 rfl ?_
        obtain ⟨v9, ev9, w⟩ := w
        obtain ⟨fv9, cv9, qv9⟩ := gI_s ev9
        refine r_getf X dX8_weigh_52 fl_X8_18 cv9 qv9 ?_
        refine r_iconst X dX8_weigh_55 (v := 1) (by decide) ?_
        refine r_iadd X dX8_weigh_56 ?_
        obtain ⟨h10, eh10, w⟩ := w
        obtain ⟨fh10, ch10, lh10, rh10⟩ := pF_s eh10
        subst rh10
        refine r_putf X dX8_weigh_57 fw_X8_18 ch10 lh10 rfl rfl ?_
        refine VB_wk (ls' := [some (.ref l0), some (.ref l1), some (.ref l2), some (.int l3), some (.int l4)]) ?_ w
        exact (And.intro rfl (And.intro rfl (And.intro rfl (And.intro rfl (And.intro rfl trivial)))))

set_option maxRecDepth 10000 in
theorem b_X8_weigh_60 {g : GG} {K : KX} {D mc ms : Nat} {Pr : Option Value → Hp → Prop} {Pt : String → Hp → Prop} {kc ks : Nat} (hg : GOK g) (hD : 8 ≤ D) (hk : kc ≤ mc ∧ ks ≤ ms) (X : CB g K cX8_weigh 5 yX8_weigh none []) (l0 : Nat) (l1 : Nat) (l2 : Nat) (l3 : Int32) (l4 : Int32) (h : Hp)
    (w : VB g K 5 D mc ms Pr Pt kc ks 8 [some (.ref l0), some (.ref l1), some (.ref l2), some (.int l3), some (.int ((l4 + 1)))] [] h) : VB g K 5 D mc ms Pr Pt kc ks 60 [some (.ref l0), some (.ref l1), some (.ref l2), some (.int l3), some (.int l4)] [] h := by
  obtain ⟨p, e, s, m, args, below, meth, c⟩ := K
  have X : CX g p s m args meth c cX8_weigh 5 yX8_weigh none [] := X
  have hz := hg s X.gk.z
  show VV g p e (rmm D mc ms) s m args below meth c 5 (QQ g below args s mc ms Pr Pt) kc ks 60 [some (.ref l0), some (.ref l1), some (.ref l2), some (.int l3), some (.int l4)] [] h
  refine r_iinc X dX8_weigh_60 rfl (v := (l4 + 1)) rfl (by decide) rfl ?_
  refine r_goto X dX8_weigh_63 (tgt := 8) (by decide) ?_
  refine VB_wk (ls' := [some (.ref l0), some (.ref l1), some (.ref l2), some (.int l3), some (.int ((l4 + 1)))]) ?_ w
  exact (And.intro rfl (And.intro rfl (And.intro rfl (And.intro rfl (And.intro rfl trivial)))))

set_option maxRecDepth 10000 in
theorem b_X8_weigh_76 {g : GG} {K : KX} {D mc ms : Nat} {Pr : Option Value → Hp → Prop} {Pt : String → Hp → Prop} {kc ks : Nat} (hg : GOK g) (hD : 8 ≤ D) (hk : kc ≤ mc ∧ ks ≤ ms) (X : CB g K cX8_weigh 5 yX8_weigh none []) (l0 : Nat) (l1 : Nat) (l2 : Nat) (l4 : Int32) (h : Hp)
    (w : ((l4 < 0 → Pr none h) ∧ (¬ l4 < 0 → (∃ v1, gN h l0 8 0 = some v1 ∧ (∃ d1 P1 E1 m1 n1, CT g d1 yJ6_bitCount_0f7a4 (wsC yJ6_bitCount_0f7a4 cJ6_bitCount_0f7a4 1 (some (.int))) [.int l4] h m1 n1 P1 E1 ∧ (d1 + 1 ≤ D ∧ kc + m1 ≤ mc ∧ ks + n1 ≤ ms) ∧ (∀ E h', E1 E h' → Pt E h') ∧ (∀ v h1, P1 v h1 → ∃ v3, v = some (.int v3) ∧ (∃ v4, gI h1 l0 8 2 = some v4 ∧ ((v3 < v4 → (∃ fs4, oF h1 l0 8 = some fs4 ∧ (∃ d4 P4 E4 m4 n4, CT g d4 yX8_fewestBehind (wsC yX8_fewestBehind cX8_fewestBehind 6 (some (.int))) [.ref l0, .ref l1, .ref l2, .int l4] h1 m4 n4 P4 E4 ∧ (d4 + 1 ≤ D ∧ (kc + m1) + m4 ≤ mc ∧ (ks + n1) + n4 ≤ ms) ∧ (∀ E h', E4 E h' → Pt E h') ∧ (∀ v h4, P4 v h4 → ∃ v6, v = some (.int v6) ∧ VB g K 5 D mc ms Pr Pt (((kc + m1) + m4)) (((ks + n1) + n4)) 111 [some (.ref l0), some (.ref l1), some (.ref l2), none, some (.int l4)] [.int v6, .int l4, .ref v1] h4)))) ∧ (¬ v3 < v4 → VB g K 5 D mc ms Pr Pt ((kc + m1)) ((ks + n1)) 111 [some (.ref l0), some (.ref l1), some (.ref l2), none, some (.int l4)] [.int ((0 : Int32)), .int l4, .ref v1] h1))))))))) : VB g K 5 D mc ms Pr Pt kc ks 76 [some (.ref l0), some (.ref l1), some (.ref l2), none, some (.int l4)] [] h := by
  obtain ⟨p, e, s, m, args, below, meth, c⟩ := K
  have X : CX g p s m args meth c cX8_weigh 5 yX8_weigh none [] := X
  have hz := hg s X.gk.z
  show VV g p e (rmm D mc ms) s m args below meth c 5 (QQ g below args s mc ms Pr Pt) kc ks 76 [some (.ref l0), some (.ref l1), some (.ref l2), none, some (.int l4)] [] h
  refine r_iload X dX8_weigh_76 rfl ?_
  refine r_if_lt X dX8_weigh_78 (tgt := 118) (by decide) (fun q => ?_) (fun q => ?_)
  · have w := w.1 q
    exact r_vret X dX8_weigh_118 rfl w hk.1 hk.2
  · have w := w.2 q
    refine r_aload_n X dX8_weigh_81 rfl ?_
    obtain ⟨v1, ev1, w⟩ := w
    obtain ⟨fv1, cv1, qv1⟩ := gN_s ev1
    refine r_getf X dX8_weigh_82 fl_X8_9 cv1 qv1 ?_
    refine r_iload X dX8_weigh_85 rfl ?_
    refine r_iload X dX8_weigh_87 rfl ?_
    obtain ⟨d1, P1, E1, m1, n1, ct1, w⟩ := w
    obtain ⟨⟨x1, x2, x3⟩, w⟩ := w
    obtain ⟨x4, w⟩ := w
    refine r_callS X (As := [.int l4]) dX8_weigh_89 mk_J6_bitCount_0f7a4 ⟨ml_X8_30, sm_J6_bitCount_0f7a4⟩ rfl rfl (by simp [Value.category]) ⟨x1, by show 60 * (d1 + 1) + 200 ≤ 60 * D + 200; omega⟩ ⟨x2, x3⟩ ct1 x4 (fun _ z => nomatch z) (fun _ => ⟨x2, x3⟩) (fun v h1 w1 => ?_)
    have w := w v h1 w1
    have hk : kc + m1 ≤ mc ∧ ks + n1 ≤ ms := ⟨x2, x3⟩
    obtain ⟨v3, rfl, w⟩ := w
    refine r_aload_n X dX8_weigh_92 rfl ?_
    obtain ⟨v4, ev4, w⟩ := w
    obtain ⟨fv4, cv4, qv4⟩ := gI_s ev4
    refine r_getf X dX8_weigh_93 fl_X8_18 cv4 qv4 ?_
    refine r_icmp_lt X dX8_weigh_96 (tgt := 103) (by decide) (fun q => ?_) (fun q => ?_)
    · have w := w.1 q
      refine r_aload_n X dX8_weigh_103 rfl ?_
      refine r_aload_n X dX8_weigh_104 rfl ?_
      refine r_aload_n X dX8_weigh_105 rfl ?_
      refine r_iload X dX8_weigh_106 rfl ?_
      obtain ⟨fs4, es4, w⟩ := w
      obtain ⟨d4, P4, E4, m4, n4, ct4, w⟩ := w
      obtain ⟨⟨x1, x2, x3⟩, w⟩ := w
      obtain ⟨x4, w⟩ := w
      refine r_callV X (As := [.ref l1, .ref l2, .int l4]) dX8_weigh_108 mk_X8_fewestBehind ⟨ml_X8_36, im_X8_fewestBehind, se_X8_fewestBehind⟩ (oF_s es4) (ci_X8).1 rfl rfl rfl (by simp [Value.category]) ⟨x1, by show 60 * (d4 + 1) + 200 ≤ 60 * D + 200; omega⟩ ⟨x2, x3⟩ ct4 x4 (fun _ z => nomatch z) (fun _ => ⟨x2, x3⟩) (fun v h4 w1 => ?_)
      have w := w v h4 w1
      have hk : (kc + m1) + m4 ≤ mc ∧ (ks + n1) + n4 ≤ ms := ⟨x2, x3⟩
      obtain ⟨v6, rfl, w⟩ := w
      refine VB_wk (ls' := [some (.ref l0), some (.ref l1), some (.ref l2), none, some (.int l4)]) ?_ w
      exact (And.intro rfl (And.intro rfl (And.intro rfl (And.intro rfl trivial))))
    · have w := w.2 q
      refine r_iconst X dX8_weigh_99 (v := 0) (by decide) ?_
      refine r_goto X dX8_weigh_100 (tgt := 111) (by decide) ?_
      refine VB_wk (ls' := [some (.ref l0), some (.ref l1), some (.ref l2), none, some (.int l4)]) ?_ w
      exact (And.intro rfl (And.intro rfl (And.intro rfl (And.intro rfl trivial))))

set_option maxRecDepth 10000 in
theorem b_X8_weigh_111 {g : GG} {K : KX} {D mc ms : Nat} {Pr : Option Value → Hp → Prop} {Pt : String → Hp → Prop} {kc ks : Nat} (hg : GOK g) (hD : 8 ≤ D) (hk : kc ≤ mc ∧ ks ≤ ms) (X : CB g K cX8_weigh 5 yX8_weigh none []) (l0 : Nat) (l1 : Nat) (l2 : Nat) (l4 : Int32) (s0 : Nat) (s1 : Int32) (s2 : Int32) (h : Hp)
    (w : (∃ h1, uI h 0 s0 s1 s2 = some h1 ∧ VB g K 5 D mc ms Pr Pt kc ks 76 [some (.ref l0), some (.ref l1), some (.ref l2), none, some (.int ((l4 + (-1))))] [] h1)) : VB g K 5 D mc ms Pr Pt kc ks 111 [some (.ref l0), some (.ref l1), some (.ref l2), none, some (.int l4)] [.int s2, .int s1, .ref s0] h := by
  obtain ⟨p, e, s, m, args, below, meth, c⟩ := K
  have X : CX g p s m args meth c cX8_weigh 5 yX8_weigh none [] := X
  have hz := hg s X.gk.z
  show VV g p e (rmm D mc ms) s m args below meth c 5 (QQ g below args s mc ms Pr Pt) kc ks 111 [some (.ref l0), some (.ref l1), some (.ref l2), none, some (.int l4)] [.int s2, .int s1, .ref s0] h
  obtain ⟨h1, eh1, w⟩ := w
  obtain ⟨nh1, fh1, ch1, ih1, rh1⟩ := uI_s eh1
  subst rh1
  refine r_iast X dX8_weigh_111 ch1 ih1 ?_
  refine r_iinc X dX8_weigh_112 rfl (v := (l4 + (-1))) rfl (by decide) rfl ?_
  refine r_goto X dX8_weigh_115 (tgt := 76) (by decide) ?_
  refine VB_wk (ls' := [some (.ref l0), some (.ref l1), some (.ref l2), none, some (.int ((l4 + (-1))))]) ?_ w
  exact (And.intro rfl (And.intro rfl (And.intro rfl (And.intro rfl trivial))))

set_option maxRecDepth 10000 in
theorem b_X8_whoGoesTo_0 {g : GG} {K : KX} {D mc ms : Nat} {Pr : Option Value → Hp → Prop} {Pt : String → Hp → Prop} {kc ks : Nat} (hg : GOK g) (hD : 8 ≤ D) (hk : kc ≤ mc ∧ ks ≤ ms) (X : CB g K cX8_whoGoesTo 7 yX8_whoGoesTo (some (.int)) []) (l0 : Nat) (l1 : Nat) (l2 : Nat) (l3 : Int32) (h : Hp)
    (w : VB g K 7 D mc ms Pr Pt kc ks 6 [some (.ref l0), some (.ref l1), some (.ref l2), some (.int l3), some (.int ((0 : Int32))), some (.int ((0 : Int32))), none] [] h) : VB g K 7 D mc ms Pr Pt kc ks 0 [some (.ref l0), some (.ref l1), some (.ref l2), some (.int l3), none, none, none] [] h := by
  obtain ⟨p, e, s, m, args, below, meth, c⟩ := K
  have X : CX g p s m args meth c cX8_whoGoesTo 7 yX8_whoGoesTo (some (.int)) [] := X
  have hz := hg s X.gk.z
  show VV g p e (rmm D mc ms) s m args below meth c 7 (QQ g below args s mc ms Pr Pt) kc ks 0 [some (.ref l0), some (.ref l1), some (.ref l2), some (.int l3), none, none, none] [] h
  refine r_iconst X dX8_whoGoesTo_0 (v := 0) (by decide) ?_
  refine r_istore X dX8_whoGoesTo_1 (by decide) rfl ?_
  refine r_iconst X dX8_whoGoesTo_3 (v := 0) (by decide) ?_
  refine r_istore X dX8_whoGoesTo_4 (by decide) rfl ?_
  refine VB_wk (ls' := [some (.ref l0), some (.ref l1), some (.ref l2), some (.int l3), some (.int ((0 : Int32))), some (.int ((0 : Int32))), none]) ?_ w
  exact (And.intro rfl (And.intro rfl (And.intro rfl (And.intro rfl (And.intro rfl (And.intro rfl trivial))))))

set_option maxRecDepth 10000 in
theorem b_X8_whoGoesTo_6 {g : GG} {K : KX} {D mc ms : Nat} {Pr : Option Value → Hp → Prop} {Pt : String → Hp → Prop} {kc ks : Nat} (hg : GOK g) (hD : 8 ≤ D) (hk : kc ≤ mc ∧ ks ≤ ms) (X : CB g K cX8_whoGoesTo 7 yX8_whoGoesTo (some (.int)) []) (l0 : Nat) (l1 : Nat) (l2 : Nat) (l3 : Int32) (l4 : Int32) (l5 : Int32) (h : Hp)
    (w : (∃ v1, gI h l0 8 2 = some v1 ∧ ((v1 ≤ l5 → Pr (some (.int ((-1 : Int32)))) h) ∧ (¬ v1 ≤ l5 → (∃ fs1, oF h l0 8 = some fs1 ∧ (∃ d1 P1 E1 m1 n1, CT g d1 yX8_whoIsNext (wsC yX8_whoIsNext cX8_whoIsNext 5 (some (.int))) [.ref l0, .ref l1, .ref l2, .int l4] h m1 n1 P1 E1 ∧ (d1 + 1 ≤ D ∧ kc + m1 ≤ mc ∧ ks + n1 ≤ ms) ∧ (∀ E h', E1 E h' → Pt E h') ∧ (∀ v h1, P1 v h1 → ∃ v3, v = some (.int v3) ∧ (∃ v4, gN h1 l0 8 1 = some v4 ∧ (∃ v5, aI h1 0 v4 l5 = some v5 ∧ ((¬ v5 = l3 → ((0 ≤ v3 → VB g K 7 D mc ms Pr Pt ((kc + m1)) ((ks + n1)) 54 [some (.ref l0), some (.ref l1), some (.ref l2), some (.int l3), none, some (.int l5), none] [.int (((1 : Int32) <<< (v3 &&& 31))), .int l4] h1) ∧ (¬ 0 ≤ v3 → VB g K 7 D mc ms Pr Pt ((kc + m1)) ((ks + n1)) 54 [some (.ref l0), some (.ref l1), some (.ref l2), some (.int l3), none, some (.int l5), none] [.int ((0 : Int32)), .int l4] h1))) ∧ (v5 = l3 → Pr (some (.int v3)) h1))))))))))) : VB g K 7 D mc ms Pr Pt kc ks 6 [some (.ref l0), some (.ref l1), some (.ref l2), some (.int l3), some (.int l4), some (.int l5), none] [] h := by
  obtain ⟨p, e, s, m, args, below, meth, c⟩ := K
  have X : CX g p s m args meth c cX8_whoGoesTo 7 yX8_whoGoesTo (some (.int)) [] := X
  have hz := hg s X.gk.z
  show VV g p e (rmm D mc ms) s m args below meth c 7 (QQ g below args s mc ms Pr Pt) kc ks 6 [some (.ref l0), some (.ref l1), some (.ref l2), some (.int l3), some (.int l4), some (.int l5), none] [] h
  refine r_iload X dX8_whoGoesTo_6 rfl ?_
  refine r_aload_n X dX8_whoGoesTo_8 rfl ?_
  obtain ⟨v1, ev1, w⟩ := w
  obtain ⟨fv1, cv1, qv1⟩ := gI_s ev1
  refine r_getf X dX8_whoGoesTo_9 fl_X8_18 cv1 qv1 ?_
  refine r_icmp_ge X dX8_whoGoesTo_12 (tgt := 63) (by decide) (fun q => ?_) (fun q => ?_)
  · have w := w.1 q
    refine r_iconst X dX8_whoGoesTo_63 (v := -1) (by decide) ?_
    exact r_iret X dX8_whoGoesTo_64 rfl w hk.1 hk.2
  · have w := w.2 q
    refine r_aload_n X dX8_whoGoesTo_15 rfl ?_
    refine r_aload_n X dX8_whoGoesTo_16 rfl ?_
    refine r_aload_n X dX8_whoGoesTo_17 rfl ?_
    refine r_iload X dX8_whoGoesTo_18 rfl ?_
    obtain ⟨fs1, es1, w⟩ := w
    obtain ⟨d1, P1, E1, m1, n1, ct1, w⟩ := w
    obtain ⟨⟨x1, x2, x3⟩, w⟩ := w
    obtain ⟨x4, w⟩ := w
    refine r_callV X (As := [.ref l1, .ref l2, .int l4]) dX8_whoGoesTo_20 mk_X8_whoIsNext ⟨ml_X8_58, im_X8_whoIsNext, se_X8_whoIsNext⟩ (oF_s es1) (ci_X8).1 rfl rfl rfl (by simp [Value.category]) ⟨x1, by show 60 * (d1 + 1) + 200 ≤ 60 * D + 200; omega⟩ ⟨x2, x3⟩ ct1 x4 (fun _ z => nomatch z) (fun _ => ⟨x2, x3⟩) (fun v h1 w1 => ?_)
    have w := w v h1 w1
    have hk : kc + m1 ≤ mc ∧ ks + n1 ≤ ms := ⟨x2, x3⟩
    obtain ⟨v3, rfl, w⟩ := w
    refine r_istore X dX8_whoGoesTo_23 (by decide) rfl ?_
    refine r_aload_n X dX8_whoGoesTo_25 rfl ?_
    obtain ⟨v4, ev4, w⟩ := w
    obtain ⟨fv4, cv4, qv4⟩ := gN_s ev4
    refine r_getf X dX8_whoGoesTo_26 fl_X8_15 cv4 qv4 ?_
    refine r_iload X dX8_whoGoesTo_29 rfl ?_
    obtain ⟨v5, ev5, w⟩ := w
    obtain ⟨nv5, fv5, cv5, iv5, qv5⟩ := aI_s ev5
    refine r_iald X dX8_whoGoesTo_31 cv5 iv5 ?_
    rw [qv5]
    refine r_iload_n X dX8_whoGoesTo_32 rfl ?_
    refine r_icmp_ne X dX8_whoGoesTo_33 (tgt := 39) (by decide) (fun q => ?_) (fun q => ?_)
    · have w := w.1 q
      refine r_iload X dX8_whoGoesTo_39 rfl ?_
      refine r_iload X dX8_whoGoesTo_41 rfl ?_
      refine r_if_ge X dX8_whoGoesTo_43 (tgt := 50) (by decide) (fun q => ?_) (fun q => ?_)
      · have w := w.1 q
        refine r_iconst X dX8_whoGoesTo_50 (v := 1) (by decide) ?_
        refine r_iload X dX8_whoGoesTo_51 rfl ?_
        refine r_ishl X dX8_whoGoesTo_53 ?_
        refine VB_wk (ls' := [some (.ref l0), some (.ref l1), some (.ref l2), some (.int l3), none, some (.int l5), none]) ?_ w
        exact (And.intro rfl (And.intro rfl (And.intro rfl (And.intro rfl (And.intro rfl trivial)))))
      · have w := w.2 q
        refine r_iconst X dX8_whoGoesTo_46 (v := 0) (by decide) ?_
        refine r_goto X dX8_whoGoesTo_47 (tgt := 54) (by decide) ?_
        refine VB_wk (ls' := [some (.ref l0), some (.ref l1), some (.ref l2), some (.int l3), none, some (.int l5), none]) ?_ w
        exact (And.intro rfl (And.intro rfl (And.intro rfl (And.intro rfl (And.intro rfl trivial)))))
    · have w := w.2 q
      refine r_iload X dX8_whoGoesTo_36 rfl ?_
      exact r_iret X dX8_whoGoesTo_38 rfl w hk.1 hk.2

set_option maxRecDepth 10000 in
theorem b_X8_whoGoesTo_54 {g : GG} {K : KX} {D mc ms : Nat} {Pr : Option Value → Hp → Prop} {Pt : String → Hp → Prop} {kc ks : Nat} (hg : GOK g) (hD : 8 ≤ D) (hk : kc ≤ mc ∧ ks ≤ ms) (X : CB g K cX8_whoGoesTo 7 yX8_whoGoesTo (some (.int)) []) (l0 : Nat) (l1 : Nat) (l2 : Nat) (l3 : Int32) (l5 : Int32) (s0 : Int32) (s1 : Int32) (h : Hp)
    (w : VB g K 7 D mc ms Pr Pt kc ks 6 [some (.ref l0), some (.ref l1), some (.ref l2), some (.int l3), some (.int ((s0 ||| s1))), some (.int ((l5 + 1))), none] [] h) : VB g K 7 D mc ms Pr Pt kc ks 54 [some (.ref l0), some (.ref l1), some (.ref l2), some (.int l3), none, some (.int l5), none] [.int s1, .int s0] h := by
  obtain ⟨p, e, s, m, args, below, meth, c⟩ := K
  have X : CX g p s m args meth c cX8_whoGoesTo 7 yX8_whoGoesTo (some (.int)) [] := X
  have hz := hg s X.gk.z
  show VV g p e (rmm D mc ms) s m args below meth c 7 (QQ g below args s mc ms Pr Pt) kc ks 54 [some (.ref l0), some (.ref l1), some (.ref l2), some (.int l3), none, some (.int l5), none] [.int s1, .int s0] h
  refine r_ior X dX8_whoGoesTo_54 ?_
  refine r_istore X dX8_whoGoesTo_55 (by decide) rfl ?_
  refine r_iinc X dX8_whoGoesTo_57 rfl (v := (l5 + 1)) rfl (by decide) rfl ?_
  refine r_goto X dX8_whoGoesTo_60 (tgt := 6) (by decide) ?_
  refine VB_wk (ls' := [some (.ref l0), some (.ref l1), some (.ref l2), some (.int l3), some (.int ((s0 ||| s1))), some (.int ((l5 + 1))), none]) ?_ w
  exact (And.intro rfl (And.intro rfl (And.intro rfl (And.intro rfl (And.intro rfl (And.intro rfl trivial))))))

set_option maxRecDepth 10000 in
theorem b_X8_whoIsNext_0 {g : GG} {K : KX} {D mc ms : Nat} {Pr : Option Value → Hp → Prop} {Pt : String → Hp → Prop} {kc ks : Nat} (hg : GOK g) (hD : 8 ≤ D) (hk : kc ≤ mc ∧ ks ≤ ms) (X : CB g K cX8_whoIsNext 5 yX8_whoIsNext (some (.int)) []) (l0 : Nat) (l1 : Nat) (l2 : Nat) (l3 : Int32) (h : Hp)
    (w : VB g K 5 D mc ms Pr Pt kc ks 3 [some (.ref l0), some (.ref l1), some (.ref l2), some (.int l3), some (.int ((0 : Int32)))] [] h) : VB g K 5 D mc ms Pr Pt kc ks 0 [some (.ref l0), some (.ref l1), some (.ref l2), some (.int l3), none] [] h := by
  obtain ⟨p, e, s, m, args, below, meth, c⟩ := K
  have X : CX g p s m args meth c cX8_whoIsNext 5 yX8_whoIsNext (some (.int)) [] := X
  have hz := hg s X.gk.z
  show VV g p e (rmm D mc ms) s m args below meth c 5 (QQ g below args s mc ms Pr Pt) kc ks 0 [some (.ref l0), some (.ref l1), some (.ref l2), some (.int l3), none] [] h
  refine r_iconst X dX8_whoIsNext_0 (v := 0) (by decide) ?_
  refine r_istore X dX8_whoIsNext_1 (by decide) rfl ?_
  refine VB_wk (ls' := [some (.ref l0), some (.ref l1), some (.ref l2), some (.int l3), some (.int ((0 : Int32)))]) ?_ w
  exact (And.intro rfl (And.intro rfl (And.intro rfl (And.intro rfl (And.intro rfl trivial)))))

set_option maxRecDepth 10000 in
theorem b_X8_whoIsNext_3 {g : GG} {K : KX} {D mc ms : Nat} {Pr : Option Value → Hp → Prop} {Pt : String → Hp → Prop} {kc ks : Nat} (hg : GOK g) (hD : 8 ≤ D) (hk : kc ≤ mc ∧ ks ≤ ms) (X : CB g K cX8_whoIsNext 5 yX8_whoIsNext (some (.int)) []) (l0 : Nat) (l1 : Nat) (l2 : Nat) (l3 : Int32) (l4 : Int32) (h : Hp)
    (w : (∃ v1, gI h l1 9 1 = some v1 ∧ ((v1 ≤ l4 → Pr (some (.int ((-1 : Int32)))) h) ∧ (¬ v1 ≤ l4 → ((¬ ((l3 >>> (l4 &&& 31)) &&& (1 : Int32)) = 0 → VB g K 5 D mc ms Pr Pt kc ks 42 [some (.ref l0), some (.ref l1), some (.ref l2), some (.int l3), some (.int l4)] [] h) ∧ (((l3 >>> (l4 &&& 31)) &&& (1 : Int32)) = 0 → (∃ fs1, oF h l0 8 = some fs1 ∧ (∃ d1 P1 E1 m1 n1, CT g d1 yX8_stepsBy (wsC yX8_stepsBy cX8_stepsBy 6 (some (.int))) [.ref l0, .ref l1, .ref l2, .int l3, .int l4] h m1 n1 P1 E1 ∧ (d1 + 1 ≤ D ∧ kc + m1 ≤ mc ∧ ks + n1 ≤ ms) ∧ (∀ E h', E1 E h' → Pt E h') ∧ (∀ v h1, P1 v h1 → ∃ v3, v = some (.int v3) ∧ (∃ v4, gN h1 l0 8 0 = some v4 ∧ (∃ v5, aI h1 0 v4 l3 = some v5 ∧ ((¬ v3 = v5 → VB g K 5 D mc ms Pr Pt ((kc + m1)) ((ks + n1)) 42 [some (.ref l0), some (.ref l1), some (.ref l2), some (.int l3), some (.int l4)] [] h1) ∧ (v3 = v5 → Pr (some (.int l4)) h1))))))))))))) : VB g K 5 D mc ms Pr Pt kc ks 3 [some (.ref l0), some (.ref l1), some (.ref l2), some (.int l3), some (.int l4)] [] h := by
  obtain ⟨p, e, s, m, args, below, meth, c⟩ := K
  have X : CX g p s m args meth c cX8_whoIsNext 5 yX8_whoIsNext (some (.int)) [] := X
  have hz := hg s X.gk.z
  show VV g p e (rmm D mc ms) s m args below meth c 5 (QQ g below args s mc ms Pr Pt) kc ks 3 [some (.ref l0), some (.ref l1), some (.ref l2), some (.int l3), some (.int l4)] [] h
  refine r_iload X dX8_whoIsNext_3 rfl ?_
  refine r_aload_n X dX8_whoIsNext_5 rfl ?_
  obtain ⟨v1, ev1, w⟩ := w
  obtain ⟨fv1, cv1, qv1⟩ := gI_s ev1
  refine r_getf X dX8_whoIsNext_6 fl_X8_27 cv1 qv1 ?_
  refine r_icmp_ge X dX8_whoIsNext_9 (tgt := 48) (by decide) (fun q => ?_) (fun q => ?_)
  · have w := w.1 q
    refine r_iconst X dX8_whoIsNext_48 (v := -1) (by decide) ?_
    exact r_iret X dX8_whoIsNext_49 rfl w hk.1 hk.2
  · have w := w.2 q
    refine r_iload_n X dX8_whoIsNext_12 rfl ?_
    refine r_iload X dX8_whoIsNext_13 rfl ?_
    refine r_ishr X dX8_whoIsNext_15 ?_
    refine r_iconst X dX8_whoIsNext_16 (v := 1) (by decide) ?_
    refine r_iand X dX8_whoIsNext_17 ?_
    refine r_if_ne X dX8_whoIsNext_18 (tgt := 42) (by decide) (fun q => ?_) (fun q => ?_)
    · have w := w.1 q
      refine VB_wk (ls' := [some (.ref l0), some (.ref l1), some (.ref l2), some (.int l3), some (.int l4)]) ?_ w
      exact (And.intro rfl (And.intro rfl (And.intro rfl (And.intro rfl (And.intro rfl trivial)))))
    · have w := w.2 q
      refine r_aload_n X dX8_whoIsNext_21 rfl ?_
      refine r_aload_n X dX8_whoIsNext_22 rfl ?_
      refine r_aload_n X dX8_whoIsNext_23 rfl ?_
      refine r_iload_n X dX8_whoIsNext_24 rfl ?_
      refine r_iload X dX8_whoIsNext_25 rfl ?_
      obtain ⟨fs1, es1, w⟩ := w
      obtain ⟨d1, P1, E1, m1, n1, ct1, w⟩ := w
      obtain ⟨⟨x1, x2, x3⟩, w⟩ := w
      obtain ⟨x4, w⟩ := w
      refine r_callV X (As := [.ref l1, .ref l2, .int l3, .int l4]) dX8_whoIsNext_27 mk_X8_stepsBy ⟨ml_X8_40, im_X8_stepsBy, se_X8_stepsBy⟩ (oF_s es1) (ci_X8).1 rfl rfl rfl (by simp [Value.category]) ⟨x1, by show 60 * (d1 + 1) + 200 ≤ 60 * D + 200; omega⟩ ⟨x2, x3⟩ ct1 x4 (fun _ z => nomatch z) (fun _ => ⟨x2, x3⟩) (fun v h1 w1 => ?_)
      have w := w v h1 w1
      have hk : kc + m1 ≤ mc ∧ ks + n1 ≤ ms := ⟨x2, x3⟩
      obtain ⟨v3, rfl, w⟩ := w
      refine r_aload_n X dX8_whoIsNext_30 rfl ?_
      obtain ⟨v4, ev4, w⟩ := w
      obtain ⟨fv4, cv4, qv4⟩ := gN_s ev4
      refine r_getf X dX8_whoIsNext_31 fl_X8_9 cv4 qv4 ?_
      refine r_iload_n X dX8_whoIsNext_34 rfl ?_
      obtain ⟨v5, ev5, w⟩ := w
      obtain ⟨nv5, fv5, cv5, iv5, qv5⟩ := aI_s ev5
      refine r_iald X dX8_whoIsNext_35 cv5 iv5 ?_
      rw [qv5]
      refine r_icmp_ne X dX8_whoIsNext_36 (tgt := 42) (by decide) (fun q => ?_) (fun q => ?_)
      · have w := w.1 q
        refine VB_wk (ls' := [some (.ref l0), some (.ref l1), some (.ref l2), some (.int l3), some (.int l4)]) ?_ w
        exact (And.intro rfl (And.intro rfl (And.intro rfl (And.intro rfl (And.intro rfl trivial)))))
      · have w := w.2 q
        refine r_iload X dX8_whoIsNext_39 rfl ?_
        exact r_iret X dX8_whoIsNext_41 rfl w hk.1 hk.2

set_option maxRecDepth 10000 in
theorem b_X8_whoIsNext_42 {g : GG} {K : KX} {D mc ms : Nat} {Pr : Option Value → Hp → Prop} {Pt : String → Hp → Prop} {kc ks : Nat} (hg : GOK g) (hD : 8 ≤ D) (hk : kc ≤ mc ∧ ks ≤ ms) (X : CB g K cX8_whoIsNext 5 yX8_whoIsNext (some (.int)) []) (l0 : Nat) (l1 : Nat) (l2 : Nat) (l3 : Int32) (l4 : Int32) (h : Hp)
    (w : VB g K 5 D mc ms Pr Pt kc ks 3 [some (.ref l0), some (.ref l1), some (.ref l2), some (.int l3), some (.int ((l4 + 1)))] [] h) : VB g K 5 D mc ms Pr Pt kc ks 42 [some (.ref l0), some (.ref l1), some (.ref l2), some (.int l3), some (.int l4)] [] h := by
  obtain ⟨p, e, s, m, args, below, meth, c⟩ := K
  have X : CX g p s m args meth c cX8_whoIsNext 5 yX8_whoIsNext (some (.int)) [] := X
  have hz := hg s X.gk.z
  show VV g p e (rmm D mc ms) s m args below meth c 5 (QQ g below args s mc ms Pr Pt) kc ks 42 [some (.ref l0), some (.ref l1), some (.ref l2), some (.int l3), some (.int l4)] [] h
  refine r_iinc X dX8_whoIsNext_42 rfl (v := (l4 + 1)) rfl (by decide) rfl ?_
  refine r_goto X dX8_whoIsNext_45 (tgt := 3) (by decide) ?_
  refine VB_wk (ls' := [some (.ref l0), some (.ref l1), some (.ref l2), some (.int l3), some (.int ((l4 + 1)))]) ?_ w
  exact (And.intro rfl (And.intro rfl (And.intro rfl (And.intro rfl (And.intro rfl trivial)))))

set_option maxRecDepth 10000 in
theorem b_X9_after_0 {g : GG} {K : KX} {D mc ms : Nat} {Pr : Option Value → Hp → Prop} {Pt : String → Hp → Prop} {kc ks : Nat} (hg : GOK g) (hD : 8 ≤ D) (hk : kc ≤ mc ∧ ks ≤ ms) (X : CB g K cX9_after 2 yX9_after (some (.int)) []) (l0 : Nat) (l1 : Int32) (h : Hp)
    (w : (∃ v1, gI h l0 9 0 = some v1 ∧ (((l1 + (1 : Int32)) < v1 → Pr (some (.int ((l1 + (1 : Int32))))) h) ∧ (¬ (l1 + (1 : Int32)) < v1 → Pr (some (.int ((0 : Int32)))) h)))) : VB g K 2 D mc ms Pr Pt kc ks 0 [some (.ref l0), some (.int l1)] [] h := by
  obtain ⟨p, e, s, m, args, below, meth, c⟩ := K
  have X : CX g p s m args meth c cX9_after 2 yX9_after (some (.int)) [] := X
  have hz := hg s X.gk.z
  show VV g p e (rmm D mc ms) s m args below meth c 2 (QQ g below args s mc ms Pr Pt) kc ks 0 [some (.ref l0), some (.int l1)] [] h
  refine r_iload_n X dX9_after_0 rfl ?_
  refine r_iconst X dX9_after_1 (v := 1) (by decide) ?_
  refine r_iadd X dX9_after_2 ?_
  refine r_aload_n X dX9_after_3 rfl ?_
  obtain ⟨v1, ev1, w⟩ := w
  obtain ⟨fv1, cv1, qv1⟩ := gI_s ev1
  refine r_getf X dX9_after_4 fl_X9_42 cv1 qv1 ?_
  refine r_icmp_lt X dX9_after_7 (tgt := 14) (by decide) (fun q => ?_) (fun q => ?_)
  · have w := w.1 q
    refine r_iload_n X dX9_after_14 rfl ?_
    refine r_iconst X dX9_after_15 (v := 1) (by decide) ?_
    refine r_iadd X dX9_after_16 ?_
    exact r_iret X dX9_after_17 rfl w hk.1 hk.2
  · have w := w.2 q
    refine r_iconst X dX9_after_10 (v := 0) (by decide) ?_
    refine r_goto X dX9_after_11 (tgt := 17) (by decide) ?_
    exact r_iret X dX9_after_17 rfl w hk.1 hk.2

set_option maxRecDepth 10000 in
theorem b_X9_ahead_0 {g : GG} {K : KX} {D mc ms : Nat} {Pr : Option Value → Hp → Prop} {Pt : String → Hp → Prop} {kc ks : Nat} (hg : GOK g) (hD : 8 ≤ D) (hk : kc ≤ mc ∧ ks ≤ ms) (X : CB g K cX9_ahead 2 yX9_ahead (some (.int)) []) (l0 : Nat) (l1 : Int32) (h : Hp)
    (w : (((1 : Int32) ≤ l1 → Pr (some (.int ((l1 - (1 : Int32))))) h) ∧ (¬ (1 : Int32) ≤ l1 → (∃ v1, gI h l0 9 0 = some v1 ∧ Pr (some (.int ((v1 - (1 : Int32))))) h)))) : VB g K 2 D mc ms Pr Pt kc ks 0 [some (.ref l0), some (.int l1)] [] h := by
  obtain ⟨p, e, s, m, args, below, meth, c⟩ := K
  have X : CX g p s m args meth c cX9_ahead 2 yX9_ahead (some (.int)) [] := X
  have hz := hg s X.gk.z
  show VV g p e (rmm D mc ms) s m args below meth c 2 (QQ g below args s mc ms Pr Pt) kc ks 0 [some (.ref l0), some (.int l1)] [] h
  refine r_iload_n X dX9_ahead_0 rfl ?_
  refine r_iconst X dX9_ahead_1 (v := 1) (by decide) ?_
  refine r_icmp_ge X dX9_ahead_2 (tgt := 14) (by decide) (fun q => ?_) (fun q => ?_)
  · have w := w.1 q
    refine r_iload_n X dX9_ahead_14 rfl ?_
    refine r_iconst X dX9_ahead_15 (v := 1) (by decide) ?_
    refine r_isub X dX9_ahead_16 ?_
    exact r_iret X dX9_ahead_17 rfl w hk.1 hk.2
  · have w := w.2 q
    refine r_aload_n X dX9_ahead_5 rfl ?_
    obtain ⟨v1, ev1, w⟩ := w
    obtain ⟨fv1, cv1, qv1⟩ := gI_s ev1
    refine r_getf X dX9_ahead_6 fl_X9_42 cv1 qv1 ?_
    refine r_iconst X dX9_ahead_9 (v := 1) (by decide) ?_
    refine r_isub X dX9_ahead_10 ?_
    refine r_goto X dX9_ahead_11 (tgt := 17) (by decide) ?_
    exact r_iret X dX9_ahead_17 rfl w hk.1 hk.2

set_option maxRecDepth 10000 in
theorem b_X9_append_0 {g : GG} {K : KX} {D mc ms : Nat} {Pr : Option Value → Hp → Prop} {Pt : String → Hp → Prop} {kc ks : Nat} (hg : GOK g) (hD : 8 ≤ D) (hk : kc ≤ mc ∧ ks ≤ ms) (X : CB g K cX9_append 2 yX9_append none []) (l0 : Nat) (l1 : Int32) (h : Hp)
    (w : (∃ v1, gI h l0 9 10 = some v1 ∧ (∃ v2, gN h l0 9 9 = some v2 ∧ (∃ v3, lenA h v2 = some v3 ∧ ((v3 ≤ v1 → Pr none h) ∧ (¬ v3 ≤ v1 → (∃ v4, gN h l0 9 9 = some v4 ∧ (∃ v5, gI h l0 9 10 = some v5 ∧ (∃ h6, uI h 0 v4 v5 l1 = some h6 ∧ (∃ v7, gI h6 l0 9 10 = some v7 ∧ (∃ h8, pF h6 l0 9 10 (.int ((v7 + (1 : Int32)))) = some h8 ∧ Pr none h8))))))))))) : VB g K 2 D mc ms Pr Pt kc ks 0 [some (.ref l0), some (.int l1)] [] h := by
  obtain ⟨p, e, s, m, args, below, meth, c⟩ := K
  have X : CX g p s m args meth c cX9_append 2 yX9_append none [] := X
  have hz := hg s X.gk.z
  show VV g p e (rmm D mc ms) s m args below meth c 2 (QQ g below args s mc ms Pr Pt) kc ks 0 [some (.ref l0), some (.int l1)] [] h
  refine r_aload_n X dX9_append_0 rfl ?_
  obtain ⟨v1, ev1, w⟩ := w
  obtain ⟨fv1, cv1, qv1⟩ := gI_s ev1
  refine r_getf X dX9_append_1 fl_X9_61 cv1 qv1 ?_
  refine r_aload_n X dX9_append_4 rfl ?_
  obtain ⟨v2, ev2, w⟩ := w
  obtain ⟨fv2, cv2, qv2⟩ := gN_s ev2
  refine r_getf X dX9_append_5 fl_X9_36 cv2 qv2 ?_
  obtain ⟨v3, ev3, w⟩ := w
  obtain ⟨tv3, nv3, fv3, cv3, iv3, qv3⟩ := lenA_s ev3
  refine r_alen X dX9_append_8 cv3 iv3 ?_
  rw [qv3]
  refine r_icmp_ge X dX9_append_9 (tgt := 32) (by decide) (fun q => ?_) (fun q => ?_)
  · have w := w.1 q
    exact r_vret X dX9_append_32 rfl w hk.1 hk.2
  · have w := w.2 q
    refine r_aload_n X dX9_append_12 rfl ?_
    obtain ⟨v4, ev4, w⟩ := w
    obtain ⟨fv4, cv4, qv4⟩ := gN_s ev4
    refine r_getf X dX9_append_13 fl_X9_36 cv4 qv4 ?_
    refine r_aload_n X dX9_append_16 rfl ?_
    obtain ⟨v5, ev5, w⟩ := w
    obtain ⟨fv5, cv5, qv5⟩ := gI_s ev5
    refine r_getf X dX9_append_17 fl_X9_61 cv5 qv5 ?_
    refine r_iload_n X dX9_append_20 rfl ?_
    obtain ⟨h6, eh6, w⟩ := w
    obtain ⟨nh6, fh6, ch6, ih6, rh6⟩ := uI_s eh6
    subst rh6
    refine r_iast X dX9_append_21 ch6 ih6 ?_
    refine r_aload_n X dX9_append_22 rfl ?_
    refine r_dup X dX9_append_23 rfl ?_
    obtain ⟨v7, ev7, w⟩ := w
    obtain ⟨fv7, cv7, qv7⟩ := gI_s ev7
    refine r_getf X dX9_append_24 fl_X9_61 cv7 qv7 ?_
    refine r_iconst X dX9_append_27 (v := 1) (by decide) ?_
    refine r_iadd X dX9_append_28 ?_
    obtain ⟨h8, eh8, w⟩ := w
    obtain ⟨fh8, ch8, lh8, rh8⟩ := pF_s eh8
    subst rh8
    refine r_putf X dX9_append_29 fw_X9_61 ch8 lh8 rfl rfl ?_
    exact r_vret X dX9_append_32 rfl w hk.1 hk.2

set_option maxRecDepth 10000 in
theorem b_X9_begin_0 {g : GG} {K : KX} {D mc ms : Nat} {Pr : Option Value → Hp → Prop} {Pt : String → Hp → Prop} {kc ks : Nat} (hg : GOK g) (hD : 8 ≤ D) (hk : kc ≤ mc ∧ ks ≤ ms) (X : CB g K cX9_begin 2 yX9_begin none []) (l0 : Nat) (l1 : Nat) (h : Hp)
    (w : (isB ((1 : Int32)) ∧ (∃ h1, pF h l1 6 0 (.int ((1 : Int32))) = some h1 ∧ (∃ v2, gI h1 l0 9 10 = some v2 ∧ (∃ h3, pF h1 l1 6 1 (.int v2) = some h3 ∧ (∃ v4, gI h3 l0 9 10 = some v4 ∧ (∃ h5, pF h3 l1 6 2 (.int v4) = some h5 ∧ Pr none h5))))))) : VB g K 2 D mc ms Pr Pt kc ks 0 [some (.ref l0), some (.ref l1)] [] h := by
  obtain ⟨p, e, s, m, args, below, meth, c⟩ := K
  have X : CX g p s m args meth c cX9_begin 2 yX9_begin none [] := X
  have hz := hg s X.gk.z
  show VV g p e (rmm D mc ms) s m args below meth c 2 (QQ g below args s mc ms Pr Pt) kc ks 0 [some (.ref l0), some (.ref l1)] [] h
  refine r_aload_n X dX9_begin_0 rfl ?_
  refine r_iconst X dX9_begin_1 (v := 1) (by decide) ?_
  obtain ⟨bh1, w⟩ := w
  obtain ⟨h1, eh1, w⟩ := w
  obtain ⟨fh1, ch1, lh1, rh1⟩ := pF_s eh1
  subst rh1
  refine r_putf X dX9_begin_2 fw_X9_74 ch1 lh1 (isB_n bh1) (isB_f bh1) ?_
  refine r_aload_n X dX9_begin_5 rfl ?_
  refine r_aload_n X dX9_begin_6 rfl ?_
  obtain ⟨v2, ev2, w⟩ := w
  obtain ⟨fv2, cv2, qv2⟩ := gI_s ev2
  refine r_getf X dX9_begin_7 fl_X9_61 cv2 qv2 ?_
  obtain ⟨h3, eh3, w⟩ := w
  obtain ⟨fh3, ch3, lh3, rh3⟩ := pF_s eh3
  subst rh3
  refine r_putf X dX9_begin_10 fw_X9_77 ch3 lh3 rfl rfl ?_
  refine r_aload_n X dX9_begin_13 rfl ?_
  refine r_aload_n X dX9_begin_14 rfl ?_
  obtain ⟨v4, ev4, w⟩ := w
  obtain ⟨fv4, cv4, qv4⟩ := gI_s ev4
  refine r_getf X dX9_begin_15 fl_X9_61 cv4 qv4 ?_
  obtain ⟨h5, eh5, w⟩ := w
  obtain ⟨fh5, ch5, lh5, rh5⟩ := pF_s eh5
  subst rh5
  refine r_putf X dX9_begin_18 fw_X9_80 ch5 lh5 rfl rfl ?_
  exact r_vret X dX9_begin_21 rfl w hk.1 hk.2

set_option maxRecDepth 10000 in
theorem b_X9_clear_0 {g : GG} {K : KX} {D mc ms : Nat} {Pr : Option Value → Hp → Prop} {Pt : String → Hp → Prop} {kc ks : Nat} (hg : GOK g) (hD : 8 ≤ D) (hk : kc ≤ mc ∧ ks ≤ ms) (X : CB g K cX9_clear 1 yX9_clear none []) (l0 : Nat) (h : Hp)
    (w : (∃ h1, pF h l0 9 0 (.int ((0 : Int32))) = some h1 ∧ (∃ h2, pF h1 l0 9 1 (.int ((0 : Int32))) = some h2 ∧ (∃ h3, pF h2 l0 9 2 (.int ((7 : Int32))) = some h3 ∧ (isB ((0 : Int32)) ∧ (∃ h4, pF h3 l0 9 3 (.int ((0 : Int32))) = some h4 ∧ (isB ((0 : Int32)) ∧ (∃ h5, pF h4 l0 9 4 (.int ((0 : Int32))) = some h5 ∧ (∃ v6, gN h5 l0 9 6 = some v6 ∧ (∃ h7, pF h5 v6 1 0 (.int ((0 : Int32))) = some h7 ∧ (∃ v8, gN h7 l0 9 7 = some v8 ∧ (∃ fs8, oF h7 v8 6 = some fs8 ∧ (∃ d8 P8 E8 m8 n8, CT g d8 yX6_clear (wsC yX6_clear cX6_clear 1 none) [.ref v8] h7 m8 n8 P8 E8 ∧ (d8 + 1 ≤ D ∧ kc + m8 ≤ mc ∧ ks + n8 ≤ ms) ∧ (∀ E h', E8 E h' → Pt E h') ∧ (∀ v h8, P8 v h8 → v = none ∧ (∃ v10, gN h8 l0 9 8 = some v10 ∧ (∃ fs10, oF h8 v10 6 = some fs10 ∧ (∃ d10 P10 E10 m10 n10, CT g d10 yX6_clear (wsC yX6_clear cX6_clear 1 none) [.ref v10] h8 m10 n10 P10 E10 ∧ (d10 + 1 ≤ D ∧ (kc + m8) + m10 ≤ mc ∧ (ks + n8) + n10 ≤ ms) ∧ (∀ E h', E10 E h' → Pt E h') ∧ (∀ v h10, P10 v h10 → v = none ∧ (∃ h12, pF h10 l0 9 10 (.int ((0 : Int32))) = some h12 ∧ Pr none h12))))))))))))))))))) : VB g K 1 D mc ms Pr Pt kc ks 0 [some (.ref l0)] [] h := by
  obtain ⟨p, e, s, m, args, below, meth, c⟩ := K
  have X : CX g p s m args meth c cX9_clear 1 yX9_clear none [] := X
  have hz := hg s X.gk.z
  show VV g p e (rmm D mc ms) s m args below meth c 1 (QQ g below args s mc ms Pr Pt) kc ks 0 [some (.ref l0)] [] h
  refine r_aload_n X dX9_clear_0 rfl ?_
  refine r_iconst X dX9_clear_1 (v := 0) (by decide) ?_
  obtain ⟨h1, eh1, w⟩ := w
  obtain ⟨fh1, ch1, lh1, rh1⟩ := pF_s eh1
  subst rh1
  refine r_putf X dX9_clear_2 fw_X9_42 ch1 lh1 rfl rfl ?_
  refine r_aload_n X dX9_clear_5 rfl ?_
  refine r_iconst X dX9_clear_6 (v := 0) (by decide) ?_
  obtain ⟨h2, eh2, w⟩ := w
  obtain ⟨fh2, ch2, lh2, rh2⟩ := pF_s eh2
  subst rh2
  refine r_putf X dX9_clear_7 fw_X9_45 ch2 lh2 rfl rfl ?_
  refine r_aload_n X dX9_clear_10 rfl ?_
  refine r_bipush X dX9_clear_11 (v := 7) (by decide) ?_
  obtain ⟨h3, eh3, w⟩ := w
  obtain ⟨fh3, ch3, lh3, rh3⟩ := pF_s eh3
  subst rh3
  refine r_putf X dX9_clear_13 fw_X9_9 ch3 lh3 rfl rfl ?_
  refine r_aload_n X dX9_clear_16 rfl ?_
  refine r_iconst X dX9_clear_17 (v := 0) (by decide) ?_
  obtain ⟨bh4, w⟩ := w
  obtain ⟨h4, eh4, w⟩ := w
  obtain ⟨fh4, ch4, lh4, rh4⟩ := pF_s eh4
  subst rh4
  refine r_putf X dX9_clear_18 fw_X9_48 ch4 lh4 (isB_n bh4) (isB_f bh4) ?_
  refine r_aload_n X dX9_clear_21 rfl ?_
  refine r_iconst X dX9_clear_22 (v := 0) (by decide) ?_
  obtain ⟨bh5, w⟩ := w
  obtain ⟨h5, eh5, w⟩ := w
  obtain ⟨fh5, ch5, lh5, rh5⟩ := pF_s eh5
  subst rh5
  refine r_putf X dX9_clear_23 fw_X9_52 ch5 lh5 (isB_n bh5) (isB_f bh5) ?_
  refine r_aload_n X dX9_clear_26 rfl ?_
  obtain ⟨v6, ev6, w⟩ := w
  obtain ⟨fv6, cv6, qv6⟩ := gN_s ev6
  refine r_getf X dX9_clear_27 fl_X9_22 cv6 qv6 ?_
  refine r_iconst X dX9_clear_30 (v := 0) (by decide) ?_
  obtain ⟨h7, eh7, w⟩ := w
  obtain ⟨fh7, ch7, lh7, rh7⟩ := pF_s eh7
  subst rh7
  refine r_putf X dX9_clear_31 fw_X9_55 ch7 lh7 rfl rfl ?_
  refine r_aload_n X dX9_clear_34 rfl ?_
  obtain ⟨v8, ev8, w⟩ := w
  obtain ⟨fv8, cv8, qv8⟩ := gN_s ev8
  refine r_getf X dX9_clear_35 fl_X9_29 cv8 qv8 ?_
  obtain ⟨fs8, es8, w⟩ := w
  obtain ⟨d8, P8, E8, m8, n8, ct8, w⟩ := w
  obtain ⟨⟨x1, x2, x3⟩, w⟩ := w
  obtain ⟨x4, w⟩ := w
  refine r_callV X (As := []) dX9_clear_38 mk_X6_clear ⟨ml_X9_58, im_X6_clear, se_X6_clear⟩ (oF_s es8) (ci_X6).1 rfl rfl rfl (by simp [Value.category]) ⟨x1, by show 60 * (d8 + 1) + 200 ≤ 60 * D + 200; omega⟩ ⟨x2, x3⟩ ct8 x4 (fun _ z => nomatch z) (fun _ => ⟨x2, x3⟩) (fun v h8 w1 => ?_)
  have w := w v h8 w1
  have hk : kc + m8 ≤ mc ∧ ks + n8 ≤ ms := ⟨x2, x3⟩
  obtain ⟨rfl, w⟩ := w
  refine r_aload_n X dX9_clear_41 rfl ?_
  obtain ⟨v10, ev10, w⟩ := w
  obtain ⟨fv10, cv10, qv10⟩ := gN_s ev10
  refine r_getf X dX9_clear_42 fl_X9_33 cv10 qv10 ?_
  obtain ⟨fs10, es10, w⟩ := w
  obtain ⟨d10, P10, E10, m10, n10, ct10, w⟩ := w
  obtain ⟨⟨x1, x2, x3⟩, w⟩ := w
  obtain ⟨x4, w⟩ := w
  refine r_callV X (As := []) dX9_clear_45 mk_X6_clear ⟨ml_X9_58, im_X6_clear, se_X6_clear⟩ (oF_s es10) (ci_X6).1 rfl rfl rfl (by simp [Value.category]) ⟨x1, by show 60 * (d10 + 1) + 200 ≤ 60 * D + 200; omega⟩ ⟨x2, x3⟩ ct10 x4 (fun _ z => nomatch z) (fun _ => ⟨x2, x3⟩) (fun v h10 w1 => ?_)
  have w := w v h10 w1
  have hk : (kc + m8) + m10 ≤ mc ∧ (ks + n8) + n10 ≤ ms := ⟨x2, x3⟩
  obtain ⟨rfl, w⟩ := w
  refine r_aload_n X dX9_clear_48 rfl ?_
  refine r_iconst X dX9_clear_49 (v := 0) (by decide) ?_
  obtain ⟨h12, eh12, w⟩ := w
  obtain ⟨fh12, ch12, lh12, rh12⟩ := pF_s eh12
  subst rh12
  refine r_putf X dX9_clear_50 fw_X9_61 ch12 lh12 rfl rfl ?_
  exact r_vret X dX9_clear_53 rfl w hk.1 hk.2

set_option maxRecDepth 10000 in
theorem b_X9_end_0 {g : GG} {K : KX} {D mc ms : Nat} {Pr : Option Value → Hp → Prop} {Pt : String → Hp → Prop} {kc ks : Nat} (hg : GOK g) (hD : 8 ≤ D) (hk : kc ≤ mc ∧ ks ≤ ms) (X : CB g K cX9_end 2 yX9_end none []) (l0 : Nat) (l1 : Nat) (h : Hp)
    (w : (∃ v1, gI h l0 9 10 = some v1 ∧ (∃ h2, pF h l1 6 2 (.int v1) = some h2 ∧ Pr none h2))) : VB g K 2 D mc ms Pr Pt kc ks 0 [some (.ref l0), some (.ref l1)] [] h := by
  obtain ⟨p, e, s, m, args, below, meth, c⟩ := K
  have X : CX g p s m args meth c cX9_end 2 yX9_end none [] := X
  have hz := hg s X.gk.z
  show VV g p e (rmm D mc ms) s m args below meth c 2 (QQ g below args s mc ms Pr Pt) kc ks 0 [some (.ref l0), some (.ref l1)] [] h
  refine r_aload_n X dX9_end_0 rfl ?_
  refine r_aload_n X dX9_end_1 rfl ?_
  obtain ⟨v1, ev1, w⟩ := w
  obtain ⟨fv1, cv1, qv1⟩ := gI_s ev1
  refine r_getf X dX9_end_2 fl_X9_61 cv1 qv1 ?_
  obtain ⟨h2, eh2, w⟩ := w
  obtain ⟨fh2, ch2, lh2, rh2⟩ := pF_s eh2
  subst rh2
  refine r_putf X dX9_end_5 fw_X9_80 ch2 lh2 rfl rfl ?_
  exact r_vret X dX9_end_8 rfl w hk.1 hk.2

set_option maxRecDepth 10000 in
theorem b_X9_init_0 {g : GG} {K : KX} {D mc ms : Nat} {Pr : Option Value → Hp → Prop} {Pt : String → Hp → Prop} {kc ks : Nat} (hg : GOK g) (hD : 8 ≤ D) (hk : kc ≤ mc ∧ ks ≤ ms) (X : CB g K cX9_init 1 yX9_init none []) (l0 : Nat) (h : Hp)
    (w : (∃ h1, pF h l0 9 2 (.int ((7 : Int32))) = some h1 ∧ ((kc + 1 ≤ mc ∧ ks + 6 ≤ ms) ∧ (∃ h3, pF ((h1 ++ [arr0 0 6])) l0 9 5 (.ref ((h1).length)) = some h3 ∧ (((kc + 1) + 1 ≤ mc ∧ (ks + 6) + 6 ≤ ms) ∧ (∃ d4 P4 m4 n4, CT g d4 yX1_init (wsC yX1_init cX1_init 1 none) [.ref ((h3).length)] ((h3 ++ [.inr (1, [.int 0, .null, .null, .null, .null, .null])])) m4 n4 P4 noT ∧ (d4 + 1 ≤ D ∧ ((kc + 1) + 1) + m4 ≤ mc ∧ ((ks + 6) + 6) + n4 ≤ ms) ∧ (∀ v h4, P4 v h4 → v = none ∧ (∃ h6, pF h4 l0 9 6 (.ref ((h3).length)) = some h6 ∧ (((((kc + 1) + 1) + m4) + 1 ≤ mc ∧ (((ks + 6) + 6) + n4) + 3 ≤ ms) ∧ (∃ d7 P7 m7 n7, CT g d7 yX6_init (wsC yX6_init cX6_init 1 none) [.ref ((h6).length)] ((h6 ++ [.inr (6, [.int 0, .int 0, .int 0])])) m7 n7 P7 noT ∧ (d7 + 1 ≤ D ∧ ((((kc + 1) + 1) + m4) + 1) + m7 ≤ mc ∧ ((((ks + 6) + 6) + n4) + 3) + n7 ≤ ms) ∧ (∀ v h7, P7 v h7 → v = none ∧ (∃ h9, pF h7 l0 9 7 (.ref ((h6).length)) = some h9 ∧ (((((((kc + 1) + 1) + m4) + 1) + m7) + 1 ≤ mc ∧ (((((ks + 6) + 6) + n4) + 3) + n7) + 3 ≤ ms) ∧ (∃ d10 P10 m10 n10, CT g d10 yX6_init (wsC yX6_init cX6_init 1 none) [.ref ((h9).length)] ((h9 ++ [.inr (6, [.int 0, .int 0, .int 0])])) m10 n10 P10 noT ∧ (d10 + 1 ≤ D ∧ ((((((kc + 1) + 1) + m4) + 1) + m7) + 1) + m10 ≤ mc ∧ ((((((ks + 6) + 6) + n4) + 3) + n7) + 3) + n10 ≤ ms) ∧ (∀ v h10, P10 v h10 → v = none ∧ (∃ h12, pF h10 l0 9 8 (.ref ((h9).length)) = some h12 ∧ (((((((((kc + 1) + 1) + m4) + 1) + m7) + 1) + m10) + 1 ≤ mc ∧ (((((((ks + 6) + 6) + n4) + 3) + n7) + 3) + n10) + 700 ≤ ms) ∧ (∃ h14, pF ((h12 ++ [arr0 0 700])) l0 9 9 (.ref ((h12).length)) = some h14 ∧ ((((((((((kc + 1) + 1) + m4) + 1) + m7) + 1) + m10) + 1) + 1 ≤ mc ∧ ((((((((ks + 6) + 6) + n4) + 3) + n7) + 3) + n10) + 700) + 64 ≤ ms) ∧ (∃ h16, pF ((h14 ++ [arr0 0 64])) l0 9 11 (.ref ((h14).length)) = some h16 ∧ Pr none h16)))))))))))))))))))) : VB g K 1 D mc ms Pr Pt kc ks 0 [some (.ref l0)] [] h := by
  obtain ⟨p, e, s, m, args, below, meth, c⟩ := K
  have X : CX g p s m args meth c cX9_init 1 yX9_init none [] := X
  have hz := hg s X.gk.z
  show VV g p e (rmm D mc ms) s m args below meth c 1 (QQ g below args s mc ms Pr Pt) kc ks 0 [some (.ref l0)] [] h
  refine r_aload_n X dX9_init_0 rfl ?_
  refine r_objInit X dX9_init_1 ob_X9_3 (by show 1 ≤ D; omega) (by simp [rmm, Value.category]) ?_
  refine r_aload_n X dX9_init_4 rfl ?_
  refine r_bipush X dX9_init_5 (v := 7) (by decide) ?_
  obtain ⟨h1, eh1, w⟩ := w
  obtain ⟨fh1, ch1, lh1, rh1⟩ := pF_s eh1
  subst rh1
  refine r_putf X dX9_init_7 fw_X9_9 ch1 lh1 rfl rfl ?_
  refine r_aload_n X dX9_init_10 rfl ?_
  refine r_bipush X dX9_init_11 (v := 6) (by decide) ?_
  obtain ⟨q2, w⟩ := w
  refine r_newa X dX9_init_13 (t := 0) (N := 6) (by decide) rfl ar_int (by decide) (by decide) (by decide) q2.1 q2.2 ?_
  have hk : (kc + 1) ≤ mc ∧ (ks + 6) ≤ ms := q2
  obtain ⟨h3, eh3, w⟩ := w
  obtain ⟨fh3, ch3, lh3, rh3⟩ := pF_s eh3
  subst rh3
  refine r_putF X dX9_init_15 fw_X9_15 rfl ch3 lh3 rfl rfl ?_
  refine r_aload_n X dX9_init_18 rfl ?_
  obtain ⟨q4, w⟩ := w
  refine r_new X dX9_init_19 ci_X1 nc_X9_19 (fs := [.int 0, .null, .null, .null, .null, .null]) rfl q4.1 q4.2 ?_
  have hk : ((kc + 1) + 1) ≤ mc ∧ ((ks + 6) + 6) ≤ ms := q4
  refine r_dup X dX9_init_22 rfl ?_
  obtain ⟨d4, P4, m4, n4, ct4, w⟩ := w
  obtain ⟨⟨x1, x2, x3⟩, w⟩ := w
  refine r_callIN X (As := []) dX9_init_23 mk_X1_init im_X1_init (hz.2.2.1 (.methodLinkNest RX9 21 yX1_init "HorizonSeam") (by decide +kernel)) rfl rfl rfl (by simp [Value.category]) ⟨x1, by show 60 * (d4 + 1) + 200 ≤ 60 * D + 200; omega⟩ ⟨x2, x3⟩ ct4 (fun v h4 w1 => ?_)
  have w := w v h4 w1
  have hk : ((kc + 1) + 1) + m4 ≤ mc ∧ ((ks + 6) + 6) + n4 ≤ ms := ⟨x2, x3⟩
  obtain ⟨rfl, w⟩ := w
  obtain ⟨h6, eh6, w⟩ := w
  obtain ⟨fh6, ch6, lh6, rh6⟩ := pF_s eh6
  subst rh6
  refine r_putF X dX9_init_26 fw_X9_22 rfl ch6 lh6 rfl rfl ?_
  refine r_aload_n X dX9_init_29 rfl ?_
  obtain ⟨q7, w⟩ := w
  refine r_new X dX9_init_30 ci_X6 nc_X9_26 (fs := [.int 0, .int 0, .int 0]) rfl q7.1 q7.2 ?_
  have hk : ((((kc + 1) + 1) + m4) + 1) ≤ mc ∧ ((((ks + 6) + 6) + n4) + 3) ≤ ms := q7
  refine r_dup X dX9_init_33 rfl ?_
  obtain ⟨d7, P7, m7, n7, ct7, w⟩ := w
  obtain ⟨⟨x1, x2, x3⟩, w⟩ := w
  refine r_callIN X (As := []) dX9_init_34 mk_X6_init im_X6_init (hz.2.2.1 (.methodLinkNest RX9 28 yX6_init "HorizonSeam") (by decide +kernel)) rfl rfl rfl (by simp [Value.category]) ⟨x1, by show 60 * (d7 + 1) + 200 ≤ 60 * D + 200; omega⟩ ⟨x2, x3⟩ ct7 (fun v h7 w1 => ?_)
  have w := w v h7 w1
  have hk : ((((kc + 1) + 1) + m4) + 1) + m7 ≤ mc ∧ ((((ks + 6) + 6) + n4) + 3) + n7 ≤ ms := ⟨x2, x3⟩
  obtain ⟨rfl, w⟩ := w
  obtain ⟨h9, eh9, w⟩ := w
  obtain ⟨fh9, ch9, lh9, rh9⟩ := pF_s eh9
  subst rh9
  refine r_putF X dX9_init_37 fw_X9_29 rfl ch9 lh9 rfl rfl ?_
  refine r_aload_n X dX9_init_40 rfl ?_
  obtain ⟨q10, w⟩ := w
  refine r_new X dX9_init_41 ci_X6 nc_X9_26 (fs := [.int 0, .int 0, .int 0]) rfl q10.1 q10.2 ?_
  have hk : ((((((kc + 1) + 1) + m4) + 1) + m7) + 1) ≤ mc ∧ ((((((ks + 6) + 6) + n4) + 3) + n7) + 3) ≤ ms := q10
  refine r_dup X dX9_init_44 rfl ?_
  obtain ⟨d10, P10, m10, n10, ct10, w⟩ := w
  obtain ⟨⟨x1, x2, x3⟩, w⟩ := w
  refine r_callIN X (As := []) dX9_init_45 mk_X6_init im_X6_init (hz.2.2.1 (.methodLinkNest RX9 28 yX6_init "HorizonSeam") (by decide +kernel)) rfl rfl rfl (by simp [Value.category]) ⟨x1, by show 60 * (d10 + 1) + 200 ≤ 60 * D + 200; omega⟩ ⟨x2, x3⟩ ct10 (fun v h10 w1 => ?_)
  have w := w v h10 w1
  have hk : ((((((kc + 1) + 1) + m4) + 1) + m7) + 1) + m10 ≤ mc ∧ ((((((ks + 6) + 6) + n4) + 3) + n7) + 3) + n10 ≤ ms := ⟨x2, x3⟩
  obtain ⟨rfl, w⟩ := w
  obtain ⟨h12, eh12, w⟩ := w
  obtain ⟨fh12, ch12, lh12, rh12⟩ := pF_s eh12
  subst rh12
  refine r_putF X dX9_init_48 fw_X9_33 rfl ch12 lh12 rfl rfl ?_
  refine r_aload_n X dX9_init_51 rfl ?_
  refine r_sipush X dX9_init_52 (v := 700) (by decide) ?_
  obtain ⟨q13, w⟩ := w
  refine r_newa X dX9_init_55 (t := 0) (N := 700) (by decide) rfl ar_int (by decide) (by decide) (by decide) q13.1 q13.2 ?_
  have hk : ((((((((kc + 1) + 1) + m4) + 1) + m7) + 1) + m10) + 1) ≤ mc ∧ ((((((((ks + 6) + 6) + n4) + 3) + n7) + 3) + n10) + 700) ≤ ms := q13
  obtain ⟨h14, eh14, w⟩ := w
  obtain ⟨fh14, ch14, lh14, rh14⟩ := pF_s eh14
  subst rh14
  refine r_putF X dX9_init_57 fw_X9_36 rfl ch14 lh14 rfl rfl ?_
  refine r_aload_n X dX9_init_60 rfl ?_
  refine r_bipush X dX9_init_61 (v := 64) (by decide) ?_
  obtain ⟨q15, w⟩ := w
  refine r_newa X dX9_init_63 (t := 0) (N := 64) (by decide) rfl ar_int (by decide) (by decide) (by decide) q15.1 q15.2 ?_
  have hk : (((((((((kc + 1) + 1) + m4) + 1) + m7) + 1) + m10) + 1) + 1) ≤ mc ∧ (((((((((ks + 6) + 6) + n4) + 3) + n7) + 3) + n10) + 700) + 64) ≤ ms := q15
  obtain ⟨h16, eh16, w⟩ := w
  obtain ⟨fh16, ch16, lh16, rh16⟩ := pF_s eh16
  subst rh16
  refine r_putF X dX9_init_65 fw_X9_39 rfl ch16 lh16 rfl rfl ?_
  exact r_vret X dX9_init_68 rfl w hk.1 hk.2

set_option maxRecDepth 10000 in
theorem b_X9_isThursday_0 {g : GG} {K : KX} {D mc ms : Nat} {Pr : Option Value → Hp → Prop} {Pt : String → Hp → Prop} {kc ks : Nat} (hg : GOK g) (hD : 8 ≤ D) (hk : kc ≤ mc ∧ ks ≤ ms) (X : CB g K cX9_isThursday 2 yX9_isThursday (some (.boolean)) []) (l0 : Nat) (l1 : Int32) (h : Hp)
    (w : (∃ v1, gI h l0 9 2 = some v1 ∧ ((v1 ≤ 0 → (isB ((0 : Int32)) ∧ Pr (some (.int ((0 : Int32)))) h)) ∧ (¬ v1 ≤ 0 → (∃ v2, gI h l0 9 2 = some v2 ∧ (¬ v2 = 0 ∧ (∃ v4, gI h l0 9 2 = some v4 ∧ ((¬ (l1 - l1 / v2 * v2) = (v4 - (1 : Int32)) → (isB ((0 : Int32)) ∧ Pr (some (.int ((0 : Int32)))) h)) ∧ ((l1 - l1 / v2 * v2) = (v4 - (1 : Int32)) → (isB ((1 : Int32)) ∧ Pr (some (.int ((1 : Int32)))) h)))))))))) : VB g K 2 D mc ms Pr Pt kc ks 0 [some (.ref l0), some (.int l1)] [] h := by
  obtain ⟨p, e, s, m, args, below, meth, c⟩ := K
  have X : CX g p s m args meth c cX9_isThursday 2 yX9_isThursday (some (.boolean)) [] := X
  have hz := hg s X.gk.z
  show VV g p e (rmm D mc ms) s m args below meth c 2 (QQ g below args s mc ms Pr Pt) kc ks 0 [some (.ref l0), some (.int l1)] [] h
  refine r_aload_n X dX9_isThursday_0 rfl ?_
  obtain ⟨v1, ev1, w⟩ := w
  obtain ⟨fv1, cv1, qv1⟩ := gI_s ev1
  refine r_getf X dX9_isThursday_1 fl_X9_9 cv1 qv1 ?_
  refine r_if_le X dX9_isThursday_4 (tgt := 26) (by decide) (fun q => ?_) (fun q => ?_)
  · have w := w.1 q
    refine r_iconst X dX9_isThursday_26 (v := 0) (by decide) ?_
    exact r_zret X dX9_isThursday_27 rfl (isB_n w.1) w.2 hk.1 hk.2
  · have w := w.2 q
    refine r_iload_n X dX9_isThursday_7 rfl ?_
    refine r_aload_n X dX9_isThursday_8 rfl ?_
    obtain ⟨v2, ev2, w⟩ := w
    obtain ⟨fv2, cv2, qv2⟩ := gI_s ev2
    refine r_getf X dX9_isThursday_9 fl_X9_9 cv2 qv2 ?_
    obtain ⟨q3, w⟩ := w
    refine r_irem X dX9_isThursday_12 q3 ?_
    refine r_aload_n X dX9_isThursday_13 rfl ?_
    obtain ⟨v4, ev4, w⟩ := w
    obtain ⟨fv4, cv4, qv4⟩ := gI_s ev4
    refine r_getf X dX9_isThursday_14 fl_X9_9 cv4 qv4 ?_
    refine r_iconst X dX9_isThursday_17 (v := 1) (by decide) ?_
    refine r_isub X dX9_isThursday_18 ?_
    refine r_icmp_ne X dX9_isThursday_19 (tgt := 26) (by decide) (fun q => ?_) (fun q => ?_)
    · have w := w.1 q
      refine r_iconst X dX9_isThursday_26 (v := 0) (by decide) ?_
      exact r_zret X dX9_isThursday_27 rfl (isB_n w.1) w.2 hk.1 hk.2
    · have w := w.2 q
      refine r_iconst X dX9_isThursday_22 (v := 1) (by decide) ?_
      refine r_goto X dX9_isThursday_23 (tgt := 27) (by decide) ?_
      exact r_zret X dX9_isThursday_27 rfl (isB_n w.1) w.2 hk.1 hk.2

set_option maxRecDepth 10000 in
theorem b_X9_join_0 {g : GG} {K : KX} {D mc ms : Nat} {Pr : Option Value → Hp → Prop} {Pt : String → Hp → Prop} {kc ks : Nat} (hg : GOK g) (hD : 8 ≤ D) (hk : kc ≤ mc ∧ ks ≤ ms) (X : CB g K cX9_join 3 yX9_join (some (.int)) []) (l0 : Int32) (l1 : Int32) (l2 : Int32) (h : Hp)
    (w : ((((l0).toInt < -14 ∨ -8 < (l0).toInt) → ((¬ l2 = 0 → (¬ l2 = 0 ∧ Pr (some (.int ((l1 / l2)))) h)) ∧ (l2 = 0 → Pr (some (.int ((0 : Int32)))) h))) ∧ (((l0).toInt = -14 → Pr (some (.int ((l1 * l2)))) h) ∧ (((l0).toInt = -13 → Pr (some (.int ((l1 - l2)))) h) ∧ (((l0).toInt = -12 → Pr (some (.int ((l1 + l2)))) h) ∧ (((l0).toInt = -11 → ((¬ l1 = l2 → Pr (some (.int ((0 : Int32)))) h) ∧ (l1 = l2 → Pr (some (.int ((1 : Int32)))) h))) ∧ (((l0).toInt = -10 → ((l2 ≤ l1 → Pr (some (.int ((0 : Int32)))) h) ∧ (¬ l2 ≤ l1 → Pr (some (.int ((1 : Int32)))) h))) ∧ (((l0).toInt = -9 → ((l1 = 0 → Pr (some (.int ((0 : Int32)))) h) ∧ (¬ l1 = 0 → ((l2 = 0 → Pr (some (.int ((0 : Int32)))) h) ∧ (¬ l2 = 0 → Pr (some (.int ((1 : Int32)))) h))))) ∧ ((l0).toInt = -8 → ((¬ l1 = 0 → VB g K 3 D mc ms Pr Pt kc ks 52 [none, none, none] [] h) ∧ (l1 = 0 → ((l2 = 0 → Pr (some (.int ((0 : Int32)))) h) ∧ (¬ l2 = 0 → VB g K 3 D mc ms Pr Pt kc ks 52 [none, none, none] [] h))))))))))))) : VB g K 3 D mc ms Pr Pt kc ks 0 [some (.int l0), some (.int l1), some (.int l2)] [] h := by
  obtain ⟨p, e, s, m, args, below, meth, c⟩ := K
  have X : CX g p s m args meth c cX9_join 3 yX9_join (some (.int)) [] := X
  have hz := hg s X.gk.z
  show VV g p e (rmm D mc ms) s m args below meth c 3 (QQ g below args s mc ms Pr Pt) kc ks 0 [some (.int l0), some (.int l1), some (.int l2)] [] h
  refine r_iload_n X dX9_join_0 rfl ?_
  refine r_table X dX9_join_1 (tgt := 106) (fun k => [102, 98, 94, 83, 72, 58, 44].getD k 0) (fun _ => by decide) (fun k y1 y2 y3 => ?_) (fun q => ?_) (fun k y1 y2 y3 => ?_)
  · rcases (by omega : k = 0 ∨ k = 1 ∨ k = 2 ∨ k = 3 ∨ k = 4 ∨ k = 5 ∨ k = 6) with rfl | rfl | rfl | rfl | rfl | rfl | rfl <;> exact ⟨_, rfl, by decide⟩
  · have w := w.1 q
    refine r_iload_n X dX9_join_106 rfl ?_
    refine r_if_ne X dX9_join_107 (tgt := 114) (by decide) (fun q => ?_) (fun q => ?_)
    · have w := w.1 q
      refine r_iload_n X dX9_join_114 rfl ?_
      refine r_iload_n X dX9_join_115 rfl ?_
      obtain ⟨q1, w⟩ := w
      refine r_idiv X dX9_join_116 q1 ?_
      exact r_iret X dX9_join_117 rfl w hk.1 hk.2
    · have w := w.2 q
      refine r_iconst X dX9_join_110 (v := 0) (by decide) ?_
      refine r_goto X dX9_join_111 (tgt := 117) (by decide) ?_
      exact r_iret X dX9_join_117 rfl w hk.1 hk.2
  · rcases (by omega : k = 0 ∨ k = 1 ∨ k = 2 ∨ k = 3 ∨ k = 4 ∨ k = 5 ∨ k = 6) with rfl | rfl | rfl | rfl | rfl | rfl | rfl
    · have w := w.2.1 (by omega)
      refine r_iload_n X dX9_join_102 rfl ?_
      refine r_iload_n X dX9_join_103 rfl ?_
      refine r_imul X dX9_join_104 ?_
      exact r_iret X dX9_join_105 rfl w hk.1 hk.2
    · have w := w.2.2.1 (by omega)
      refine r_iload_n X dX9_join_98 rfl ?_
      refine r_iload_n X dX9_join_99 rfl ?_
      refine r_isub X dX9_join_100 ?_
      exact r_iret X dX9_join_101 rfl w hk.1 hk.2
    · have w := w.2.2.2.1 (by omega)
      refine r_iload_n X dX9_join_94 rfl ?_
      refine r_iload_n X dX9_join_95 rfl ?_
      refine r_iadd X dX9_join_96 ?_
      exact r_iret X dX9_join_97 rfl w hk.1 hk.2
    · have w := w.2.2.2.2.1 (by omega)
      refine r_iload_n X dX9_join_83 rfl ?_
      refine r_iload_n X dX9_join_84 rfl ?_
      refine r_icmp_ne X dX9_join_85 (tgt := 92) (by decide) (fun q => ?_) (fun q => ?_)
      · have w := w.1 q
        refine r_iconst X dX9_join_92 (v := 0) (by decide) ?_
        exact r_iret X dX9_join_93 rfl w hk.1 hk.2
      · have w := w.2 q
        refine r_iconst X dX9_join_88 (v := 1) (by decide) ?_
        refine r_goto X dX9_join_89 (tgt := 93) (by decide) ?_
        exact r_iret X dX9_join_93 rfl w hk.1 hk.2
    · have w := w.2.2.2.2.2.1 (by omega)
      refine r_iload_n X dX9_join_72 rfl ?_
      refine r_iload_n X dX9_join_73 rfl ?_
      refine r_icmp_ge X dX9_join_74 (tgt := 81) (by decide) (fun q => ?_) (fun q => ?_)
      · have w := w.1 q
        refine r_iconst X dX9_join_81 (v := 0) (by decide) ?_
        exact r_iret X dX9_join_82 rfl w hk.1 hk.2
      · have w := w.2 q
        refine r_iconst X dX9_join_77 (v := 1) (by decide) ?_
        refine r_goto X dX9_join_78 (tgt := 82) (by decide) ?_
        exact r_iret X dX9_join_82 rfl w hk.1 hk.2
    · have w := w.2.2.2.2.2.2.1 (by omega)
      refine r_iload_n X dX9_join_58 rfl ?_
      refine r_if_eq X dX9_join_59 (tgt := 70) (by decide) (fun q => ?_) (fun q => ?_)
      · have w := w.1 q
        refine r_iconst X dX9_join_70 (v := 0) (by decide) ?_
        exact r_iret X dX9_join_71 rfl w hk.1 hk.2
      · have w := w.2 q
        refine r_iload_n X dX9_join_62 rfl ?_
        refine r_if_eq X dX9_join_63 (tgt := 70) (by decide) (fun q => ?_) (fun q => ?_)
        · have w := w.1 q
          refine r_iconst X dX9_join_70 (v := 0) (by decide) ?_
          exact r_iret X dX9_join_71 rfl w hk.1 hk.2
        · have w := w.2 q
          refine r_iconst X dX9_join_66 (v := 1) (by decide) ?_
          refine r_goto X dX9_join_67 (tgt := 71) (by decide) ?_
          exact r_iret X dX9_join_71 rfl w hk.1 hk.2
    · have w := w.2.2.2.2.2.2.2 (by omega)
      refine r_iload_n X dX9_join_44 rfl ?_
      refine r_if_ne X dX9_join_45 (tgt := 52) (by decide) (fun q => ?_) (fun q => ?_)
      · have w := w.1 q
        refine VB_wk (ls' := [none, none, none]) ?_ w
        exact trivial
      · have w := w.2 q
        refine r_iload_n X dX9_join_48 rfl ?_
        refine r_if_eq X dX9_join_49 (tgt := 56) (by decide) (fun q => ?_) (fun q => ?_)
        · have w := w.1 q
          refine r_iconst X dX9_join_56 (v := 0) (by decide) ?_
          exact r_iret X dX9_join_57 rfl w hk.1 hk.2
        · have w := w.2 q
          refine VB_wk (ls' := [none, none, none]) ?_ w
          exact trivial

set_option maxRecDepth 10000 in
theorem b_X9_join_52 {g : GG} {K : KX} {D mc ms : Nat} {Pr : Option Value → Hp → Prop} {Pt : String → Hp → Prop} {kc ks : Nat} (hg : GOK g) (hD : 8 ≤ D) (hk : kc ≤ mc ∧ ks ≤ ms) (X : CB g K cX9_join 3 yX9_join (some (.int)) [])  (h : Hp)
    (w : Pr (some (.int ((1 : Int32)))) h) : VB g K 3 D mc ms Pr Pt kc ks 52 [none, none, none] [] h := by
  obtain ⟨p, e, s, m, args, below, meth, c⟩ := K
  have X : CX g p s m args meth c cX9_join 3 yX9_join (some (.int)) [] := X
  have hz := hg s X.gk.z
  show VV g p e (rmm D mc ms) s m args below meth c 3 (QQ g below args s mc ms Pr Pt) kc ks 52 [none, none, none] [] h
  refine r_iconst X dX9_join_52 (v := 1) (by decide) ?_
  refine r_goto X dX9_join_53 (tgt := 57) (by decide) ?_
  exact r_iret X dX9_join_57 rfl w hk.1 hk.2

set_option maxRecDepth 10000 in
theorem b_X9_steps_0 {g : GG} {K : KX} {D mc ms : Nat} {Pr : Option Value → Hp → Prop} {Pt : String → Hp → Prop} {kc ks : Nat} (hg : GOK g) (hD : 8 ≤ D) (hk : kc ≤ mc ∧ ks ≤ ms) (X : CB g K cX9_steps 4 yX9_steps (some (.int)) []) (l0 : Nat) (l1 : Int32) (l2 : Int32) (h : Hp)
    (w : (∃ v1, gI h l0 9 0 = some v1 ∧ Pr (some (.int ((if (v1 - (if 0 ≤ (l1 - l2) then (l1 - l2) else 0 - (l1 - l2))) < (if 0 ≤ (l1 - l2) then (l1 - l2) else 0 - (l1 - l2)) then (v1 - (if 0 ≤ (l1 - l2) then (l1 - l2) else 0 - (l1 - l2))) else (if 0 ≤ (l1 - l2) then (l1 - l2) else 0 - (l1 - l2)))))) h)) : VB g K 4 D mc ms Pr Pt kc ks 0 [some (.ref l0), some (.int l1), some (.int l2), none] [] h := by
  obtain ⟨p, e, s, m, args, below, meth, c⟩ := K
  have X : CX g p s m args meth c cX9_steps 4 yX9_steps (some (.int)) [] := X
  have hz := hg s X.gk.z
  show VV g p e (rmm D mc ms) s m args below meth c 4 (QQ g below args s mc ms Pr Pt) kc ks 0 [some (.ref l0), some (.int l1), some (.int l2), none] [] h
  refine r_iload_n X dX9_steps_0 rfl ?_
  refine r_iload_n X dX9_steps_1 rfl ?_
  refine r_isub X dX9_steps_2 ?_
  refine r_mabs X dX9_steps_3 ma_X9_64 (by refine ⟨?_, ?_, ?_, ?_⟩ <;> simp [rmm, Value.category] <;> omega) ?_
  refine r_istore_n X dX9_steps_6 (by decide) rfl ?_
  refine r_iload_n X dX9_steps_7 rfl ?_
  refine r_aload_n X dX9_steps_8 rfl ?_
  obtain ⟨v1, ev1, w⟩ := w
  obtain ⟨fv1, cv1, qv1⟩ := gI_s ev1
  refine r_getf X dX9_steps_9 fl_X9_42 cv1 qv1 ?_
  refine r_iload_n X dX9_steps_12 rfl ?_
  refine r_isub X dX9_steps_13 ?_
  refine r_mmin X dX9_steps_14 ma_X9_70 (by refine ⟨?_, ?_, ?_, ?_⟩ <;> simp [rmm, Value.category] <;> omega) ?_
  exact r_iret X dX9_steps_17 rfl w hk.1 hk.2

set_option maxRecDepth 10000 in
theorem b_X9_worthOf_0 {g : GG} {K : KX} {D mc ms : Nat} {Pr : Option Value → Hp → Prop} {Pt : String → Hp → Prop} {kc ks : Nat} (hg : GOK g) (hD : 8 ≤ D) (hk : kc ≤ mc ∧ ks ≤ ms) (X : CB g K cX9_worthOf 7 yX9_worthOf (some (.int)) []) (l0 : Nat) (l1 : Nat) (l2 : Nat) (l3 : Int32) (h : Hp)
    (w : (∃ v1, gI h l1 6 1 = some v1 ∧ VB g K 7 D mc ms Pr Pt kc ks 9 [some (.ref l0), some (.ref l1), some (.ref l2), some (.int l3), some (.int ((0 : Int32))), some (.int v1), none] [] h)) : VB g K 7 D mc ms Pr Pt kc ks 0 [some (.ref l0), some (.ref l1), some (.ref l2), some (.int l3), none, none, none] [] h := by
  obtain ⟨p, e, s, m, args, below, meth, c⟩ := K
  have X : CX g p s m args meth c cX9_worthOf 7 yX9_worthOf (some (.int)) [] := X
  have hz := hg s X.gk.z
  show VV g p e (rmm D mc ms) s m args below meth c 7 (QQ g below args s mc ms Pr Pt) kc ks 0 [some (.ref l0), some (.ref l1), some (.ref l2), some (.int l3), none, none, none] [] h
  refine r_iconst X dX9_worthOf_0 (v := 0) (by decide) ?_
  refine r_istore X dX9_worthOf_1 (by decide) rfl ?_
  refine r_aload_n X dX9_worthOf_3 rfl ?_
  obtain ⟨v1, ev1, w⟩ := w
  obtain ⟨fv1, cv1, qv1⟩ := gI_s ev1
  refine r_getf X dX9_worthOf_4 fl_X9_77 cv1 qv1 ?_
  refine r_istore X dX9_worthOf_7 (by decide) rfl ?_
  refine VB_wk (ls' := [some (.ref l0), some (.ref l1), some (.ref l2), some (.int l3), some (.int ((0 : Int32))), some (.int v1), none]) ?_ w
  exact (And.intro rfl (And.intro rfl (And.intro rfl (And.intro rfl (And.intro rfl (And.intro rfl trivial))))))

set_option maxRecDepth 10000 in
theorem b_X9_worthOf_9 {g : GG} {K : KX} {D mc ms : Nat} {Pr : Option Value → Hp → Prop} {Pt : String → Hp → Prop} {kc ks : Nat} (hg : GOK g) (hD : 8 ≤ D) (hk : kc ≤ mc ∧ ks ≤ ms) (X : CB g K cX9_worthOf 7 yX9_worthOf (some (.int)) []) (l0 : Nat) (l1 : Nat) (l2 : Nat) (l3 : Int32) (l4 : Int32) (l5 : Int32) (h : Hp)
    (w : (∃ v1, gI h l1 6 2 = some v1 ∧ ((v1 ≤ l5 → VB g K 7 D mc ms Pr Pt kc ks 178 [some (.ref l0), none, none, none, some (.int l4), none, none] [] h) ∧ (¬ v1 ≤ l5 → (∃ v2, gN h l0 9 9 = some v2 ∧ (∃ v3, lenA h v2 = some v3 ∧ ((v3 ≤ l5 → VB g K 7 D mc ms Pr Pt kc ks 178 [some (.ref l0), none, none, none, some (.int l4), none, none] [] h) ∧ (¬ v3 ≤ l5 → (∃ v4, gN h l0 9 9 = some v4 ∧ (∃ v5, aI h 0 v4 l5 = some v5 ∧ ((v5 ≤ (-7 : Int32) → ((¬ v5 = (-7 : Int32) → (((2 : Int32) ≤ l4 → (∃ v6, gN h l0 9 11 = some v6 ∧ (∃ v7, gN h l0 9 11 = some v7 ∧ (∃ v8, aI h 0 v7 (((l4 + (-1)) - (1 : Int32))) = some v8 ∧ (∃ v9, gN h l0 9 11 = some v9 ∧ (∃ v10, aI h 0 v9 ((l4 + (-1))) = some v10 ∧ (∃ d10 P10 E10 m10 n10, CT g d10 yX9_join (wsC yX9_join cX9_join 3 (some (.int))) [.int v5, .int v8, .int v10] h m10 n10 P10 E10 ∧ (d10 + 1 ≤ D ∧ kc + m10 ≤ mc ∧ ks + n10 ≤ ms) ∧ (∀ E h', E10 E h' → Pt E h') ∧ (∀ v h10, P10 v h10 → ∃ v12, v = some (.int v12) ∧ (∃ h13, uI h10 0 v6 (((l4 + (-1)) - (1 : Int32))) v12 = some h13 ∧ VB g K 7 D mc ms Pr Pt ((kc + m10)) ((ks + n10)) 172 [some (.ref l0), some (.ref l1), some (.ref l2), some (.int l3), some (.int ((l4 + (-1)))), some (.int l5), none] [] h13))))))))) ∧ (¬ (2 : Int32) ≤ l4 → Pr (some (.int ((0 : Int32)))) h))) ∧ (v5 = (-7 : Int32) → (((1 : Int32) ≤ l4 → (∃ v14, gN h l0 9 11 = some v14 ∧ (∃ v15, gN h l0 9 11 = some v15 ∧ (∃ v16, aI h 0 v15 ((l4 - (1 : Int32))) = some v16 ∧ ((¬ v16 = 0 → VB g K 7 D mc ms Pr Pt kc ks 127 [some (.ref l0), some (.ref l1), some (.ref l2), some (.int l3), some (.int l4), some (.int l5), none] [.int ((0 : Int32)), .int ((l4 - (1 : Int32))), .ref v14] h) ∧ (v16 = 0 → VB g K 7 D mc ms Pr Pt kc ks 127 [some (.ref l0), some (.ref l1), some (.ref l2), some (.int l3), some (.int l4), some (.int l5), none] [.int ((1 : Int32)), .int ((l4 - (1 : Int32))), .ref v14] h)))))) ∧ (¬ (1 : Int32) ≤ l4 → Pr (some (.int ((0 : Int32)))) h))))) ∧ (¬ v5 ≤ (-7 : Int32) → (∃ v17, gN h l0 9 11 = some v17 ∧ (∃ v18, lenA h v17 = some v18 ∧ ((l4 < v18 → (∃ v19, gN h l0 9 11 = some v19 ∧ ((v5 < 0 → (∃ fs19, oF h l2 2 = some fs19 ∧ (∃ d19 P19 E19 m19 n19, CT g d19 yX2_valueOf (wsC yX2_valueOf cX2_valueOf 4 (some (.int))) [.ref l2, .ref l0, .int v5, .int l3] h m19 n19 P19 E19 ∧ (d19 + 1 ≤ D ∧ kc + m19 ≤ mc ∧ ks + n19 ≤ ms) ∧ (∀ E h', E19 E h' → Pt E h') ∧ (∀ v h19, P19 v h19 → ∃ v21, v = some (.int v21) ∧ VB g K 7 D mc ms Pr Pt ((kc + m19)) ((ks + n19)) 80 [some (.ref l0), some (.ref l1), some (.ref l2), some (.int l3), some (.int l4), some (.int l5), none] [.int v21, .int l4, .ref v19] h19)))) ∧ (¬ v5 < 0 → VB g K 7 D mc ms Pr Pt kc ks 80 [some (.ref l0), some (.ref l1), some (.ref l2), some (.int l3), some (.int l4), some (.int l5), none] [.int v5, .int l4, .ref v19] h)))) ∧ (¬ l4 < v18 → Pr (some (.int ((0 : Int32)))) h)))))))))))))))) : VB g K 7 D mc ms Pr Pt kc ks 9 [some (.ref l0), some (.ref l1), some (.ref l2), some (.int l3), some (.int l4), some (.int l5), none] [] h := by
  obtain ⟨p, e, s, m, args, below, meth, c⟩ := K
  have X : CX g p s m args meth c cX9_worthOf 7 yX9_worthOf (some (.int)) [] := X
  have hz := hg s X.gk.z
  show VV g p e (rmm D mc ms) s m args below meth c 7 (QQ g below args s mc ms Pr Pt) kc ks 9 [some (.ref l0), some (.ref l1), some (.ref l2), some (.int l3), some (.int l4), some (.int l5), none] [] h
  refine r_iload X dX9_worthOf_9 rfl ?_
  refine r_aload_n X dX9_worthOf_11 rfl ?_
  obtain ⟨v1, ev1, w⟩ := w
  obtain ⟨fv1, cv1, qv1⟩ := gI_s ev1
  refine r_getf X dX9_worthOf_12 fl_X9_80 cv1 qv1 ?_
  refine r_icmp_ge X dX9_worthOf_15 (tgt := 178) (by decide) (fun q => ?_) (fun q => ?_)
  · have w := w.1 q
    refine VB_wk (ls' := [some (.ref l0), none, none, none, some (.int l4), none, none]) ?_ w
    exact (And.intro rfl (And.intro rfl trivial))
  · have w := w.2 q
    refine r_iload X dX9_worthOf_18 rfl ?_
    refine r_aload_n X dX9_worthOf_20 rfl ?_
    obtain ⟨v2, ev2, w⟩ := w
    obtain ⟨fv2, cv2, qv2⟩ := gN_s ev2
    refine r_getf X dX9_worthOf_21 fl_X9_36 cv2 qv2 ?_
    obtain ⟨v3, ev3, w⟩ := w
    obtain ⟨tv3, nv3, fv3, cv3, iv3, qv3⟩ := lenA_s ev3
    refine r_alen X dX9_worthOf_24 cv3 iv3 ?_
    rw [qv3]
    refine r_icmp_ge X dX9_worthOf_25 (tgt := 178) (by decide) (fun q => ?_) (fun q => ?_)
    · have w := w.1 q
      refine VB_wk (ls' := [some (.ref l0), none, none, none, some (.int l4), none, none]) ?_ w
      exact (And.intro rfl (And.intro rfl trivial))
    · have w := w.2 q
      refine r_aload_n X dX9_worthOf_28 rfl ?_
      obtain ⟨v4, ev4, w⟩ := w
      obtain ⟨fv4, cv4, qv4⟩ := gN_s ev4
      refine r_getf X dX9_worthOf_29 fl_X9_36 cv4 qv4 ?_
      refine r_iload X dX9_worthOf_32 rfl ?_
      obtain ⟨v5, ev5, w⟩ := w
      obtain ⟨nv5, fv5, cv5, iv5, qv5⟩ := aI_s ev5
      refine r_iald X dX9_worthOf_34 cv5 iv5 ?_
      rw [qv5]
      refine r_istore X dX9_worthOf_35 (by decide) rfl ?_
      refine r_iload X dX9_worthOf_37 rfl ?_
      refine r_bipush X dX9_worthOf_39 (v := -7) (by decide) ?_
      refine r_icmp_le X dX9_worthOf_41 (tgt := 87) (by decide) (fun q => ?_) (fun q => ?_)
      · have w := w.1 q
        refine r_iload X dX9_worthOf_87 rfl ?_
        refine r_bipush X dX9_worthOf_89 (v := -7) (by decide) ?_
        refine r_icmp_ne X dX9_worthOf_91 (tgt := 131) (by decide) (fun q => ?_) (fun q => ?_)
        · have w := w.1 q
          refine r_iload X dX9_worthOf_131 rfl ?_
          refine r_iconst X dX9_worthOf_133 (v := 2) (by decide) ?_
          refine r_icmp_ge X dX9_worthOf_134 (tgt := 139) (by decide) (fun q => ?_) (fun q => ?_)
          · have w := w.1 q
            refine r_iinc X dX9_worthOf_139 rfl (v := (l4 + (-1))) rfl (by decide) rfl ?_
            refine r_aload_n X dX9_worthOf_142 rfl ?_
            obtain ⟨v6, ev6, w⟩ := w
            obtain ⟨fv6, cv6, qv6⟩ := gN_s ev6
            refine r_getf X dX9_worthOf_143 fl_X9_39 cv6 qv6 ?_
            refine r_iload X dX9_worthOf_146 rfl ?_
            refine r_iconst X dX9_worthOf_148 (v := 1) (by decide) ?_
            refine r_isub X dX9_worthOf_149 ?_
            refine r_iload X dX9_worthOf_150 rfl ?_
            refine r_aload_n X dX9_worthOf_152 rfl ?_
            obtain ⟨v7, ev7, w⟩ := w
            obtain ⟨fv7, cv7, qv7⟩ := gN_s ev7
            refine r_getf X dX9_worthOf_153 fl_X9_39 cv7 qv7 ?_
            refine r_iload X dX9_worthOf_156 rfl ?_
            refine r_iconst X dX9_worthOf_158 (v := 1) (by decide) ?_
            refine r_isub X dX9_worthOf_159 ?_
            obtain ⟨v8, ev8, w⟩ := w
            obtain ⟨nv8, fv8, cv8, iv8, qv8⟩ := aI_s ev8
            refine r_iald X dX9_worthOf_160 cv8 iv8 ?_
            rw [qv8]
            refine r_aload_n X dX9_worthOf_161 rfl ?_
            obtain ⟨v9, ev9, w⟩ := w
            obtain ⟨fv9, cv9, qv9⟩ := gN_s ev9
            refine r_getf X dX9_worthOf_162 fl_X9_39 cv9 qv9 ?_
            refine r_iload X dX9_worthOf_165 rfl ?_
            obtain ⟨v10, ev10, w⟩ := w
            obtain ⟨nv10, fv10, cv10, iv10, qv10⟩ := aI_s ev10
            refine r_iald X dX9_worthOf_167 cv10 iv10 ?_
            rw [qv10]
            obtain ⟨d10, P10, E10, m10, n10, ct10, w⟩ := w
            obtain ⟨⟨x1, x2, x3⟩, w⟩ := w
            obtain ⟨x4, w⟩ := w
            refine r_callS X (As := [.int v5, .int v8, .int v10]) dX9_worthOf_168 mk_X9_join ⟨ml_X9_89, sm_X9_join⟩ rfl rfl (by simp [Value.category]) ⟨x1, by show 60 * (d10 + 1) + 200 ≤ 60 * D + 200; omega⟩ ⟨x2, x3⟩ ct10 x4 (fun _ z => nomatch z) (fun _ => ⟨x2, x3⟩) (fun v h10 w1 => ?_)
            have w := w v h10 w1
            have hk : kc + m10 ≤ mc ∧ ks + n10 ≤ ms := ⟨x2, x3⟩
            obtain ⟨v12, rfl, w⟩ := w
            obtain ⟨h13, eh13, w⟩ := w
            obtain ⟨nh13, fh13, ch13, ih13, rh13⟩ := uI_s eh13
            subst rh13
            refine r_iast X dX9_worthOf_171 ch13 ih13 ?_
            refine VB_wk (ls' := [some (.ref l0), some (.ref l1), some (.ref l2), some (.int l3), some (.int ((l4 + (-1)))), some (.int l5), none]) ?_ w
            exact (And.intro rfl (And.intro rfl (And.intro rfl (And.intro rfl (And.intro rfl (And.intro rfl trivial))))))
          · have w := w.2 q
            refine r_iconst X dX9_worthOf_137 (v := 0) (by decide) ?_
            exact r_iret X dX9_worthOf_138 rfl w hk.1 hk.2
        · have w := w.2 q
          refine r_iload X dX9_worthOf_94 rfl ?_
          refine r_iconst X dX9_worthOf_96 (v := 1) (by decide) ?_
          refine r_icmp_ge X dX9_worthOf_97 (tgt := 102) (by decide) (fun q => ?_) (fun q => ?_)
          · have w := w.1 q
            refine r_aload_n X dX9_worthOf_102 rfl ?_
            obtain ⟨v14, ev14, w⟩ := w
            obtain ⟨fv14, cv14, qv14⟩ := gN_s ev14
            refine r_getf X dX9_worthOf_103 fl_X9_39 cv14 qv14 ?_
            refine r_iload X dX9_worthOf_106 rfl ?_
            refine r_iconst X dX9_worthOf_108 (v := 1) (by decide) ?_
            refine r_isub X dX9_worthOf_109 ?_
            refine r_aload_n X dX9_worthOf_110 rfl ?_
            obtain ⟨v15, ev15, w⟩ := w
            obtain ⟨fv15, cv15, qv15⟩ := gN_s ev15
            refine r_getf X dX9_worthOf_111 fl_X9_39 cv15 qv15 ?_
            refine r_iload X dX9_worthOf_114 rfl ?_
            refine r_iconst X dX9_worthOf_116 (v := 1) (by decide) ?_
            refine r_isub X dX9_worthOf_117 ?_
            obtain ⟨v16, ev16, w⟩ := w
            obtain ⟨nv16, fv16, cv16, iv16, qv16⟩ := aI_s ev16
            refine r_iald X dX9_worthOf_118 cv16 iv16 ?_
            rw [qv16]
            refine r_if_ne X dX9_worthOf_119 (tgt := 126) (by decide) (fun q => ?_) (fun q => ?_)
            · have w := w.1 q
              refine r_iconst X dX9_worthOf_126 (v := 0) (by decide) ?_
              refine VB_wk (ls' := [some (.ref l0), some (.ref l1), some (.ref l2), some (.int l3), some (.int l4), some (.int l5), none]) ?_ w
              exact (And.intro rfl (And.intro rfl (And.intro rfl (And.intro rfl (And.intro rfl (And.intro rfl trivial))))))
            · have w := w.2 q
              refine r_iconst X dX9_worthOf_122 (v := 1) (by decide) ?_
              refine r_goto X dX9_worthOf_123 (tgt := 127) (by decide) ?_
              refine VB_wk (ls' := [some (.ref l0), some (.ref l1), some (.ref l2), some (.int l3), some (.int l4), some (.int l5), none]) ?_ w
              exact (And.intro rfl (And.intro rfl (And.intro rfl (And.intro rfl (And.intro rfl (And.intro rfl trivial))))))
          · have w := w.2 q
            refine r_iconst X dX9_worthOf_100 (v := 0) (by decide) ?_
            exact r_iret X dX9_worthOf_101 rfl w hk.1 hk.2
      · have w := w.2 q
        refine r_iload X dX9_worthOf_44 rfl ?_
        refine r_aload_n X dX9_worthOf_46 rfl ?_
        obtain ⟨v17, ev17, w⟩ := w
        obtain ⟨fv17, cv17, qv17⟩ := gN_s ev17
        refine r_getf X dX9_worthOf_47 fl_X9_39 cv17 qv17 ?_
        obtain ⟨v18, ev18, w⟩ := w
        obtain ⟨tv18, nv18, fv18, cv18, iv18, qv18⟩ := lenA_s ev18
        refine r_alen X dX9_worthOf_50 cv18 iv18 ?_
        rw [qv18]
        refine r_icmp_lt X dX9_worthOf_51 (tgt := 56) (by decide) (fun q => ?_) (fun q => ?_)
        · have w := w.1 q
          refine r_aload_n X dX9_worthOf_56 rfl ?_
          obtain ⟨v19, ev19, w⟩ := w
          obtain ⟨fv19, cv19, qv19⟩ := gN_s ev19
          refine r_getf X dX9_worthOf_57 fl_X9_39 cv19 qv19 ?_
          refine r_iload X dX9_worthOf_60 rfl ?_
          refine r_iload X dX9_worthOf_62 rfl ?_
          refine r_if_lt X dX9_worthOf_64 (tgt := 72) (by decide) (fun q => ?_) (fun q => ?_)
          · have w := w.1 q
            refine r_aload_n X dX9_worthOf_72 rfl ?_
            refine r_aload_n X dX9_worthOf_73 rfl ?_
            refine r_iload X dX9_worthOf_74 rfl ?_
            refine r_iload_n X dX9_worthOf_76 rfl ?_
            obtain ⟨fs19, es19, w⟩ := w
            obtain ⟨d19, P19, E19, m19, n19, ct19, w⟩ := w
            obtain ⟨⟨x1, x2, x3⟩, w⟩ := w
            obtain ⟨x4, w⟩ := w
            refine r_callV X (As := [.ref l0, .int v5, .int l3]) dX9_worthOf_77 mk_X2_valueOf ⟨ml_X9_83, im_X2_valueOf, se_X2_valueOf⟩ (oF_s es19) (ci_X2).1 rfl rfl rfl (by simp [Value.category]) ⟨x1, by show 60 * (d19 + 1) + 200 ≤ 60 * D + 200; omega⟩ ⟨x2, x3⟩ ct19 x4 (fun _ z => nomatch z) (fun _ => ⟨x2, x3⟩) (fun v h19 w1 => ?_)
            have w := w v h19 w1
            have hk : kc + m19 ≤ mc ∧ ks + n19 ≤ ms := ⟨x2, x3⟩
            obtain ⟨v21, rfl, w⟩ := w
            refine VB_wk (ls' := [some (.ref l0), some (.ref l1), some (.ref l2), some (.int l3), some (.int l4), some (.int l5), none]) ?_ w
            exact (And.intro rfl (And.intro rfl (And.intro rfl (And.intro rfl (And.intro rfl (And.intro rfl trivial))))))
          · have w := w.2 q
            refine r_iload X dX9_worthOf_67 rfl ?_
            refine r_goto X dX9_worthOf_69 (tgt := 80) (by decide) ?_
            refine VB_wk (ls' := [some (.ref l0), some (.ref l1), some (.ref l2), some (.int l3), some (.int l4), some (.int l5), none]) ?_ w
            exact (And.intro rfl (And.intro rfl (And.intro rfl (And.intro rfl (And.intro rfl (And.intro rfl trivial))))))
        · have w := w.2 q
          refine r_iconst X dX9_worthOf_54 (v := 0) (by decide) ?_
          exact r_iret X dX9_worthOf_55 rfl w hk.1 hk.2

set_option maxRecDepth 10000 in
theorem b_X9_worthOf_80 {g : GG} {K : KX} {D mc ms : Nat} {Pr : Option Value → Hp → Prop} {Pt : String → Hp → Prop} {kc ks : Nat} (hg : GOK g) (hD : 8 ≤ D) (hk : kc ≤ mc ∧ ks ≤ ms) (X : CB g K cX9_worthOf 7 yX9_worthOf (some (.int)) []) (l0 : Nat) (l1 : Nat) (l2 : Nat) (l3 : Int32) (l4 : Int32) (l5 : Int32) (s0 : Nat) (s1 : Int32) (s2 : Int32) (h : Hp)
    (w : (∃ h1, uI h 0 s0 s1 s2 = some h1 ∧ VB g K 7 D mc ms Pr Pt kc ks 172 [some (.ref l0), some (.ref l1), some (.ref l2), some (.int l3), some (.int ((l4 + 1))), some (.int l5), none] [] h1)) : VB g K 7 D mc ms Pr Pt kc ks 80 [some (.ref l0), some (.ref l1), some (.ref l2), some (.int l3), some (.int l4), some (.int l5), none] [.int s2, .int s1, .ref s0] h := by
  obtain ⟨p, e, s, m, args, below, meth, c⟩ := K
  have X : CX g p s m args meth c cX9_worthOf 7 yX9_worthOf (some (.int)) [] := X
  have hz := hg s X.gk.z
  show VV g p e (rmm D mc ms) s m args below meth c 7 (QQ g below args s mc ms Pr Pt) kc ks 80 [some (.ref l0), some (.ref l1), some (.ref l2), some (.int l3), some (.int l4), some (.int l5), none] [.int s2, .int s1, .ref s0] h
  obtain ⟨h1, eh1, w⟩ := w
  obtain ⟨nh1, fh1, ch1, ih1, rh1⟩ := uI_s eh1
  subst rh1
  refine r_iast X dX9_worthOf_80 ch1 ih1 ?_
  refine r_iinc X dX9_worthOf_81 rfl (v := (l4 + 1)) rfl (by decide) rfl ?_
  refine r_goto X dX9_worthOf_84 (tgt := 172) (by decide) ?_
  refine VB_wk (ls' := [some (.ref l0), some (.ref l1), some (.ref l2), some (.int l3), some (.int ((l4 + 1))), some (.int l5), none]) ?_ w
  exact (And.intro rfl (And.intro rfl (And.intro rfl (And.intro rfl (And.intro rfl (And.intro rfl trivial))))))

set_option maxRecDepth 10000 in
theorem b_X9_worthOf_127 {g : GG} {K : KX} {D mc ms : Nat} {Pr : Option Value → Hp → Prop} {Pt : String → Hp → Prop} {kc ks : Nat} (hg : GOK g) (hD : 8 ≤ D) (hk : kc ≤ mc ∧ ks ≤ ms) (X : CB g K cX9_worthOf 7 yX9_worthOf (some (.int)) []) (l0 : Nat) (l1 : Nat) (l2 : Nat) (l3 : Int32) (l4 : Int32) (l5 : Int32) (s0 : Nat) (s1 : Int32) (s2 : Int32) (h : Hp)
    (w : (∃ h1, uI h 0 s0 s1 s2 = some h1 ∧ VB g K 7 D mc ms Pr Pt kc ks 172 [some (.ref l0), some (.ref l1), some (.ref l2), some (.int l3), some (.int l4), some (.int l5), none] [] h1)) : VB g K 7 D mc ms Pr Pt kc ks 127 [some (.ref l0), some (.ref l1), some (.ref l2), some (.int l3), some (.int l4), some (.int l5), none] [.int s2, .int s1, .ref s0] h := by
  obtain ⟨p, e, s, m, args, below, meth, c⟩ := K
  have X : CX g p s m args meth c cX9_worthOf 7 yX9_worthOf (some (.int)) [] := X
  have hz := hg s X.gk.z
  show VV g p e (rmm D mc ms) s m args below meth c 7 (QQ g below args s mc ms Pr Pt) kc ks 127 [some (.ref l0), some (.ref l1), some (.ref l2), some (.int l3), some (.int l4), some (.int l5), none] [.int s2, .int s1, .ref s0] h
  obtain ⟨h1, eh1, w⟩ := w
  obtain ⟨nh1, fh1, ch1, ih1, rh1⟩ := uI_s eh1
  subst rh1
  refine r_iast X dX9_worthOf_127 ch1 ih1 ?_
  refine r_goto X dX9_worthOf_128 (tgt := 172) (by decide) ?_
  refine VB_wk (ls' := [some (.ref l0), some (.ref l1), some (.ref l2), some (.int l3), some (.int l4), some (.int l5), none]) ?_ w
  exact (And.intro rfl (And.intro rfl (And.intro rfl (And.intro rfl (And.intro rfl (And.intro rfl trivial))))))

set_option maxRecDepth 10000 in
theorem b_X9_worthOf_172 {g : GG} {K : KX} {D mc ms : Nat} {Pr : Option Value → Hp → Prop} {Pt : String → Hp → Prop} {kc ks : Nat} (hg : GOK g) (hD : 8 ≤ D) (hk : kc ≤ mc ∧ ks ≤ ms) (X : CB g K cX9_worthOf 7 yX9_worthOf (some (.int)) []) (l0 : Nat) (l1 : Nat) (l2 : Nat) (l3 : Int32) (l4 : Int32) (l5 : Int32) (h : Hp)
    (w : VB g K 7 D mc ms Pr Pt kc ks 9 [some (.ref l0), some (.ref l1), some (.ref l2), some (.int l3), some (.int l4), some (.int ((l5 + 1))), none] [] h) : VB g K 7 D mc ms Pr Pt kc ks 172 [some (.ref l0), some (.ref l1), some (.ref l2), some (.int l3), some (.int l4), some (.int l5), none] [] h := by
  obtain ⟨p, e, s, m, args, below, meth, c⟩ := K
  have X : CX g p s m args meth c cX9_worthOf 7 yX9_worthOf (some (.int)) [] := X
  have hz := hg s X.gk.z
  show VV g p e (rmm D mc ms) s m args below meth c 7 (QQ g below args s mc ms Pr Pt) kc ks 172 [some (.ref l0), some (.ref l1), some (.ref l2), some (.int l3), some (.int l4), some (.int l5), none] [] h
  refine r_iinc X dX9_worthOf_172 rfl (v := (l5 + 1)) rfl (by decide) rfl ?_
  refine r_goto X dX9_worthOf_175 (tgt := 9) (by decide) ?_
  refine VB_wk (ls' := [some (.ref l0), some (.ref l1), some (.ref l2), some (.int l3), some (.int l4), some (.int ((l5 + 1))), none]) ?_ w
  exact (And.intro rfl (And.intro rfl (And.intro rfl (And.intro rfl (And.intro rfl (And.intro rfl trivial))))))

set_option maxRecDepth 10000 in
theorem b_X9_worthOf_178 {g : GG} {K : KX} {D mc ms : Nat} {Pr : Option Value → Hp → Prop} {Pt : String → Hp → Prop} {kc ks : Nat} (hg : GOK g) (hD : 8 ≤ D) (hk : kc ≤ mc ∧ ks ≤ ms) (X : CB g K cX9_worthOf 7 yX9_worthOf (some (.int)) []) (l0 : Nat) (l4 : Int32) (h : Hp)
    (w : (((1 : Int32) ≤ l4 → (∃ v1, gN h l0 9 11 = some v1 ∧ (∃ v2, aI h 0 v1 ((0 : Int32)) = some v2 ∧ Pr (some (.int v2)) h))) ∧ (¬ (1 : Int32) ≤ l4 → Pr (some (.int ((0 : Int32)))) h))) : VB g K 7 D mc ms Pr Pt kc ks 178 [some (.ref l0), none, none, none, some (.int l4), none, none] [] h := by
  obtain ⟨p, e, s, m, args, below, meth, c⟩ := K
  have X : CX g p s m args meth c cX9_worthOf 7 yX9_worthOf (some (.int)) [] := X
  have hz := hg s X.gk.z
  show VV g p e (rmm D mc ms) s m args below meth c 7 (QQ g below args s mc ms Pr Pt) kc ks 178 [some (.ref l0), none, none, none, some (.int l4), none, none] [] h
  refine r_iload X dX9_worthOf_178 rfl ?_
  refine r_iconst X dX9_worthOf_180 (v := 1) (by decide) ?_
  refine r_icmp_ge X dX9_worthOf_181 (tgt := 188) (by decide) (fun q => ?_) (fun q => ?_)
  · have w := w.1 q
    refine r_aload_n X dX9_worthOf_188 rfl ?_
    obtain ⟨v1, ev1, w⟩ := w
    obtain ⟨fv1, cv1, qv1⟩ := gN_s ev1
    refine r_getf X dX9_worthOf_189 fl_X9_39 cv1 qv1 ?_
    refine r_iconst X dX9_worthOf_192 (v := 0) (by decide) ?_
    obtain ⟨v2, ev2, w⟩ := w
    obtain ⟨nv2, fv2, cv2, iv2, qv2⟩ := aI_s ev2
    refine r_iald X dX9_worthOf_193 cv2 iv2 ?_
    rw [qv2]
    exact r_iret X dX9_worthOf_194 rfl w hk.1 hk.2
  · have w := w.2 q
    refine r_iconst X dX9_worthOf_184 (v := 0) (by decide) ?_
    refine r_goto X dX9_worthOf_185 (tgt := 194) (by decide) ?_
    exact r_iret X dX9_worthOf_194 rfl w hk.1 hk.2

