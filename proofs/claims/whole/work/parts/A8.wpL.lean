/-! THE LAW: its blocks (by program) -/
set_option maxRecDepth 10000 in
theorem b_L_law_0 {g : GG} {p : Program} {e : Env} {R : Room} {s : State} {m : MethodId} {args : Array Value} {below : List Frame} {meth : Method} {c : Code} {Q : State → Prop} {xt : List ExceptionTableEntry} {nm : String} {L : Nat} {xs : Nat → Int32} {kc ks : Nat} (hX : SX g L xs) (X : CX g p s m args meth c cL_law 7 ⟨RL, nm, "([I)Z"⟩ (some .boolean) xt) (h : Hp)
    (w : ((kc + 1 ≤ R.cells ∧ ks + 17 ≤ R.slots) ∧ (∃ d1 P1 m1 n1, CT g d1 yX11_init (wsC yX11_init cX11_init 1 none) [.ref ((h).length)] ((h ++ [.inr (10, [.null, .int 0, .int 0, .int 0, .int 0, .int 0, .null, .null, .null, .null, .int 0, .null, .null, .null, .int 0, .null, .null])])) m1 n1 P1 noT ∧ ((d1 + 1 ≤ R.frames ∧ 60 * (d1 + 1) + 200 ≤ R.locals) ∧ (kc + 1) + m1 ≤ R.cells ∧ (ks + 17) + n1 ≤ R.slots) ∧ (∀ v h1, P1 v h1 → v = none ∧ ((((kc + 1) + m1) + 1 ≤ R.cells ∧ ((ks + 17) + n1) + 63 ≤ R.slots) ∧ (∃ d3 P3 m3 n3, CT g d3 yX12_init (wsC yX12_init cX12_init 2 none) [.ref ((h1).length)] ((h1 ++ [.inr (11, [.int 0, .int 0, .int 0, .int 0, .int 0, .int 0, .int 0, .null, .null, .null, .null, .null, .int 0, .int 0, .int 0, .null, .int 0, .int 0, .int 0, .int 0, .int 0, .int 0, .int 0, .long 0, .int 0, .int 0, .int 0, .int 0, .int 0, .int 0, .int 0, .int 0, .int 0, .null, .null, .null, .null, .null, .null, .null, .null, .null, .int 0, .null, .null, .null, .null, .null, .null, .null, .null, .int 0, .null, .null, .null, .int 0, .null, .int 0, .int 0, .int 0, .null, .null, .null])])) m3 n3 P3 noT ∧ ((d3 + 1 ≤ R.frames ∧ 60 * (d3 + 1) + 200 ≤ R.locals) ∧ (((kc + 1) + m1) + 1) + m3 ≤ R.cells ∧ (((ks + 17) + n1) + 63) + n3 ≤ R.slots) ∧ (∀ v h3, P3 v h3 → v = none ∧ ((((((kc + 1) + m1) + 1) + m3) + 1 ≤ R.cells ∧ ((((ks + 17) + n1) + 63) + n3) + 1 ≤ R.slots) ∧ VV g p e R s m args below meth c 7 Q ((((((kc + 1) + m1) + 1) + m3) + 1)) ((((((ks + 17) + n1) + 63) + n3) + 1)) 23 [some (.retAddr 100), some (.ref ((h).length)), some (.ref ((h1).length)), some (.ref ((h3).length)), some (.int ((0 : Int32))), none, none] [] ((h3 ++ [arr0 2 1])))))))))) : VV g p e R s m args below meth c 7 Q kc ks 0 [some (.retAddr 100), none, none, none, none, none, none] [] h := by
  obtain ⟨q1, w⟩ := w
  refine r_new X dL_law_0 ci_X11 nc_L_8 (fs := [.null, .int 0, .int 0, .int 0, .int 0, .int 0, .null, .null, .null, .null, .int 0, .null, .null, .null, .int 0, .null, .null]) rfl q1.1 q1.2 ?_
  have hk : (kc + 1) ≤ R.cells ∧ (ks + 17) ≤ R.slots := q1
  refine r_dup X dL_law_3 rfl ?_
  obtain ⟨d1, P1, m1, n1, ct1, w⟩ := w
  obtain ⟨⟨x1, x2⟩, w⟩ := w
  refine r_callI X (As := []) dL_law_4 mk_X11_init ⟨ml_L_112, im_X11_init⟩ rfl rfl rfl (by simp [Value.category]) x1 x2 ct1 (fun v h1 w1 => ?_)
  have w := w v h1 w1
  obtain ⟨rfl, w⟩ := w
  refine r_astore_n X dL_law_7 (by decide) rfl ?_
  obtain ⟨q3, w⟩ := w
  refine r_new X dL_law_8 ci_X12 nc_L_113 (fs := [.int 0, .int 0, .int 0, .int 0, .int 0, .int 0, .int 0, .null, .null, .null, .null, .null, .int 0, .int 0, .int 0, .null, .int 0, .int 0, .int 0, .int 0, .int 0, .int 0, .int 0, .long 0, .int 0, .int 0, .int 0, .int 0, .int 0, .int 0, .int 0, .int 0, .int 0, .null, .null, .null, .null, .null, .null, .null, .null, .null, .int 0, .null, .null, .null, .null, .null, .null, .null, .null, .int 0, .null, .null, .null, .int 0, .null, .int 0, .int 0, .int 0, .null, .null, .null]) rfl q3.1 q3.2 ?_
  have hk : (((kc + 1) + m1) + 1) ≤ R.cells ∧ (((ks + 17) + n1) + 63) ≤ R.slots := q3
  refine r_dup X dL_law_11 rfl ?_
  obtain ⟨d3, P3, m3, n3, ct3, w⟩ := w
  obtain ⟨⟨x1, x2⟩, w⟩ := w
  refine r_callI X (As := []) dL_law_12 mk_X12_init ⟨ml_L_115, im_X12_init⟩ rfl rfl rfl (by simp [Value.category]) x1 x2 ct3 (fun v h3 w1 => ?_)
  have w := w v h3 w1
  obtain ⟨rfl, w⟩ := w
  refine r_astore_n X dL_law_15 (by decide) rfl ?_
  refine r_iconst X dL_law_16 (v := 1) (by decide) ?_
  obtain ⟨q5, w⟩ := w
  refine r_newa X dL_law_17 (t := 2) (N := 1) (by decide) rfl ar_long (by decide) (by decide) (by decide) q5.1 q5.2 ?_
  have hk : (((((kc + 1) + m1) + 1) + m3) + 1) ≤ R.cells ∧ (((((ks + 17) + n1) + 63) + n3) + 1) ≤ R.slots := q5
  refine r_astore_n X dL_law_19 (by decide) rfl ?_
  refine r_iconst X dL_law_20 (v := 0) (by decide) ?_
  refine r_istore X dL_law_21 (by decide) rfl ?_
  refine VV_wk (ls' := [some (.retAddr 100), some (.ref ((h).length)), some (.ref ((h1).length)), some (.ref ((h3).length)), some (.int ((0 : Int32))), none, none]) ?_ w
  exact (And.intro rfl (And.intro rfl (And.intro rfl (And.intro rfl (And.intro rfl trivial)))))

set_option maxRecDepth 10000 in
theorem b_L_law_23 {g : GG} {p : Program} {e : Env} {R : Room} {s : State} {m : MethodId} {args : Array Value} {below : List Frame} {meth : Method} {c : Code} {Q : State → Prop} {xt : List ExceptionTableEntry} {nm : String} {L : Nat} {xs : Nat → Int32} {kc ks : Nat} (hX : SX g L xs) (X : CX g p s m args meth c cL_law 7 ⟨RL, nm, "([I)Z"⟩ (some .boolean) xt) (l1 : Nat) (l2 : Nat) (l3 : Nat) (l4 : Int32) (h : Hp)
    (w : ((((nI L) - (6 : Int32)) < l4 → VV g p e R s m args below meth c 7 Q kc ks 2562 [none, none, none, none, none, none, none] [.int ((1 : Int32))] h) ∧ (¬ ((nI L) - (6 : Int32)) < l4 → (∃ k1, l4 = nI k1 ∧ k1 < L ∧ ((((((xs k1) &&& (63 : Int32))).toInt < 0 ∨ 42 < (((xs k1) &&& (63 : Int32))).toInt) → VV g p e R s m args below meth c 7 Q kc ks 2555 [some (.retAddr 100), some (.ref l1), some (.ref l2), some (.ref l3), some (.int l4), none, none] [] h) ∧ (((((xs k1) &&& (63 : Int32))).toInt = 0 → VV g p e R s m args below meth c 7 Q kc ks 228 [some (.retAddr 100), some (.ref l1), some (.ref l2), some (.ref l3), some (.int l4), none, none] [] h) ∧ (((((xs k1) &&& (63 : Int32))).toInt = 1 → VV g p e R s m args below meth c 7 Q kc ks 301 [some (.retAddr 100), some (.ref l1), some (.ref l2), some (.ref l3), some (.int l4), none, none] [] h) ∧ (((((xs k1) &&& (63 : Int32))).toInt = 2 → VV g p e R s m args below meth c 7 Q kc ks 357 [some (.retAddr 100), some (.ref l1), some (.ref l2), some (.ref l3), some (.int l4), none, none] [] h) ∧ (((((xs k1) &&& (63 : Int32))).toInt = 3 → VV g p e R s m args below meth c 7 Q kc ks 370 [some (.retAddr 100), some (.ref l1), some (.ref l2), some (.ref l3), some (.int l4), none, none] [] h) ∧ (((((xs k1) &&& (63 : Int32))).toInt = 4 → VV g p e R s m args below meth c 7 Q kc ks 426 [some (.retAddr 100), some (.ref l1), some (.ref l2), some (.ref l3), some (.int l4), none, none] [] h) ∧ (((((xs k1) &&& (63 : Int32))).toInt = 5 → VV g p e R s m args below meth c 7 Q kc ks 494 [some (.retAddr 100), some (.ref l1), some (.ref l2), some (.ref l3), some (.int l4), none, none] [] h) ∧ (((((xs k1) &&& (63 : Int32))).toInt = 6 → VV g p e R s m args below meth c 7 Q kc ks 562 [some (.retAddr 100), some (.ref l1), some (.ref l2), some (.ref l3), some (.int l4), none, none] [] h) ∧ (((((xs k1) &&& (63 : Int32))).toInt = 7 → VV g p e R s m args below meth c 7 Q kc ks 587 [some (.retAddr 100), some (.ref l1), some (.ref l2), some (.ref l3), some (.int l4), none, none] [] h) ∧ (((((xs k1) &&& (63 : Int32))).toInt = 8 → VV g p e R s m args below meth c 7 Q kc ks 643 [some (.retAddr 100), some (.ref l1), some (.ref l2), some (.ref l3), some (.int l4), none, none] [] h) ∧ (((((xs k1) &&& (63 : Int32))).toInt = 9 → VV g p e R s m args below meth c 7 Q kc ks 711 [some (.retAddr 100), some (.ref l1), some (.ref l2), some (.ref l3), some (.int l4), none, none] [] h) ∧ (((((xs k1) &&& (63 : Int32))).toInt = 10 → VV g p e R s m args below meth c 7 Q kc ks 779 [some (.retAddr 100), some (.ref l1), some (.ref l2), some (.ref l3), some (.int l4), none, none] [] h) ∧ (((((xs k1) &&& (63 : Int32))).toInt = 11 → VV g p e R s m args below meth c 7 Q kc ks 847 [some (.retAddr 100), some (.ref l1), some (.ref l2), some (.ref l3), some (.int l4), none, none] [] h) ∧ (((((xs k1) &&& (63 : Int32))).toInt = 12 → VV g p e R s m args below meth c 7 Q kc ks 915 [some (.retAddr 100), some (.ref l1), some (.ref l2), some (.ref l3), some (.int l4), none, none] [] h) ∧ (((((xs k1) &&& (63 : Int32))).toInt = 13 → VV g p e R s m args below meth c 7 Q kc ks 928 [some (.retAddr 100), some (.ref l1), some (.ref l2), some (.ref l3), some (.int l4), none, none] [] h) ∧ (((((xs k1) &&& (63 : Int32))).toInt = 14 → VV g p e R s m args below meth c 7 Q kc ks 1008 [some (.retAddr 100), some (.ref l1), some (.ref l2), some (.ref l3), some (.int l4), none, none] [] h) ∧ (((((xs k1) &&& (63 : Int32))).toInt = 15 → VV g p e R s m args below meth c 7 Q kc ks 1076 [some (.retAddr 100), some (.ref l1), some (.ref l2), some (.ref l3), some (.int l4), none, none] [] h) ∧ (((((xs k1) &&& (63 : Int32))).toInt = 16 → VV g p e R s m args below meth c 7 Q kc ks 1132 [some (.retAddr 100), some (.ref l1), some (.ref l2), some (.ref l3), some (.int l4), none, none] [] h) ∧ (((((xs k1) &&& (63 : Int32))).toInt = 17 → VV g p e R s m args below meth c 7 Q kc ks 1145 [some (.retAddr 100), some (.ref l1), some (.ref l2), some (.ref l3), some (.int l4), none, none] [] h) ∧ (((((xs k1) &&& (63 : Int32))).toInt = 18 → VV g p e R s m args below meth c 7 Q kc ks 1225 [some (.retAddr 100), some (.ref l1), some (.ref l2), some (.ref l3), some (.int l4), none, none] [] h) ∧ (((((xs k1) &&& (63 : Int32))).toInt = 19 → VV g p e R s m args below meth c 7 Q kc ks 1238 [some (.retAddr 100), some (.ref l1), some (.ref l2), some (.ref l3), some (.int l4), none, none] [] h) ∧ (((((xs k1) &&& (63 : Int32))).toInt = 20 → VV g p e R s m args below meth c 7 Q kc ks 1306 [some (.retAddr 100), some (.ref l1), some (.ref l2), some (.ref l3), some (.int l4), none, none] [] h) ∧ (((((xs k1) &&& (63 : Int32))).toInt = 21 → VV g p e R s m args below meth c 7 Q kc ks 1386 [some (.retAddr 100), some (.ref l1), some (.ref l2), some (.ref l3), some (.int l4), none, none] [] h) ∧ (((((xs k1) &&& (63 : Int32))).toInt = 22 → VV g p e R s m args below meth c 7 Q kc ks 1454 [some (.retAddr 100), some (.ref l1), some (.ref l2), some (.ref l3), some (.int l4), none, none] [] h) ∧ (((((xs k1) &&& (63 : Int32))).toInt = 23 → VV g p e R s m args below meth c 7 Q kc ks 1522 [some (.retAddr 100), some (.ref l1), some (.ref l2), some (.ref l3), some (.int l4), none, none] [] h) ∧ (((((xs k1) &&& (63 : Int32))).toInt = 24 → VV g p e R s m args below meth c 7 Q kc ks 1578 [some (.retAddr 100), some (.ref l1), some (.ref l2), some (.ref l3), some (.int l4), none, none] [] h) ∧ (((((xs k1) &&& (63 : Int32))).toInt = 25 → VV g p e R s m args below meth c 7 Q kc ks 1646 [some (.retAddr 100), some (.ref l1), some (.ref l2), some (.ref l3), some (.int l4), none, none] [] h) ∧ (((((xs k1) &&& (63 : Int32))).toInt = 26 → VV g p e R s m args below meth c 7 Q kc ks 1714 [some (.retAddr 100), some (.ref l1), some (.ref l2), some (.ref l3), some (.int l4), none, none] [] h) ∧ (((((xs k1) &&& (63 : Int32))).toInt = 27 → VV g p e R s m args below meth c 7 Q kc ks 1794 [some (.retAddr 100), some (.ref l1), some (.ref l2), some (.ref l3), some (.int l4), none, none] [] h) ∧ (((((xs k1) &&& (63 : Int32))).toInt = 28 → VV g p e R s m args below meth c 7 Q kc ks 1805 [some (.retAddr 100), some (.ref l1), some (.ref l2), some (.ref l3), some (.int l4), none, none] [] h) ∧ (((((xs k1) &&& (63 : Int32))).toInt = 29 → VV g p e R s m args below meth c 7 Q kc ks 1861 [some (.retAddr 100), some (.ref l1), some (.ref l2), some (.ref l3), some (.int l4), none, none] [] h) ∧ (((((xs k1) &&& (63 : Int32))).toInt = 30 → VV g p e R s m args below meth c 7 Q kc ks 1917 [some (.retAddr 100), some (.ref l1), some (.ref l2), some (.ref l3), some (.int l4), none, none] [] h) ∧ (((((xs k1) &&& (63 : Int32))).toInt = 31 → VV g p e R s m args below meth c 7 Q kc ks 1985 [some (.retAddr 100), some (.ref l1), some (.ref l2), some (.ref l3), some (.int l4), none, none] [] h) ∧ (((((xs k1) &&& (63 : Int32))).toInt = 32 → VV g p e R s m args below meth c 7 Q kc ks 2065 [some (.retAddr 100), some (.ref l1), some (.ref l2), some (.ref l3), some (.int l4), none, none] [] h) ∧ (((((xs k1) &&& (63 : Int32))).toInt = 33 → VV g p e R s m args below meth c 7 Q kc ks 2145 [some (.retAddr 100), some (.ref l1), some (.ref l2), some (.ref l3), some (.int l4), none, none] [] h) ∧ (((((xs k1) &&& (63 : Int32))).toInt = 34 → VV g p e R s m args below meth c 7 Q kc ks 2158 [some (.retAddr 100), some (.ref l1), some (.ref l2), some (.ref l3), some (.int l4), none, none] [] h) ∧ (((((xs k1) &&& (63 : Int32))).toInt = 35 → VV g p e R s m args below meth c 7 Q kc ks 2214 [some (.retAddr 100), some (.ref l1), some (.ref l2), some (.ref l3), some (.int l4), none, none] [] h) ∧ (((((xs k1) &&& (63 : Int32))).toInt = 36 → VV g p e R s m args below meth c 7 Q kc ks 2282 [some (.retAddr 100), some (.ref l1), some (.ref l2), some (.ref l3), some (.int l4), none, none] [] h) ∧ (((((xs k1) &&& (63 : Int32))).toInt = 37 → VV g p e R s m args below meth c 7 Q kc ks 2295 [some (.retAddr 100), some (.ref l1), some (.ref l2), some (.ref l3), some (.int l4), none, none] [] h) ∧ (((((xs k1) &&& (63 : Int32))).toInt = 38 → VV g p e R s m args below meth c 7 Q kc ks 2351 [some (.retAddr 100), some (.ref l1), some (.ref l2), some (.ref l3), some (.int l4), none, none] [] h) ∧ (((((xs k1) &&& (63 : Int32))).toInt = 39 → VV g p e R s m args below meth c 7 Q kc ks 2419 [some (.retAddr 100), some (.ref l1), some (.ref l2), some (.ref l3), some (.int l4), none, none] [] h) ∧ (((((xs k1) &&& (63 : Int32))).toInt = 40 → VV g p e R s m args below meth c 7 Q kc ks 2475 [some (.retAddr 100), some (.ref l1), some (.ref l2), some (.ref l3), some (.int l4), none, none] [] h) ∧ (((((xs k1) &&& (63 : Int32))).toInt = 41 → VV g p e R s m args below meth c 7 Q kc ks 2531 [some (.retAddr 100), some (.ref l1), some (.ref l2), some (.ref l3), some (.int l4), none, none] [] h) ∧ ((((xs k1) &&& (63 : Int32))).toInt = 42 → VV g p e R s m args below meth c 7 Q kc ks 2542 [some (.retAddr 100), some (.ref l1), some (.ref l2), some (.ref l3), some (.int l4), none, none] [] h)))))))))))))))))))))))))))))))))))))))))))))))) : VV g p e R s m args below meth c 7 Q kc ks 23 [some (.retAddr 100), some (.ref l1), some (.ref l2), some (.ref l3), some (.int l4), none, none] [] h := by
  refine r_iload X dL_law_23 rfl ?_
  refine r_aload_nR X dL_law_25 rfl ?_
  refine r_slen X dL_law_26 hX ?_
  refine r_bipush X dL_law_27 (v := 6) (by decide) ?_
  refine r_isub X dL_law_29 ?_
  refine r_icmp_gt X dL_law_30 (tgt := 2561) (by decide) (fun q => ?_) (fun q => ?_)
  · have w := w.1 q
    refine r_iconst X dL_law_2561 (v := 1) (by decide) ?_
    exact VV_wk (ls' := [none, none, none, none, none, none, none]) trivial w
  · have w := w.2 q
    refine r_aload_nR X dL_law_33 rfl ?_
    refine r_iload X dL_law_34 rfl ?_
    obtain ⟨k1, ek1, ik1, w⟩ := w
    refine r_sld X dL_law_36 hX ek1 ik1 ?_
    refine r_bipush X dL_law_37 (v := 63) (by decide) ?_
    refine r_iand X dL_law_39 ?_
    refine r_table X dL_law_40 (tgt := 2555) (fun k => [228, 301, 357, 370, 426, 494, 562, 587, 643, 711, 779, 847, 915, 928, 1008, 1076, 1132, 1145, 1225, 1238, 1306, 1386, 1454, 1522, 1578, 1646, 1714, 1794, 1805, 1861, 1917, 1985, 2065, 2145, 2158, 2214, 2282, 2295, 2351, 2419, 2475, 2531, 2542].getD k 0) (fun _ => by decide) (fun k y1 y2 y3 => ?_) (fun q => ?_) (fun k y1 y2 y3 => ?_)
    · rcases (by omega : k = 0 ∨ k = 1 ∨ k = 2 ∨ k = 3 ∨ k = 4 ∨ k = 5 ∨ k = 6 ∨ k = 7 ∨ k = 8 ∨ k = 9 ∨ k = 10 ∨ k = 11 ∨ k = 12 ∨ k = 13 ∨ k = 14 ∨ k = 15 ∨ k = 16 ∨ k = 17 ∨ k = 18 ∨ k = 19 ∨ k = 20 ∨ k = 21 ∨ k = 22 ∨ k = 23 ∨ k = 24 ∨ k = 25 ∨ k = 26 ∨ k = 27 ∨ k = 28 ∨ k = 29 ∨ k = 30 ∨ k = 31 ∨ k = 32 ∨ k = 33 ∨ k = 34 ∨ k = 35 ∨ k = 36 ∨ k = 37 ∨ k = 38 ∨ k = 39 ∨ k = 40 ∨ k = 41 ∨ k = 42) with rfl | rfl | rfl | rfl | rfl | rfl | rfl | rfl | rfl | rfl | rfl | rfl | rfl | rfl | rfl | rfl | rfl | rfl | rfl | rfl | rfl | rfl | rfl | rfl | rfl | rfl | rfl | rfl | rfl | rfl | rfl | rfl | rfl | rfl | rfl | rfl | rfl | rfl | rfl | rfl | rfl | rfl | rfl <;> exact ⟨_, rfl, by decide⟩
    · have w := w.1 q
      refine VV_wk (ls' := [some (.retAddr 100), some (.ref l1), some (.ref l2), some (.ref l3), some (.int l4), none, none]) ?_ w
      exact (And.intro rfl (And.intro rfl (And.intro rfl (And.intro rfl (And.intro rfl trivial)))))
    · rcases (by omega : k = 0 ∨ k = 1 ∨ k = 2 ∨ k = 3 ∨ k = 4 ∨ k = 5 ∨ k = 6 ∨ k = 7 ∨ k = 8 ∨ k = 9 ∨ k = 10 ∨ k = 11 ∨ k = 12 ∨ k = 13 ∨ k = 14 ∨ k = 15 ∨ k = 16 ∨ k = 17 ∨ k = 18 ∨ k = 19 ∨ k = 20 ∨ k = 21 ∨ k = 22 ∨ k = 23 ∨ k = 24 ∨ k = 25 ∨ k = 26 ∨ k = 27 ∨ k = 28 ∨ k = 29 ∨ k = 30 ∨ k = 31 ∨ k = 32 ∨ k = 33 ∨ k = 34 ∨ k = 35 ∨ k = 36 ∨ k = 37 ∨ k = 38 ∨ k = 39 ∨ k = 40 ∨ k = 41 ∨ k = 42) with rfl | rfl | rfl | rfl | rfl | rfl | rfl | rfl | rfl | rfl | rfl | rfl | rfl | rfl | rfl | rfl | rfl | rfl | rfl | rfl | rfl | rfl | rfl | rfl | rfl | rfl | rfl | rfl | rfl | rfl | rfl | rfl | rfl | rfl | rfl | rfl | rfl | rfl | rfl | rfl | rfl | rfl | rfl
      · have w := w.2.1 (by omega)
        refine VV_wk (ls' := [some (.retAddr 100), some (.ref l1), some (.ref l2), some (.ref l3), some (.int l4), none, none]) ?_ w
        exact (And.intro rfl (And.intro rfl (And.intro rfl (And.intro rfl (And.intro rfl trivial)))))
      · have w := w.2.2.1 (by omega)
        refine VV_wk (ls' := [some (.retAddr 100), some (.ref l1), some (.ref l2), some (.ref l3), some (.int l4), none, none]) ?_ w
        exact (And.intro rfl (And.intro rfl (And.intro rfl (And.intro rfl (And.intro rfl trivial)))))
      · have w := w.2.2.2.1 (by omega)
        refine VV_wk (ls' := [some (.retAddr 100), some (.ref l1), some (.ref l2), some (.ref l3), some (.int l4), none, none]) ?_ w
        exact (And.intro rfl (And.intro rfl (And.intro rfl (And.intro rfl (And.intro rfl trivial)))))
      · have w := w.2.2.2.2.1 (by omega)
        refine VV_wk (ls' := [some (.retAddr 100), some (.ref l1), some (.ref l2), some (.ref l3), some (.int l4), none, none]) ?_ w
        exact (And.intro rfl (And.intro rfl (And.intro rfl (And.intro rfl (And.intro rfl trivial)))))
      · have w := w.2.2.2.2.2.1 (by omega)
        refine VV_wk (ls' := [some (.retAddr 100), some (.ref l1), some (.ref l2), some (.ref l3), some (.int l4), none, none]) ?_ w
        exact (And.intro rfl (And.intro rfl (And.intro rfl (And.intro rfl (And.intro rfl trivial)))))
      · have w := w.2.2.2.2.2.2.1 (by omega)
        refine VV_wk (ls' := [some (.retAddr 100), some (.ref l1), some (.ref l2), some (.ref l3), some (.int l4), none, none]) ?_ w
        exact (And.intro rfl (And.intro rfl (And.intro rfl (And.intro rfl (And.intro rfl trivial)))))
      · have w := w.2.2.2.2.2.2.2.1 (by omega)
        refine VV_wk (ls' := [some (.retAddr 100), some (.ref l1), some (.ref l2), some (.ref l3), some (.int l4), none, none]) ?_ w
        exact (And.intro rfl (And.intro rfl (And.intro rfl (And.intro rfl (And.intro rfl trivial)))))
      · have w := w.2.2.2.2.2.2.2.2.1 (by omega)
        refine VV_wk (ls' := [some (.retAddr 100), some (.ref l1), some (.ref l2), some (.ref l3), some (.int l4), none, none]) ?_ w
        exact (And.intro rfl (And.intro rfl (And.intro rfl (And.intro rfl (And.intro rfl trivial)))))
      · have w := w.2.2.2.2.2.2.2.2.2.1 (by omega)
        refine VV_wk (ls' := [some (.retAddr 100), some (.ref l1), some (.ref l2), some (.ref l3), some (.int l4), none, none]) ?_ w
        exact (And.intro rfl (And.intro rfl (And.intro rfl (And.intro rfl (And.intro rfl trivial)))))
      · have w := w.2.2.2.2.2.2.2.2.2.2.1 (by omega)
        refine VV_wk (ls' := [some (.retAddr 100), some (.ref l1), some (.ref l2), some (.ref l3), some (.int l4), none, none]) ?_ w
        exact (And.intro rfl (And.intro rfl (And.intro rfl (And.intro rfl (And.intro rfl trivial)))))
      · have w := w.2.2.2.2.2.2.2.2.2.2.2.1 (by omega)
        refine VV_wk (ls' := [some (.retAddr 100), some (.ref l1), some (.ref l2), some (.ref l3), some (.int l4), none, none]) ?_ w
        exact (And.intro rfl (And.intro rfl (And.intro rfl (And.intro rfl (And.intro rfl trivial)))))
      · have w := w.2.2.2.2.2.2.2.2.2.2.2.2.1 (by omega)
        refine VV_wk (ls' := [some (.retAddr 100), some (.ref l1), some (.ref l2), some (.ref l3), some (.int l4), none, none]) ?_ w
        exact (And.intro rfl (And.intro rfl (And.intro rfl (And.intro rfl (And.intro rfl trivial)))))
      · have w := w.2.2.2.2.2.2.2.2.2.2.2.2.2.1 (by omega)
        refine VV_wk (ls' := [some (.retAddr 100), some (.ref l1), some (.ref l2), some (.ref l3), some (.int l4), none, none]) ?_ w
        exact (And.intro rfl (And.intro rfl (And.intro rfl (And.intro rfl (And.intro rfl trivial)))))
      · have w := w.2.2.2.2.2.2.2.2.2.2.2.2.2.2.1 (by omega)
        refine VV_wk (ls' := [some (.retAddr 100), some (.ref l1), some (.ref l2), some (.ref l3), some (.int l4), none, none]) ?_ w
        exact (And.intro rfl (And.intro rfl (And.intro rfl (And.intro rfl (And.intro rfl trivial)))))
      · have w := w.2.2.2.2.2.2.2.2.2.2.2.2.2.2.2.1 (by omega)
        refine VV_wk (ls' := [some (.retAddr 100), some (.ref l1), some (.ref l2), some (.ref l3), some (.int l4), none, none]) ?_ w
        exact (And.intro rfl (And.intro rfl (And.intro rfl (And.intro rfl (And.intro rfl trivial)))))
      · have w := w.2.2.2.2.2.2.2.2.2.2.2.2.2.2.2.2.1 (by omega)
        refine VV_wk (ls' := [some (.retAddr 100), some (.ref l1), some (.ref l2), some (.ref l3), some (.int l4), none, none]) ?_ w
        exact (And.intro rfl (And.intro rfl (And.intro rfl (And.intro rfl (And.intro rfl trivial)))))
      · have w := w.2.2.2.2.2.2.2.2.2.2.2.2.2.2.2.2.2.1 (by omega)
        refine VV_wk (ls' := [some (.retAddr 100), some (.ref l1), some (.ref l2), some (.ref l3), some (.int l4), none, none]) ?_ w
        exact (And.intro rfl (And.intro rfl (And.intro rfl (And.intro rfl (And.intro rfl trivial)))))
      · have w := w.2.2.2.2.2.2.2.2.2.2.2.2.2.2.2.2.2.2.1 (by omega)
        refine VV_wk (ls' := [some (.retAddr 100), some (.ref l1), some (.ref l2), some (.ref l3), some (.int l4), none, none]) ?_ w
        exact (And.intro rfl (And.intro rfl (And.intro rfl (And.intro rfl (And.intro rfl trivial)))))
      · have w := w.2.2.2.2.2.2.2.2.2.2.2.2.2.2.2.2.2.2.2.1 (by omega)
        refine VV_wk (ls' := [some (.retAddr 100), some (.ref l1), some (.ref l2), some (.ref l3), some (.int l4), none, none]) ?_ w
        exact (And.intro rfl (And.intro rfl (And.intro rfl (And.intro rfl (And.intro rfl trivial)))))
      · have w := w.2.2.2.2.2.2.2.2.2.2.2.2.2.2.2.2.2.2.2.2.1 (by omega)
        refine VV_wk (ls' := [some (.retAddr 100), some (.ref l1), some (.ref l2), some (.ref l3), some (.int l4), none, none]) ?_ w
        exact (And.intro rfl (And.intro rfl (And.intro rfl (And.intro rfl (And.intro rfl trivial)))))
      · have w := w.2.2.2.2.2.2.2.2.2.2.2.2.2.2.2.2.2.2.2.2.2.1 (by omega)
        refine VV_wk (ls' := [some (.retAddr 100), some (.ref l1), some (.ref l2), some (.ref l3), some (.int l4), none, none]) ?_ w
        exact (And.intro rfl (And.intro rfl (And.intro rfl (And.intro rfl (And.intro rfl trivial)))))
      · have w := w.2.2.2.2.2.2.2.2.2.2.2.2.2.2.2.2.2.2.2.2.2.2.1 (by omega)
        refine VV_wk (ls' := [some (.retAddr 100), some (.ref l1), some (.ref l2), some (.ref l3), some (.int l4), none, none]) ?_ w
        exact (And.intro rfl (And.intro rfl (And.intro rfl (And.intro rfl (And.intro rfl trivial)))))
      · have w := w.2.2.2.2.2.2.2.2.2.2.2.2.2.2.2.2.2.2.2.2.2.2.2.1 (by omega)
        refine VV_wk (ls' := [some (.retAddr 100), some (.ref l1), some (.ref l2), some (.ref l3), some (.int l4), none, none]) ?_ w
        exact (And.intro rfl (And.intro rfl (And.intro rfl (And.intro rfl (And.intro rfl trivial)))))
      · have w := w.2.2.2.2.2.2.2.2.2.2.2.2.2.2.2.2.2.2.2.2.2.2.2.2.1 (by omega)
        refine VV_wk (ls' := [some (.retAddr 100), some (.ref l1), some (.ref l2), some (.ref l3), some (.int l4), none, none]) ?_ w
        exact (And.intro rfl (And.intro rfl (And.intro rfl (And.intro rfl (And.intro rfl trivial)))))
      · have w := w.2.2.2.2.2.2.2.2.2.2.2.2.2.2.2.2.2.2.2.2.2.2.2.2.2.1 (by omega)
        refine VV_wk (ls' := [some (.retAddr 100), some (.ref l1), some (.ref l2), some (.ref l3), some (.int l4), none, none]) ?_ w
        exact (And.intro rfl (And.intro rfl (And.intro rfl (And.intro rfl (And.intro rfl trivial)))))
      · have w := w.2.2.2.2.2.2.2.2.2.2.2.2.2.2.2.2.2.2.2.2.2.2.2.2.2.2.1 (by omega)
        refine VV_wk (ls' := [some (.retAddr 100), some (.ref l1), some (.ref l2), some (.ref l3), some (.int l4), none, none]) ?_ w
        exact (And.intro rfl (And.intro rfl (And.intro rfl (And.intro rfl (And.intro rfl trivial)))))
      · have w := w.2.2.2.2.2.2.2.2.2.2.2.2.2.2.2.2.2.2.2.2.2.2.2.2.2.2.2.1 (by omega)
        refine VV_wk (ls' := [some (.retAddr 100), some (.ref l1), some (.ref l2), some (.ref l3), some (.int l4), none, none]) ?_ w
        exact (And.intro rfl (And.intro rfl (And.intro rfl (And.intro rfl (And.intro rfl trivial)))))
      · have w := w.2.2.2.2.2.2.2.2.2.2.2.2.2.2.2.2.2.2.2.2.2.2.2.2.2.2.2.2.1 (by omega)
        refine VV_wk (ls' := [some (.retAddr 100), some (.ref l1), some (.ref l2), some (.ref l3), some (.int l4), none, none]) ?_ w
        exact (And.intro rfl (And.intro rfl (And.intro rfl (And.intro rfl (And.intro rfl trivial)))))
      · have w := w.2.2.2.2.2.2.2.2.2.2.2.2.2.2.2.2.2.2.2.2.2.2.2.2.2.2.2.2.2.1 (by omega)
        refine VV_wk (ls' := [some (.retAddr 100), some (.ref l1), some (.ref l2), some (.ref l3), some (.int l4), none, none]) ?_ w
        exact (And.intro rfl (And.intro rfl (And.intro rfl (And.intro rfl (And.intro rfl trivial)))))
      · have w := w.2.2.2.2.2.2.2.2.2.2.2.2.2.2.2.2.2.2.2.2.2.2.2.2.2.2.2.2.2.2.1 (by omega)
        refine VV_wk (ls' := [some (.retAddr 100), some (.ref l1), some (.ref l2), some (.ref l3), some (.int l4), none, none]) ?_ w
        exact (And.intro rfl (And.intro rfl (And.intro rfl (And.intro rfl (And.intro rfl trivial)))))
      · have w := w.2.2.2.2.2.2.2.2.2.2.2.2.2.2.2.2.2.2.2.2.2.2.2.2.2.2.2.2.2.2.2.1 (by omega)
        refine VV_wk (ls' := [some (.retAddr 100), some (.ref l1), some (.ref l2), some (.ref l3), some (.int l4), none, none]) ?_ w
        exact (And.intro rfl (And.intro rfl (And.intro rfl (And.intro rfl (And.intro rfl trivial)))))
      · have w := w.2.2.2.2.2.2.2.2.2.2.2.2.2.2.2.2.2.2.2.2.2.2.2.2.2.2.2.2.2.2.2.2.1 (by omega)
        refine VV_wk (ls' := [some (.retAddr 100), some (.ref l1), some (.ref l2), some (.ref l3), some (.int l4), none, none]) ?_ w
        exact (And.intro rfl (And.intro rfl (And.intro rfl (And.intro rfl (And.intro rfl trivial)))))
      · have w := w.2.2.2.2.2.2.2.2.2.2.2.2.2.2.2.2.2.2.2.2.2.2.2.2.2.2.2.2.2.2.2.2.2.1 (by omega)
        refine VV_wk (ls' := [some (.retAddr 100), some (.ref l1), some (.ref l2), some (.ref l3), some (.int l4), none, none]) ?_ w
        exact (And.intro rfl (And.intro rfl (And.intro rfl (And.intro rfl (And.intro rfl trivial)))))
      · have w := w.2.2.2.2.2.2.2.2.2.2.2.2.2.2.2.2.2.2.2.2.2.2.2.2.2.2.2.2.2.2.2.2.2.2.1 (by omega)
        refine VV_wk (ls' := [some (.retAddr 100), some (.ref l1), some (.ref l2), some (.ref l3), some (.int l4), none, none]) ?_ w
        exact (And.intro rfl (And.intro rfl (And.intro rfl (And.intro rfl (And.intro rfl trivial)))))
      · have w := w.2.2.2.2.2.2.2.2.2.2.2.2.2.2.2.2.2.2.2.2.2.2.2.2.2.2.2.2.2.2.2.2.2.2.2.1 (by omega)
        refine VV_wk (ls' := [some (.retAddr 100), some (.ref l1), some (.ref l2), some (.ref l3), some (.int l4), none, none]) ?_ w
        exact (And.intro rfl (And.intro rfl (And.intro rfl (And.intro rfl (And.intro rfl trivial)))))
      · have w := w.2.2.2.2.2.2.2.2.2.2.2.2.2.2.2.2.2.2.2.2.2.2.2.2.2.2.2.2.2.2.2.2.2.2.2.2.1 (by omega)
        refine VV_wk (ls' := [some (.retAddr 100), some (.ref l1), some (.ref l2), some (.ref l3), some (.int l4), none, none]) ?_ w
        exact (And.intro rfl (And.intro rfl (And.intro rfl (And.intro rfl (And.intro rfl trivial)))))
      · have w := w.2.2.2.2.2.2.2.2.2.2.2.2.2.2.2.2.2.2.2.2.2.2.2.2.2.2.2.2.2.2.2.2.2.2.2.2.2.1 (by omega)
        refine VV_wk (ls' := [some (.retAddr 100), some (.ref l1), some (.ref l2), some (.ref l3), some (.int l4), none, none]) ?_ w
        exact (And.intro rfl (And.intro rfl (And.intro rfl (And.intro rfl (And.intro rfl trivial)))))
      · have w := w.2.2.2.2.2.2.2.2.2.2.2.2.2.2.2.2.2.2.2.2.2.2.2.2.2.2.2.2.2.2.2.2.2.2.2.2.2.2.1 (by omega)
        refine VV_wk (ls' := [some (.retAddr 100), some (.ref l1), some (.ref l2), some (.ref l3), some (.int l4), none, none]) ?_ w
        exact (And.intro rfl (And.intro rfl (And.intro rfl (And.intro rfl (And.intro rfl trivial)))))
      · have w := w.2.2.2.2.2.2.2.2.2.2.2.2.2.2.2.2.2.2.2.2.2.2.2.2.2.2.2.2.2.2.2.2.2.2.2.2.2.2.2.1 (by omega)
        refine VV_wk (ls' := [some (.retAddr 100), some (.ref l1), some (.ref l2), some (.ref l3), some (.int l4), none, none]) ?_ w
        exact (And.intro rfl (And.intro rfl (And.intro rfl (And.intro rfl (And.intro rfl trivial)))))
      · have w := w.2.2.2.2.2.2.2.2.2.2.2.2.2.2.2.2.2.2.2.2.2.2.2.2.2.2.2.2.2.2.2.2.2.2.2.2.2.2.2.2.1 (by omega)
        refine VV_wk (ls' := [some (.retAddr 100), some (.ref l1), some (.ref l2), some (.ref l3), some (.int l4), none, none]) ?_ w
        exact (And.intro rfl (And.intro rfl (And.intro rfl (And.intro rfl (And.intro rfl trivial)))))
      · have w := w.2.2.2.2.2.2.2.2.2.2.2.2.2.2.2.2.2.2.2.2.2.2.2.2.2.2.2.2.2.2.2.2.2.2.2.2.2.2.2.2.2.1 (by omega)
        refine VV_wk (ls' := [some (.retAddr 100), some (.ref l1), some (.ref l2), some (.ref l3), some (.int l4), none, none]) ?_ w
        exact (And.intro rfl (And.intro rfl (And.intro rfl (And.intro rfl (And.intro rfl trivial)))))
      · have w := w.2.2.2.2.2.2.2.2.2.2.2.2.2.2.2.2.2.2.2.2.2.2.2.2.2.2.2.2.2.2.2.2.2.2.2.2.2.2.2.2.2.2.1 (by omega)
        refine VV_wk (ls' := [some (.retAddr 100), some (.ref l1), some (.ref l2), some (.ref l3), some (.int l4), none, none]) ?_ w
        exact (And.intro rfl (And.intro rfl (And.intro rfl (And.intro rfl (And.intro rfl trivial)))))
      · have w := w.2.2.2.2.2.2.2.2.2.2.2.2.2.2.2.2.2.2.2.2.2.2.2.2.2.2.2.2.2.2.2.2.2.2.2.2.2.2.2.2.2.2.2 (by omega)
        refine VV_wk (ls' := [some (.retAddr 100), some (.ref l1), some (.ref l2), some (.ref l3), some (.int l4), none, none]) ?_ w
        exact (And.intro rfl (And.intro rfl (And.intro rfl (And.intro rfl (And.intro rfl trivial)))))

set_option maxRecDepth 10000 in
theorem b_L_law_228 {g : GG} {p : Program} {e : Env} {R : Room} {s : State} {m : MethodId} {args : Array Value} {below : List Frame} {meth : Method} {c : Code} {Q : State → Prop} {xt : List ExceptionTableEntry} {nm : String} {L : Nat} {xs : Nat → Int32} {kc ks : Nat} (hX : SX g L xs) (X : CX g p s m args meth c cL_law 7 ⟨RL, nm, "([I)Z"⟩ (some .boolean) xt) (l1 : Nat) (l2 : Nat) (l3 : Nat) (l4 : Int32) (h : Hp)
    (w : (∃ k1, (l4 + (1 : Int32)) = nI k1 ∧ k1 < L ∧ (∃ k2, (l4 + (2 : Int32)) = nI k2 ∧ k2 < L ∧ (∃ k3, (l4 + (3 : Int32)) = nI k3 ∧ k3 < L ∧ (∃ k4, (l4 + (4 : Int32)) = nI k4 ∧ k4 < L ∧ (∃ k5, (l4 + (5 : Int32)) = nI k5 ∧ k5 < L ∧ (∃ fs5, oF h l1 10 = some fs5 ∧ (∃ d5 P5 m5 n5, CT g d5 yX11_feed (wsC yX11_feed cX11_feed 6 (some (.int))) [.ref l1, .int ((xs k1)), .int ((xs k2)), .int ((xs k3)), .int ((xs k4)), .int ((xs k5))] h m5 n5 P5 noT ∧ ((d5 + 1 ≤ R.frames ∧ 60 * (d5 + 1) + 200 ≤ R.locals) ∧ kc + m5 ≤ R.cells ∧ ks + n5 ≤ R.slots) ∧ (∀ v h5, P5 v h5 → ∃ v7, v = some (.int v7) ∧ (∃ k8, (l4 + (1 : Int32)) = nI k8 ∧ k8 < L ∧ (∃ k9, (l4 + (2 : Int32)) = nI k9 ∧ k9 < L ∧ (∃ k10, (l4 + (3 : Int32)) = nI k10 ∧ k10 < L ∧ (∃ k11, (l4 + (4 : Int32)) = nI k11 ∧ k11 < L ∧ (∃ k12, (l4 + (5 : Int32)) = nI k12 ∧ k12 < L ∧ (∃ fs12, oF h5 l2 11 = some fs12 ∧ (∃ d12 P12 m12 n12, CT g d12 yX12_feed (wsC yX12_feed cX12_feed 6 (some (.int))) [.ref l2, .int ((xs k8)), .int ((xs k9)), .int ((xs k10)), .int ((xs k11)), .int ((xs k12))] h5 m12 n12 P12 noT ∧ ((d12 + 1 ≤ R.frames ∧ 60 * (d12 + 1) + 200 ≤ R.locals) ∧ (kc + m5) + m12 ≤ R.cells ∧ (ks + n5) + n12 ≤ R.slots) ∧ (∀ v h12, P12 v h12 → ∃ v14, v = some (.int v14) ∧ ((v7 = v14 → VV g p e R s m args below meth c 7 Q (((kc + m5) + m12)) (((ks + n5) + n12)) 2555 [some (.retAddr 100), some (.ref l1), some (.ref l2), some (.ref l3), some (.int l4), none, none] [] h12) ∧ (¬ v7 = v14 → VV g p e R s m args below meth c 7 Q (((kc + m5) + m12)) (((ks + n5) + n12)) 300 [none, none, none, none, none, none, none] [.int ((0 : Int32))] h12))))))))))))))))))) : VV g p e R s m args below meth c 7 Q kc ks 228 [some (.retAddr 100), some (.ref l1), some (.ref l2), some (.ref l3), some (.int l4), none, none] [] h := by
  refine r_aload_n X dL_law_228 rfl ?_
  refine r_aload_nR X dL_law_229 rfl ?_
  refine r_iload X dL_law_230 rfl ?_
  refine r_iconst X dL_law_232 (v := 1) (by decide) ?_
  refine r_iadd X dL_law_233 ?_
  obtain ⟨k1, ek1, ik1, w⟩ := w
  refine r_sld X dL_law_234 hX ek1 ik1 ?_
  refine r_aload_nR X dL_law_235 rfl ?_
  refine r_iload X dL_law_236 rfl ?_
  refine r_iconst X dL_law_238 (v := 2) (by decide) ?_
  refine r_iadd X dL_law_239 ?_
  obtain ⟨k2, ek2, ik2, w⟩ := w
  refine r_sld X dL_law_240 hX ek2 ik2 ?_
  refine r_aload_nR X dL_law_241 rfl ?_
  refine r_iload X dL_law_242 rfl ?_
  refine r_iconst X dL_law_244 (v := 3) (by decide) ?_
  refine r_iadd X dL_law_245 ?_
  obtain ⟨k3, ek3, ik3, w⟩ := w
  refine r_sld X dL_law_246 hX ek3 ik3 ?_
  refine r_aload_nR X dL_law_247 rfl ?_
  refine r_iload X dL_law_248 rfl ?_
  refine r_iconst X dL_law_250 (v := 4) (by decide) ?_
  refine r_iadd X dL_law_251 ?_
  obtain ⟨k4, ek4, ik4, w⟩ := w
  refine r_sld X dL_law_252 hX ek4 ik4 ?_
  refine r_aload_nR X dL_law_253 rfl ?_
  refine r_iload X dL_law_254 rfl ?_
  refine r_iconst X dL_law_256 (v := 5) (by decide) ?_
  refine r_iadd X dL_law_257 ?_
  obtain ⟨k5, ek5, ik5, w⟩ := w
  refine r_sld X dL_law_258 hX ek5 ik5 ?_
  obtain ⟨fs5, es5, w⟩ := w
  obtain ⟨d5, P5, m5, n5, ct5, w⟩ := w
  obtain ⟨⟨x1, x2⟩, w⟩ := w
  refine r_callVC X (As := [.int ((xs k1)), .int ((xs k2)), .int ((xs k3)), .int ((xs k4)), .int ((xs k5))]) dL_law_259 mk_X11_feed ⟨ml_L_116, im_X11_feed, se_X11_feed⟩ (oF_s es5) (ci_X11).1 rfl rfl rfl (by simp [Value.category]) x1 x2 ct5 (fun _ _ z => z.elim) (fun v h5 w1 => ?_)
  have w := w v h5 w1
  obtain ⟨v7, rfl, w⟩ := w
  refine r_aload_n X dL_law_262 rfl ?_
  refine r_aload_nR X dL_law_263 rfl ?_
  refine r_iload X dL_law_264 rfl ?_
  refine r_iconst X dL_law_266 (v := 1) (by decide) ?_
  refine r_iadd X dL_law_267 ?_
  obtain ⟨k8, ek8, ik8, w⟩ := w
  refine r_sld X dL_law_268 hX ek8 ik8 ?_
  refine r_aload_nR X dL_law_269 rfl ?_
  refine r_iload X dL_law_270 rfl ?_
  refine r_iconst X dL_law_272 (v := 2) (by decide) ?_
  refine r_iadd X dL_law_273 ?_
  obtain ⟨k9, ek9, ik9, w⟩ := w
  refine r_sld X dL_law_274 hX ek9 ik9 ?_
  refine r_aload_nR X dL_law_275 rfl ?_
  refine r_iload X dL_law_276 rfl ?_
  refine r_iconst X dL_law_278 (v := 3) (by decide) ?_
  refine r_iadd X dL_law_279 ?_
  obtain ⟨k10, ek10, ik10, w⟩ := w
  refine r_sld X dL_law_280 hX ek10 ik10 ?_
  refine r_aload_nR X dL_law_281 rfl ?_
  refine r_iload X dL_law_282 rfl ?_
  refine r_iconst X dL_law_284 (v := 4) (by decide) ?_
  refine r_iadd X dL_law_285 ?_
  obtain ⟨k11, ek11, ik11, w⟩ := w
  refine r_sld X dL_law_286 hX ek11 ik11 ?_
  refine r_aload_nR X dL_law_287 rfl ?_
  refine r_iload X dL_law_288 rfl ?_
  refine r_iconst X dL_law_290 (v := 5) (by decide) ?_
  refine r_iadd X dL_law_291 ?_
  obtain ⟨k12, ek12, ik12, w⟩ := w
  refine r_sld X dL_law_292 hX ek12 ik12 ?_
  obtain ⟨fs12, es12, w⟩ := w
  obtain ⟨d12, P12, m12, n12, ct12, w⟩ := w
  obtain ⟨⟨x1, x2⟩, w⟩ := w
  refine r_callVC X (As := [.int ((xs k8)), .int ((xs k9)), .int ((xs k10)), .int ((xs k11)), .int ((xs k12))]) dL_law_293 mk_X12_feed ⟨ml_L_120, im_X12_feed, se_X12_feed⟩ (oF_s es12) (ci_X12).1 rfl rfl rfl (by simp [Value.category]) x1 x2 ct12 (fun _ _ z => z.elim) (fun v h12 w1 => ?_)
  have w := w v h12 w1
  obtain ⟨v14, rfl, w⟩ := w
  refine r_icmp_eq X dL_law_296 (tgt := 2555) (by decide) (fun q => ?_) (fun q => ?_)
  · have w := w.1 q
    refine VV_wk (ls' := [some (.retAddr 100), some (.ref l1), some (.ref l2), some (.ref l3), some (.int l4), none, none]) ?_ w
    exact (And.intro rfl (And.intro rfl (And.intro rfl (And.intro rfl (And.intro rfl trivial)))))
  · have w := w.2 q
    refine r_iconst X dL_law_299 (v := 0) (by decide) ?_
    exact VV_wk (ls' := [none, none, none, none, none, none, none]) trivial w

set_option maxRecDepth 10000 in
theorem b_L_law_301 {g : GG} {p : Program} {e : Env} {R : Room} {s : State} {m : MethodId} {args : Array Value} {below : List Frame} {meth : Method} {c : Code} {Q : State → Prop} {xt : List ExceptionTableEntry} {nm : String} {L : Nat} {xs : Nat → Int32} {kc ks : Nat} (hX : SX g L xs) (X : CX g p s m args meth c cL_law 7 ⟨RL, nm, "([I)Z"⟩ (some .boolean) xt) (l1 : Nat) (l2 : Nat) (l3 : Nat) (l4 : Int32) (h : Hp)
    (w : (∃ k1, (l4 + (1 : Int32)) = nI k1 ∧ k1 < L ∧ (∃ d1 P1 m1 n1, CT g d1 yL_ring (wsH yL_ring cL_ring 4 (some .int) [(0, 9, 12, 13)]) [.ref l1, .int ((xs k1)), .ref l3] h m1 n1 P1 noT ∧ ((d1 + 1 ≤ R.frames ∧ 60 * (d1 + 1) + 200 ≤ R.locals) ∧ kc + m1 ≤ R.cells ∧ ks + n1 ≤ R.slots) ∧ (∀ v h1, P1 v h1 → ∃ v3, v = some (.int v3) ∧ (∃ k4, (l4 + (1 : Int32)) = nI k4 ∧ k4 < L ∧ (∃ fs4, oF h1 l2 11 = some fs4 ∧ (∃ d4 P4 m4 n4, CT g d4 yX12_ring (wsC yX12_ring cX12_ring 3 (some (.int))) [.ref l2, .int ((xs k4))] h1 m4 n4 P4 noT ∧ ((d4 + 1 ≤ R.frames ∧ 60 * (d4 + 1) + 200 ≤ R.locals) ∧ (kc + m1) + m4 ≤ R.cells ∧ (ks + n1) + n4 ≤ R.slots) ∧ (∀ v h4, P4 v h4 → ∃ v6, v = some (.int v6) ∧ (∃ fs6, oF h4 l2 11 = some fs6 ∧ (∃ d6 P6 m6 n6, CT g d6 yX12_thrown (wsC yX12_thrown cX12_thrown 1 (some (.int))) [.ref l2] h4 m6 n6 P6 noT ∧ ((d6 + 1 ≤ R.frames ∧ 60 * (d6 + 1) + 200 ≤ R.locals) ∧ ((kc + m1) + m4) + m6 ≤ R.cells ∧ ((ks + n1) + n4) + n6 ≤ R.slots) ∧ (∀ v h6, P6 v h6 → ∃ v8, v = some (.int v8) ∧ ((v8 = v3 → ((¬ v3 = 0 → VV g p e R s m args below meth c 7 Q ((((kc + m1) + m4) + m6)) ((((ks + n1) + n4) + n6)) 354 [some (.retAddr 100), some (.ref l1), some (.ref l2), some (.ref l3), some (.int l4), none, none] [] h6) ∧ (v3 = 0 → (∃ v9, aJ h6 l3 ((0 : Int32)) = some v9 ∧ (((lg_cmp v9 ((Int32.toInt64 v6))) = 0 → VV g p e R s m args below meth c 7 Q ((((kc + m1) + m4) + m6)) ((((ks + n1) + n4) + n6)) 354 [some (.retAddr 100), some (.ref l1), some (.ref l2), some (.ref l3), some (.int l4), none, none] [] h6) ∧ (¬ (lg_cmp v9 ((Int32.toInt64 v6))) = 0 → VV g p e R s m args below meth c 7 Q ((((kc + m1) + m4) + m6)) ((((ks + n1) + n4) + n6)) 353 [none, none, none, none, none, none, none] [.int ((0 : Int32))] h6)))))) ∧ (¬ v8 = v3 → VV g p e R s m args below meth c 7 Q ((((kc + m1) + m4) + m6)) ((((ks + n1) + n4) + n6)) 336 [none, none, none, none, none, none, none] [.int ((0 : Int32))] h6))))))))))))) : VV g p e R s m args below meth c 7 Q kc ks 301 [some (.retAddr 100), some (.ref l1), some (.ref l2), some (.ref l3), some (.int l4), none, none] [] h := by
  refine r_aload_n X dL_law_301 rfl ?_
  refine r_aload_nR X dL_law_302 rfl ?_
  refine r_iload X dL_law_303 rfl ?_
  refine r_iconst X dL_law_305 (v := 1) (by decide) ?_
  refine r_iadd X dL_law_306 ?_
  obtain ⟨k1, ek1, ik1, w⟩ := w
  refine r_sld X dL_law_307 hX ek1 ik1 ?_
  refine r_aload_n X dL_law_308 rfl ?_
  obtain ⟨d1, P1, m1, n1, ct1, w⟩ := w
  obtain ⟨⟨x1, x2⟩, w⟩ := w
  refine r_callSH X (As := [.ref l1, .int ((xs k1)), .ref l3]) dL_law_309 mh_L_ring ⟨ml_L_121, sm_L_ring⟩ rfl rfl (by simp [Value.category]) x1 x2 ct1 (fun v h1 w1 => ?_)
  have w := w v h1 w1
  obtain ⟨v3, rfl, w⟩ := w
  refine r_istore X dL_law_312 (by decide) rfl ?_
  refine r_aload_n X dL_law_314 rfl ?_
  refine r_aload_nR X dL_law_315 rfl ?_
  refine r_iload X dL_law_316 rfl ?_
  refine r_iconst X dL_law_318 (v := 1) (by decide) ?_
  refine r_iadd X dL_law_319 ?_
  obtain ⟨k4, ek4, ik4, w⟩ := w
  refine r_sld X dL_law_320 hX ek4 ik4 ?_
  obtain ⟨fs4, es4, w⟩ := w
  obtain ⟨d4, P4, m4, n4, ct4, w⟩ := w
  obtain ⟨⟨x1, x2⟩, w⟩ := w
  refine r_callVC X (As := [.int ((xs k4))]) dL_law_321 mk_X12_ring ⟨ml_L_126, im_X12_ring, se_X12_ring⟩ (oF_s es4) (ci_X12).1 rfl rfl rfl (by simp [Value.category]) x1 x2 ct4 (fun _ _ z => z.elim) (fun v h4 w1 => ?_)
  have w := w v h4 w1
  obtain ⟨v6, rfl, w⟩ := w
  refine r_istore X dL_law_324 (by decide) rfl ?_
  refine r_aload_n X dL_law_326 rfl ?_
  obtain ⟨fs6, es6, w⟩ := w
  obtain ⟨d6, P6, m6, n6, ct6, w⟩ := w
  obtain ⟨⟨x1, x2⟩, w⟩ := w
  refine r_callVC X (As := []) dL_law_327 mk_X12_thrown ⟨ml_L_127, im_X12_thrown, se_X12_thrown⟩ (oF_s es6) (ci_X12).1 rfl rfl rfl (by simp [Value.category]) x1 x2 ct6 (fun _ _ z => z.elim) (fun v h6 w1 => ?_)
  have w := w v h6 w1
  obtain ⟨v8, rfl, w⟩ := w
  refine r_iload X dL_law_330 rfl ?_
  refine r_icmp_eq X dL_law_332 (tgt := 337) (by decide) (fun q => ?_) (fun q => ?_)
  · have w := w.1 q
    refine r_iload X dL_law_337 rfl ?_
    refine r_if_ne X dL_law_339 (tgt := 354) (by decide) (fun q => ?_) (fun q => ?_)
    · have w := w.1 q
      refine VV_wk (ls' := [some (.retAddr 100), some (.ref l1), some (.ref l2), some (.ref l3), some (.int l4), none, none]) ?_ w
      exact (And.intro rfl (And.intro rfl (And.intro rfl (And.intro rfl (And.intro rfl trivial)))))
    · have w := w.2 q
      refine r_aload_n X dL_law_342 rfl ?_
      refine r_iconst X dL_law_343 (v := 0) (by decide) ?_
      obtain ⟨v9, ev9, w⟩ := w
      obtain ⟨nv9, fv9, cv9, iv9, qv9⟩ := aJ_s ev9
      refine r_lald X dL_law_344 cv9 iv9 ?_
      rw [qv9]
      refine r_iload X dL_law_345 rfl ?_
      refine r_i2l X dL_law_347 ?_
      refine r_lcmp X dL_law_348 ?_
      refine r_if_eq X dL_law_349 (tgt := 354) (by decide) (fun q => ?_) (fun q => ?_)
      · have w := w.1 q
        refine VV_wk (ls' := [some (.retAddr 100), some (.ref l1), some (.ref l2), some (.ref l3), some (.int l4), none, none]) ?_ w
        exact (And.intro rfl (And.intro rfl (And.intro rfl (And.intro rfl (And.intro rfl trivial)))))
      · have w := w.2 q
        refine r_iconst X dL_law_352 (v := 0) (by decide) ?_
        exact VV_wk (ls' := [none, none, none, none, none, none, none]) trivial w
  · have w := w.2 q
    refine r_iconst X dL_law_335 (v := 0) (by decide) ?_
    exact VV_wk (ls' := [none, none, none, none, none, none, none]) trivial w

set_option maxRecDepth 10000 in
theorem b_L_law_354 {g : GG} {p : Program} {e : Env} {R : Room} {s : State} {m : MethodId} {args : Array Value} {below : List Frame} {meth : Method} {c : Code} {Q : State → Prop} {xt : List ExceptionTableEntry} {nm : String} {L : Nat} {xs : Nat → Int32} {kc ks : Nat} (hX : SX g L xs) (X : CX g p s m args meth c cL_law 7 ⟨RL, nm, "([I)Z"⟩ (some .boolean) xt) (l1 : Nat) (l2 : Nat) (l3 : Nat) (l4 : Int32) (h : Hp)
    (w : VV g p e R s m args below meth c 7 Q kc ks 2555 [some (.retAddr 100), some (.ref l1), some (.ref l2), some (.ref l3), some (.int l4), none, none] [] h) : VV g p e R s m args below meth c 7 Q kc ks 354 [some (.retAddr 100), some (.ref l1), some (.ref l2), some (.ref l3), some (.int l4), none, none] [] h := by
  refine r_goto X dL_law_354 (tgt := 2555) (by decide) ?_
  refine VV_wk (ls' := [some (.retAddr 100), some (.ref l1), some (.ref l2), some (.ref l3), some (.int l4), none, none]) ?_ w
  exact (And.intro rfl (And.intro rfl (And.intro rfl (And.intro rfl (And.intro rfl trivial)))))

set_option maxRecDepth 10000 in
theorem b_L_law_357 {g : GG} {p : Program} {e : Env} {R : Room} {s : State} {m : MethodId} {args : Array Value} {below : List Frame} {meth : Method} {c : Code} {Q : State → Prop} {xt : List ExceptionTableEntry} {nm : String} {L : Nat} {xs : Nat → Int32} {kc ks : Nat} (hX : SX g L xs) (X : CX g p s m args meth c cL_law 7 ⟨RL, nm, "([I)Z"⟩ (some .boolean) xt) (l1 : Nat) (l2 : Nat) (l3 : Nat) (l4 : Int32) (h : Hp)
    (w : (∃ fs0, oF h l1 10 = some fs0 ∧ (∃ d0 P0 m0 n0, CT g d0 yX11_fault (wsC yX11_fault cX11_fault 1 (some (.int))) [.ref l1] h m0 n0 P0 noT ∧ ((d0 + 1 ≤ R.frames ∧ 60 * (d0 + 1) + 200 ≤ R.locals) ∧ kc + m0 ≤ R.cells ∧ ks + n0 ≤ R.slots) ∧ (∀ v h0, P0 v h0 → ∃ v2, v = some (.int v2) ∧ (∃ fs2, oF h0 l2 11 = some fs2 ∧ (∃ d2 P2 m2 n2, CT g d2 yX12_fault (wsC yX12_fault cX12_fault 1 (some (.int))) [.ref l2] h0 m2 n2 P2 noT ∧ ((d2 + 1 ≤ R.frames ∧ 60 * (d2 + 1) + 200 ≤ R.locals) ∧ (kc + m0) + m2 ≤ R.cells ∧ (ks + n0) + n2 ≤ R.slots) ∧ (∀ v h2, P2 v h2 → ∃ v4, v = some (.int v4) ∧ ((v2 = v4 → VV g p e R s m args below meth c 7 Q (((kc + m0) + m2)) (((ks + n0) + n2)) 2555 [some (.retAddr 100), some (.ref l1), some (.ref l2), some (.ref l3), some (.int l4), none, none] [] h2) ∧ (¬ v2 = v4 → VV g p e R s m args below meth c 7 Q (((kc + m0) + m2)) (((ks + n0) + n2)) 369 [none, none, none, none, none, none, none] [.int ((0 : Int32))] h2))))))))) : VV g p e R s m args below meth c 7 Q kc ks 357 [some (.retAddr 100), some (.ref l1), some (.ref l2), some (.ref l3), some (.int l4), none, none] [] h := by
  refine r_aload_n X dL_law_357 rfl ?_
  obtain ⟨fs0, es0, w⟩ := w
  obtain ⟨d0, P0, m0, n0, ct0, w⟩ := w
  obtain ⟨⟨x1, x2⟩, w⟩ := w
  refine r_callVC X (As := []) dL_law_358 mk_X11_fault ⟨ml_L_131, im_X11_fault, se_X11_fault⟩ (oF_s es0) (ci_X11).1 rfl rfl rfl (by simp [Value.category]) x1 x2 ct0 (fun _ _ z => z.elim) (fun v h0 w1 => ?_)
  have w := w v h0 w1
  obtain ⟨v2, rfl, w⟩ := w
  refine r_aload_n X dL_law_361 rfl ?_
  obtain ⟨fs2, es2, w⟩ := w
  obtain ⟨d2, P2, m2, n2, ct2, w⟩ := w
  obtain ⟨⟨x1, x2⟩, w⟩ := w
  refine r_callVC X (As := []) dL_law_362 mk_X12_fault ⟨ml_L_134, im_X12_fault, se_X12_fault⟩ (oF_s es2) (ci_X12).1 rfl rfl rfl (by simp [Value.category]) x1 x2 ct2 (fun _ _ z => z.elim) (fun v h2 w1 => ?_)
  have w := w v h2 w1
  obtain ⟨v4, rfl, w⟩ := w
  refine r_icmp_eq X dL_law_365 (tgt := 2555) (by decide) (fun q => ?_) (fun q => ?_)
  · have w := w.1 q
    refine VV_wk (ls' := [some (.retAddr 100), some (.ref l1), some (.ref l2), some (.ref l3), some (.int l4), none, none]) ?_ w
    exact (And.intro rfl (And.intro rfl (And.intro rfl (And.intro rfl (And.intro rfl trivial)))))
  · have w := w.2 q
    refine r_iconst X dL_law_368 (v := 0) (by decide) ?_
    exact VV_wk (ls' := [none, none, none, none, none, none, none]) trivial w

set_option maxRecDepth 10000 in
theorem b_L_law_370 {g : GG} {p : Program} {e : Env} {R : Room} {s : State} {m : MethodId} {args : Array Value} {below : List Frame} {meth : Method} {c : Code} {Q : State → Prop} {xt : List ExceptionTableEntry} {nm : String} {L : Nat} {xs : Nat → Int32} {kc ks : Nat} (hX : SX g L xs) (X : CX g p s m args meth c cL_law 7 ⟨RL, nm, "([I)Z"⟩ (some .boolean) xt) (l1 : Nat) (l2 : Nat) (l3 : Nat) (l4 : Int32) (h : Hp)
    (w : (∃ k1, (l4 + (1 : Int32)) = nI k1 ∧ k1 < L ∧ (∃ d1 P1 m1 n1, CT g d1 yL_count (wsH yL_count cL_count 4 (some .int) [(0, 9, 12, 18)]) [.ref l1, .int ((xs k1)), .ref l3] h m1 n1 P1 noT ∧ ((d1 + 1 ≤ R.frames ∧ 60 * (d1 + 1) + 200 ≤ R.locals) ∧ kc + m1 ≤ R.cells ∧ ks + n1 ≤ R.slots) ∧ (∀ v h1, P1 v h1 → ∃ v3, v = some (.int v3) ∧ (∃ k4, (l4 + (1 : Int32)) = nI k4 ∧ k4 < L ∧ (∃ fs4, oF h1 l2 11 = some fs4 ∧ (∃ d4 P4 m4 n4, CT g d4 yX12_count (wsC yX12_count cX12_count 2 (some (.int))) [.ref l2, .int ((xs k4))] h1 m4 n4 P4 noT ∧ ((d4 + 1 ≤ R.frames ∧ 60 * (d4 + 1) + 200 ≤ R.locals) ∧ (kc + m1) + m4 ≤ R.cells ∧ (ks + n1) + n4 ≤ R.slots) ∧ (∀ v h4, P4 v h4 → ∃ v6, v = some (.int v6) ∧ (∃ fs6, oF h4 l2 11 = some fs6 ∧ (∃ d6 P6 m6 n6, CT g d6 yX12_thrown (wsC yX12_thrown cX12_thrown 1 (some (.int))) [.ref l2] h4 m6 n6 P6 noT ∧ ((d6 + 1 ≤ R.frames ∧ 60 * (d6 + 1) + 200 ≤ R.locals) ∧ ((kc + m1) + m4) + m6 ≤ R.cells ∧ ((ks + n1) + n4) + n6 ≤ R.slots) ∧ (∀ v h6, P6 v h6 → ∃ v8, v = some (.int v8) ∧ ((v8 = v3 → ((¬ v3 = 0 → VV g p e R s m args below meth c 7 Q ((((kc + m1) + m4) + m6)) ((((ks + n1) + n4) + n6)) 423 [some (.retAddr 100), some (.ref l1), some (.ref l2), some (.ref l3), some (.int l4), none, none] [] h6) ∧ (v3 = 0 → (∃ v9, aJ h6 l3 ((0 : Int32)) = some v9 ∧ (((lg_cmp v9 ((Int32.toInt64 v6))) = 0 → VV g p e R s m args below meth c 7 Q ((((kc + m1) + m4) + m6)) ((((ks + n1) + n4) + n6)) 423 [some (.retAddr 100), some (.ref l1), some (.ref l2), some (.ref l3), some (.int l4), none, none] [] h6) ∧ (¬ (lg_cmp v9 ((Int32.toInt64 v6))) = 0 → VV g p e R s m args below meth c 7 Q ((((kc + m1) + m4) + m6)) ((((ks + n1) + n4) + n6)) 422 [none, none, none, none, none, none, none] [.int ((0 : Int32))] h6)))))) ∧ (¬ v8 = v3 → VV g p e R s m args below meth c 7 Q ((((kc + m1) + m4) + m6)) ((((ks + n1) + n4) + n6)) 405 [none, none, none, none, none, none, none] [.int ((0 : Int32))] h6))))))))))))) : VV g p e R s m args below meth c 7 Q kc ks 370 [some (.retAddr 100), some (.ref l1), some (.ref l2), some (.ref l3), some (.int l4), none, none] [] h := by
  refine r_aload_n X dL_law_370 rfl ?_
  refine r_aload_nR X dL_law_371 rfl ?_
  refine r_iload X dL_law_372 rfl ?_
  refine r_iconst X dL_law_374 (v := 1) (by decide) ?_
  refine r_iadd X dL_law_375 ?_
  obtain ⟨k1, ek1, ik1, w⟩ := w
  refine r_sld X dL_law_376 hX ek1 ik1 ?_
  refine r_aload_n X dL_law_377 rfl ?_
  obtain ⟨d1, P1, m1, n1, ct1, w⟩ := w
  obtain ⟨⟨x1, x2⟩, w⟩ := w
  refine r_callSH X (As := [.ref l1, .int ((xs k1)), .ref l3]) dL_law_378 mh_L_count ⟨ml_L_135, sm_L_count⟩ rfl rfl (by simp [Value.category]) x1 x2 ct1 (fun v h1 w1 => ?_)
  have w := w v h1 w1
  obtain ⟨v3, rfl, w⟩ := w
  refine r_istore X dL_law_381 (by decide) rfl ?_
  refine r_aload_n X dL_law_383 rfl ?_
  refine r_aload_nR X dL_law_384 rfl ?_
  refine r_iload X dL_law_385 rfl ?_
  refine r_iconst X dL_law_387 (v := 1) (by decide) ?_
  refine r_iadd X dL_law_388 ?_
  obtain ⟨k4, ek4, ik4, w⟩ := w
  refine r_sld X dL_law_389 hX ek4 ik4 ?_
  obtain ⟨fs4, es4, w⟩ := w
  obtain ⟨d4, P4, m4, n4, ct4, w⟩ := w
  obtain ⟨⟨x1, x2⟩, w⟩ := w
  refine r_callVC X (As := [.int ((xs k4))]) dL_law_390 mk_X12_count ⟨ml_L_137, im_X12_count, se_X12_count⟩ (oF_s es4) (ci_X12).1 rfl rfl rfl (by simp [Value.category]) x1 x2 ct4 (fun _ _ z => z.elim) (fun v h4 w1 => ?_)
  have w := w v h4 w1
  obtain ⟨v6, rfl, w⟩ := w
  refine r_istore X dL_law_393 (by decide) rfl ?_
  refine r_aload_n X dL_law_395 rfl ?_
  obtain ⟨fs6, es6, w⟩ := w
  obtain ⟨d6, P6, m6, n6, ct6, w⟩ := w
  obtain ⟨⟨x1, x2⟩, w⟩ := w
  refine r_callVC X (As := []) dL_law_396 mk_X12_thrown ⟨ml_L_127, im_X12_thrown, se_X12_thrown⟩ (oF_s es6) (ci_X12).1 rfl rfl rfl (by simp [Value.category]) x1 x2 ct6 (fun _ _ z => z.elim) (fun v h6 w1 => ?_)
  have w := w v h6 w1
  obtain ⟨v8, rfl, w⟩ := w
  refine r_iload X dL_law_399 rfl ?_
  refine r_icmp_eq X dL_law_401 (tgt := 406) (by decide) (fun q => ?_) (fun q => ?_)
  · have w := w.1 q
    refine r_iload X dL_law_406 rfl ?_
    refine r_if_ne X dL_law_408 (tgt := 423) (by decide) (fun q => ?_) (fun q => ?_)
    · have w := w.1 q
      refine VV_wk (ls' := [some (.retAddr 100), some (.ref l1), some (.ref l2), some (.ref l3), some (.int l4), none, none]) ?_ w
      exact (And.intro rfl (And.intro rfl (And.intro rfl (And.intro rfl (And.intro rfl trivial)))))
    · have w := w.2 q
      refine r_aload_n X dL_law_411 rfl ?_
      refine r_iconst X dL_law_412 (v := 0) (by decide) ?_
      obtain ⟨v9, ev9, w⟩ := w
      obtain ⟨nv9, fv9, cv9, iv9, qv9⟩ := aJ_s ev9
      refine r_lald X dL_law_413 cv9 iv9 ?_
      rw [qv9]
      refine r_iload X dL_law_414 rfl ?_
      refine r_i2l X dL_law_416 ?_
      refine r_lcmp X dL_law_417 ?_
      refine r_if_eq X dL_law_418 (tgt := 423) (by decide) (fun q => ?_) (fun q => ?_)
      · have w := w.1 q
        refine VV_wk (ls' := [some (.retAddr 100), some (.ref l1), some (.ref l2), some (.ref l3), some (.int l4), none, none]) ?_ w
        exact (And.intro rfl (And.intro rfl (And.intro rfl (And.intro rfl (And.intro rfl trivial)))))
      · have w := w.2 q
        refine r_iconst X dL_law_421 (v := 0) (by decide) ?_
        exact VV_wk (ls' := [none, none, none, none, none, none, none]) trivial w
  · have w := w.2 q
    refine r_iconst X dL_law_404 (v := 0) (by decide) ?_
    exact VV_wk (ls' := [none, none, none, none, none, none, none]) trivial w

set_option maxRecDepth 10000 in
theorem b_L_law_423 {g : GG} {p : Program} {e : Env} {R : Room} {s : State} {m : MethodId} {args : Array Value} {below : List Frame} {meth : Method} {c : Code} {Q : State → Prop} {xt : List ExceptionTableEntry} {nm : String} {L : Nat} {xs : Nat → Int32} {kc ks : Nat} (hX : SX g L xs) (X : CX g p s m args meth c cL_law 7 ⟨RL, nm, "([I)Z"⟩ (some .boolean) xt) (l1 : Nat) (l2 : Nat) (l3 : Nat) (l4 : Int32) (h : Hp)
    (w : VV g p e R s m args below meth c 7 Q kc ks 2555 [some (.retAddr 100), some (.ref l1), some (.ref l2), some (.ref l3), some (.int l4), none, none] [] h) : VV g p e R s m args below meth c 7 Q kc ks 423 [some (.retAddr 100), some (.ref l1), some (.ref l2), some (.ref l3), some (.int l4), none, none] [] h := by
  refine r_goto X dL_law_423 (tgt := 2555) (by decide) ?_
  refine VV_wk (ls' := [some (.retAddr 100), some (.ref l1), some (.ref l2), some (.ref l3), some (.int l4), none, none]) ?_ w
  exact (And.intro rfl (And.intro rfl (And.intro rfl (And.intro rfl (And.intro rfl trivial)))))

set_option maxRecDepth 10000 in
theorem b_L_law_426 {g : GG} {p : Program} {e : Env} {R : Room} {s : State} {m : MethodId} {args : Array Value} {below : List Frame} {meth : Method} {c : Code} {Q : State → Prop} {xt : List ExceptionTableEntry} {nm : String} {L : Nat} {xs : Nat → Int32} {kc ks : Nat} (hX : SX g L xs) (X : CX g p s m args meth c cL_law 7 ⟨RL, nm, "([I)Z"⟩ (some .boolean) xt) (l1 : Nat) (l2 : Nat) (l3 : Nat) (l4 : Int32) (h : Hp)
    (w : (∃ k1, (l4 + (1 : Int32)) = nI k1 ∧ k1 < L ∧ (∃ k2, (l4 + (2 : Int32)) = nI k2 ∧ k2 < L ∧ (∃ d2 P2 m2 n2, CT g d2 yL_stretch (wsH yL_stretch cL_stretch 5 (some .int) [(0, 10, 13, 18)]) [.ref l1, .int ((xs k1)), .int ((xs k2)), .ref l3] h m2 n2 P2 noT ∧ ((d2 + 1 ≤ R.frames ∧ 60 * (d2 + 1) + 200 ≤ R.locals) ∧ kc + m2 ≤ R.cells ∧ ks + n2 ≤ R.slots) ∧ (∀ v h2, P2 v h2 → ∃ v4, v = some (.int v4) ∧ (∃ k5, (l4 + (1 : Int32)) = nI k5 ∧ k5 < L ∧ (∃ k6, (l4 + (2 : Int32)) = nI k6 ∧ k6 < L ∧ (∃ fs6, oF h2 l2 11 = some fs6 ∧ (∃ d6 P6 m6 n6, CT g d6 yX12_stretch (wsC yX12_stretch cX12_stretch 3 (some (.int))) [.ref l2, .int ((xs k5)), .int ((xs k6))] h2 m6 n6 P6 noT ∧ ((d6 + 1 ≤ R.frames ∧ 60 * (d6 + 1) + 200 ≤ R.locals) ∧ (kc + m2) + m6 ≤ R.cells ∧ (ks + n2) + n6 ≤ R.slots) ∧ (∀ v h6, P6 v h6 → ∃ v8, v = some (.int v8) ∧ (∃ fs8, oF h6 l2 11 = some fs8 ∧ (∃ d8 P8 m8 n8, CT g d8 yX12_thrown (wsC yX12_thrown cX12_thrown 1 (some (.int))) [.ref l2] h6 m8 n8 P8 noT ∧ ((d8 + 1 ≤ R.frames ∧ 60 * (d8 + 1) + 200 ≤ R.locals) ∧ ((kc + m2) + m6) + m8 ≤ R.cells ∧ ((ks + n2) + n6) + n8 ≤ R.slots) ∧ (∀ v h8, P8 v h8 → ∃ v10, v = some (.int v10) ∧ ((v10 = v4 → ((¬ v4 = 0 → VV g p e R s m args below meth c 7 Q ((((kc + m2) + m6) + m8)) ((((ks + n2) + n6) + n8)) 491 [some (.retAddr 100), some (.ref l1), some (.ref l2), some (.ref l3), some (.int l4), none, none] [] h8) ∧ (v4 = 0 → (∃ v11, aJ h8 l3 ((0 : Int32)) = some v11 ∧ (((lg_cmp v11 ((Int32.toInt64 v8))) = 0 → VV g p e R s m args below meth c 7 Q ((((kc + m2) + m6) + m8)) ((((ks + n2) + n6) + n8)) 491 [some (.retAddr 100), some (.ref l1), some (.ref l2), some (.ref l3), some (.int l4), none, none] [] h8) ∧ (¬ (lg_cmp v11 ((Int32.toInt64 v8))) = 0 → VV g p e R s m args below meth c 7 Q ((((kc + m2) + m6) + m8)) ((((ks + n2) + n6) + n8)) 490 [none, none, none, none, none, none, none] [.int ((0 : Int32))] h8)))))) ∧ (¬ v10 = v4 → VV g p e R s m args below meth c 7 Q ((((kc + m2) + m6) + m8)) ((((ks + n2) + n6) + n8)) 473 [none, none, none, none, none, none, none] [.int ((0 : Int32))] h8))))))))))))))) : VV g p e R s m args below meth c 7 Q kc ks 426 [some (.retAddr 100), some (.ref l1), some (.ref l2), some (.ref l3), some (.int l4), none, none] [] h := by
  refine r_aload_n X dL_law_426 rfl ?_
  refine r_aload_nR X dL_law_427 rfl ?_
  refine r_iload X dL_law_428 rfl ?_
  refine r_iconst X dL_law_430 (v := 1) (by decide) ?_
  refine r_iadd X dL_law_431 ?_
  obtain ⟨k1, ek1, ik1, w⟩ := w
  refine r_sld X dL_law_432 hX ek1 ik1 ?_
  refine r_aload_nR X dL_law_433 rfl ?_
  refine r_iload X dL_law_434 rfl ?_
  refine r_iconst X dL_law_436 (v := 2) (by decide) ?_
  refine r_iadd X dL_law_437 ?_
  obtain ⟨k2, ek2, ik2, w⟩ := w
  refine r_sld X dL_law_438 hX ek2 ik2 ?_
  refine r_aload_n X dL_law_439 rfl ?_
  obtain ⟨d2, P2, m2, n2, ct2, w⟩ := w
  obtain ⟨⟨x1, x2⟩, w⟩ := w
  refine r_callSH X (As := [.ref l1, .int ((xs k1)), .int ((xs k2)), .ref l3]) dL_law_440 mh_L_stretch ⟨ml_L_138, sm_L_stretch⟩ rfl rfl (by simp [Value.category]) x1 x2 ct2 (fun v h2 w1 => ?_)
  have w := w v h2 w1
  obtain ⟨v4, rfl, w⟩ := w
  refine r_istore X dL_law_443 (by decide) rfl ?_
  refine r_aload_n X dL_law_445 rfl ?_
  refine r_aload_nR X dL_law_446 rfl ?_
  refine r_iload X dL_law_447 rfl ?_
  refine r_iconst X dL_law_449 (v := 1) (by decide) ?_
  refine r_iadd X dL_law_450 ?_
  obtain ⟨k5, ek5, ik5, w⟩ := w
  refine r_sld X dL_law_451 hX ek5 ik5 ?_
  refine r_aload_nR X dL_law_452 rfl ?_
  refine r_iload X dL_law_453 rfl ?_
  refine r_iconst X dL_law_455 (v := 2) (by decide) ?_
  refine r_iadd X dL_law_456 ?_
  obtain ⟨k6, ek6, ik6, w⟩ := w
  refine r_sld X dL_law_457 hX ek6 ik6 ?_
  obtain ⟨fs6, es6, w⟩ := w
  obtain ⟨d6, P6, m6, n6, ct6, w⟩ := w
  obtain ⟨⟨x1, x2⟩, w⟩ := w
  refine r_callVC X (As := [.int ((xs k5)), .int ((xs k6))]) dL_law_458 mk_X12_stretch ⟨ml_L_141, im_X12_stretch, se_X12_stretch⟩ (oF_s es6) (ci_X12).1 rfl rfl rfl (by simp [Value.category]) x1 x2 ct6 (fun _ _ z => z.elim) (fun v h6 w1 => ?_)
  have w := w v h6 w1
  obtain ⟨v8, rfl, w⟩ := w
  refine r_istore X dL_law_461 (by decide) rfl ?_
  refine r_aload_n X dL_law_463 rfl ?_
  obtain ⟨fs8, es8, w⟩ := w
  obtain ⟨d8, P8, m8, n8, ct8, w⟩ := w
  obtain ⟨⟨x1, x2⟩, w⟩ := w
  refine r_callVC X (As := []) dL_law_464 mk_X12_thrown ⟨ml_L_127, im_X12_thrown, se_X12_thrown⟩ (oF_s es8) (ci_X12).1 rfl rfl rfl (by simp [Value.category]) x1 x2 ct8 (fun _ _ z => z.elim) (fun v h8 w1 => ?_)
  have w := w v h8 w1
  obtain ⟨v10, rfl, w⟩ := w
  refine r_iload X dL_law_467 rfl ?_
  refine r_icmp_eq X dL_law_469 (tgt := 474) (by decide) (fun q => ?_) (fun q => ?_)
  · have w := w.1 q
    refine r_iload X dL_law_474 rfl ?_
    refine r_if_ne X dL_law_476 (tgt := 491) (by decide) (fun q => ?_) (fun q => ?_)
    · have w := w.1 q
      refine VV_wk (ls' := [some (.retAddr 100), some (.ref l1), some (.ref l2), some (.ref l3), some (.int l4), none, none]) ?_ w
      exact (And.intro rfl (And.intro rfl (And.intro rfl (And.intro rfl (And.intro rfl trivial)))))
    · have w := w.2 q
      refine r_aload_n X dL_law_479 rfl ?_
      refine r_iconst X dL_law_480 (v := 0) (by decide) ?_
      obtain ⟨v11, ev11, w⟩ := w
      obtain ⟨nv11, fv11, cv11, iv11, qv11⟩ := aJ_s ev11
      refine r_lald X dL_law_481 cv11 iv11 ?_
      rw [qv11]
      refine r_iload X dL_law_482 rfl ?_
      refine r_i2l X dL_law_484 ?_
      refine r_lcmp X dL_law_485 ?_
      refine r_if_eq X dL_law_486 (tgt := 491) (by decide) (fun q => ?_) (fun q => ?_)
      · have w := w.1 q
        refine VV_wk (ls' := [some (.retAddr 100), some (.ref l1), some (.ref l2), some (.ref l3), some (.int l4), none, none]) ?_ w
        exact (And.intro rfl (And.intro rfl (And.intro rfl (And.intro rfl (And.intro rfl trivial)))))
      · have w := w.2 q
        refine r_iconst X dL_law_489 (v := 0) (by decide) ?_
        exact VV_wk (ls' := [none, none, none, none, none, none, none]) trivial w
  · have w := w.2 q
    refine r_iconst X dL_law_472 (v := 0) (by decide) ?_
    exact VV_wk (ls' := [none, none, none, none, none, none, none]) trivial w

set_option maxRecDepth 10000 in
theorem b_L_law_491 {g : GG} {p : Program} {e : Env} {R : Room} {s : State} {m : MethodId} {args : Array Value} {below : List Frame} {meth : Method} {c : Code} {Q : State → Prop} {xt : List ExceptionTableEntry} {nm : String} {L : Nat} {xs : Nat → Int32} {kc ks : Nat} (hX : SX g L xs) (X : CX g p s m args meth c cL_law 7 ⟨RL, nm, "([I)Z"⟩ (some .boolean) xt) (l1 : Nat) (l2 : Nat) (l3 : Nat) (l4 : Int32) (h : Hp)
    (w : VV g p e R s m args below meth c 7 Q kc ks 2555 [some (.retAddr 100), some (.ref l1), some (.ref l2), some (.ref l3), some (.int l4), none, none] [] h) : VV g p e R s m args below meth c 7 Q kc ks 491 [some (.retAddr 100), some (.ref l1), some (.ref l2), some (.ref l3), some (.int l4), none, none] [] h := by
  refine r_goto X dL_law_491 (tgt := 2555) (by decide) ?_
  refine VV_wk (ls' := [some (.retAddr 100), some (.ref l1), some (.ref l2), some (.ref l3), some (.int l4), none, none]) ?_ w
  exact (And.intro rfl (And.intro rfl (And.intro rfl (And.intro rfl (And.intro rfl trivial)))))

set_option maxRecDepth 10000 in
theorem b_L_law_494 {g : GG} {p : Program} {e : Env} {R : Room} {s : State} {m : MethodId} {args : Array Value} {below : List Frame} {meth : Method} {c : Code} {Q : State → Prop} {xt : List ExceptionTableEntry} {nm : String} {L : Nat} {xs : Nat → Int32} {kc ks : Nat} (hX : SX g L xs) (X : CX g p s m args meth c cL_law 7 ⟨RL, nm, "([I)Z"⟩ (some .boolean) xt) (l1 : Nat) (l2 : Nat) (l3 : Nat) (l4 : Int32) (h : Hp)
    (w : (∃ k1, (l4 + (1 : Int32)) = nI k1 ∧ k1 < L ∧ (∃ k2, (l4 + (2 : Int32)) = nI k2 ∧ k2 < L ∧ (∃ d2 P2 m2 n2, CT g d2 yL_woman (wsH yL_woman cL_woman 5 (some .int) [(0, 10, 13, 18)]) [.ref l1, .int ((xs k1)), .int ((xs k2)), .ref l3] h m2 n2 P2 noT ∧ ((d2 + 1 ≤ R.frames ∧ 60 * (d2 + 1) + 200 ≤ R.locals) ∧ kc + m2 ≤ R.cells ∧ ks + n2 ≤ R.slots) ∧ (∀ v h2, P2 v h2 → ∃ v4, v = some (.int v4) ∧ (∃ k5, (l4 + (1 : Int32)) = nI k5 ∧ k5 < L ∧ (∃ k6, (l4 + (2 : Int32)) = nI k6 ∧ k6 < L ∧ (∃ fs6, oF h2 l2 11 = some fs6 ∧ (∃ d6 P6 m6 n6, CT g d6 yX12_woman (wsC yX12_woman cX12_woman 3 (some (.int))) [.ref l2, .int ((xs k5)), .int ((xs k6))] h2 m6 n6 P6 noT ∧ ((d6 + 1 ≤ R.frames ∧ 60 * (d6 + 1) + 200 ≤ R.locals) ∧ (kc + m2) + m6 ≤ R.cells ∧ (ks + n2) + n6 ≤ R.slots) ∧ (∀ v h6, P6 v h6 → ∃ v8, v = some (.int v8) ∧ (∃ fs8, oF h6 l2 11 = some fs8 ∧ (∃ d8 P8 m8 n8, CT g d8 yX12_thrown (wsC yX12_thrown cX12_thrown 1 (some (.int))) [.ref l2] h6 m8 n8 P8 noT ∧ ((d8 + 1 ≤ R.frames ∧ 60 * (d8 + 1) + 200 ≤ R.locals) ∧ ((kc + m2) + m6) + m8 ≤ R.cells ∧ ((ks + n2) + n6) + n8 ≤ R.slots) ∧ (∀ v h8, P8 v h8 → ∃ v10, v = some (.int v10) ∧ ((v10 = v4 → ((¬ v4 = 0 → VV g p e R s m args below meth c 7 Q ((((kc + m2) + m6) + m8)) ((((ks + n2) + n6) + n8)) 559 [some (.retAddr 100), some (.ref l1), some (.ref l2), some (.ref l3), some (.int l4), none, none] [] h8) ∧ (v4 = 0 → (∃ v11, aJ h8 l3 ((0 : Int32)) = some v11 ∧ (((lg_cmp v11 ((Int32.toInt64 v8))) = 0 → VV g p e R s m args below meth c 7 Q ((((kc + m2) + m6) + m8)) ((((ks + n2) + n6) + n8)) 559 [some (.retAddr 100), some (.ref l1), some (.ref l2), some (.ref l3), some (.int l4), none, none] [] h8) ∧ (¬ (lg_cmp v11 ((Int32.toInt64 v8))) = 0 → VV g p e R s m args below meth c 7 Q ((((kc + m2) + m6) + m8)) ((((ks + n2) + n6) + n8)) 558 [none, none, none, none, none, none, none] [.int ((0 : Int32))] h8)))))) ∧ (¬ v10 = v4 → VV g p e R s m args below meth c 7 Q ((((kc + m2) + m6) + m8)) ((((ks + n2) + n6) + n8)) 541 [none, none, none, none, none, none, none] [.int ((0 : Int32))] h8))))))))))))))) : VV g p e R s m args below meth c 7 Q kc ks 494 [some (.retAddr 100), some (.ref l1), some (.ref l2), some (.ref l3), some (.int l4), none, none] [] h := by
  refine r_aload_n X dL_law_494 rfl ?_
  refine r_aload_nR X dL_law_495 rfl ?_
  refine r_iload X dL_law_496 rfl ?_
  refine r_iconst X dL_law_498 (v := 1) (by decide) ?_
  refine r_iadd X dL_law_499 ?_
  obtain ⟨k1, ek1, ik1, w⟩ := w
  refine r_sld X dL_law_500 hX ek1 ik1 ?_
  refine r_aload_nR X dL_law_501 rfl ?_
  refine r_iload X dL_law_502 rfl ?_
  refine r_iconst X dL_law_504 (v := 2) (by decide) ?_
  refine r_iadd X dL_law_505 ?_
  obtain ⟨k2, ek2, ik2, w⟩ := w
  refine r_sld X dL_law_506 hX ek2 ik2 ?_
  refine r_aload_n X dL_law_507 rfl ?_
  obtain ⟨d2, P2, m2, n2, ct2, w⟩ := w
  obtain ⟨⟨x1, x2⟩, w⟩ := w
  refine r_callSH X (As := [.ref l1, .int ((xs k1)), .int ((xs k2)), .ref l3]) dL_law_508 mh_L_woman ⟨ml_L_142, sm_L_woman⟩ rfl rfl (by simp [Value.category]) x1 x2 ct2 (fun v h2 w1 => ?_)
  have w := w v h2 w1
  obtain ⟨v4, rfl, w⟩ := w
  refine r_istore X dL_law_511 (by decide) rfl ?_
  refine r_aload_n X dL_law_513 rfl ?_
  refine r_aload_nR X dL_law_514 rfl ?_
  refine r_iload X dL_law_515 rfl ?_
  refine r_iconst X dL_law_517 (v := 1) (by decide) ?_
  refine r_iadd X dL_law_518 ?_
  obtain ⟨k5, ek5, ik5, w⟩ := w
  refine r_sld X dL_law_519 hX ek5 ik5 ?_
  refine r_aload_nR X dL_law_520 rfl ?_
  refine r_iload X dL_law_521 rfl ?_
  refine r_iconst X dL_law_523 (v := 2) (by decide) ?_
  refine r_iadd X dL_law_524 ?_
  obtain ⟨k6, ek6, ik6, w⟩ := w
  refine r_sld X dL_law_525 hX ek6 ik6 ?_
  obtain ⟨fs6, es6, w⟩ := w
  obtain ⟨d6, P6, m6, n6, ct6, w⟩ := w
  obtain ⟨⟨x1, x2⟩, w⟩ := w
  refine r_callVC X (As := [.int ((xs k5)), .int ((xs k6))]) dL_law_526 mk_X12_woman ⟨ml_L_144, im_X12_woman, se_X12_woman⟩ (oF_s es6) (ci_X12).1 rfl rfl rfl (by simp [Value.category]) x1 x2 ct6 (fun _ _ z => z.elim) (fun v h6 w1 => ?_)
  have w := w v h6 w1
  obtain ⟨v8, rfl, w⟩ := w
  refine r_istore X dL_law_529 (by decide) rfl ?_
  refine r_aload_n X dL_law_531 rfl ?_
  obtain ⟨fs8, es8, w⟩ := w
  obtain ⟨d8, P8, m8, n8, ct8, w⟩ := w
  obtain ⟨⟨x1, x2⟩, w⟩ := w
  refine r_callVC X (As := []) dL_law_532 mk_X12_thrown ⟨ml_L_127, im_X12_thrown, se_X12_thrown⟩ (oF_s es8) (ci_X12).1 rfl rfl rfl (by simp [Value.category]) x1 x2 ct8 (fun _ _ z => z.elim) (fun v h8 w1 => ?_)
  have w := w v h8 w1
  obtain ⟨v10, rfl, w⟩ := w
  refine r_iload X dL_law_535 rfl ?_
  refine r_icmp_eq X dL_law_537 (tgt := 542) (by decide) (fun q => ?_) (fun q => ?_)
  · have w := w.1 q
    refine r_iload X dL_law_542 rfl ?_
    refine r_if_ne X dL_law_544 (tgt := 559) (by decide) (fun q => ?_) (fun q => ?_)
    · have w := w.1 q
      refine VV_wk (ls' := [some (.retAddr 100), some (.ref l1), some (.ref l2), some (.ref l3), some (.int l4), none, none]) ?_ w
      exact (And.intro rfl (And.intro rfl (And.intro rfl (And.intro rfl (And.intro rfl trivial)))))
    · have w := w.2 q
      refine r_aload_n X dL_law_547 rfl ?_
      refine r_iconst X dL_law_548 (v := 0) (by decide) ?_
      obtain ⟨v11, ev11, w⟩ := w
      obtain ⟨nv11, fv11, cv11, iv11, qv11⟩ := aJ_s ev11
      refine r_lald X dL_law_549 cv11 iv11 ?_
      rw [qv11]
      refine r_iload X dL_law_550 rfl ?_
      refine r_i2l X dL_law_552 ?_
      refine r_lcmp X dL_law_553 ?_
      refine r_if_eq X dL_law_554 (tgt := 559) (by decide) (fun q => ?_) (fun q => ?_)
      · have w := w.1 q
        refine VV_wk (ls' := [some (.retAddr 100), some (.ref l1), some (.ref l2), some (.ref l3), some (.int l4), none, none]) ?_ w
        exact (And.intro rfl (And.intro rfl (And.intro rfl (And.intro rfl (And.intro rfl trivial)))))
      · have w := w.2 q
        refine r_iconst X dL_law_557 (v := 0) (by decide) ?_
        exact VV_wk (ls' := [none, none, none, none, none, none, none]) trivial w
  · have w := w.2 q
    refine r_iconst X dL_law_540 (v := 0) (by decide) ?_
    exact VV_wk (ls' := [none, none, none, none, none, none, none]) trivial w

set_option maxRecDepth 10000 in
theorem b_L_law_559 {g : GG} {p : Program} {e : Env} {R : Room} {s : State} {m : MethodId} {args : Array Value} {below : List Frame} {meth : Method} {c : Code} {Q : State → Prop} {xt : List ExceptionTableEntry} {nm : String} {L : Nat} {xs : Nat → Int32} {kc ks : Nat} (hX : SX g L xs) (X : CX g p s m args meth c cL_law 7 ⟨RL, nm, "([I)Z"⟩ (some .boolean) xt) (l1 : Nat) (l2 : Nat) (l3 : Nat) (l4 : Int32) (h : Hp)
    (w : VV g p e R s m args below meth c 7 Q kc ks 2555 [some (.retAddr 100), some (.ref l1), some (.ref l2), some (.ref l3), some (.int l4), none, none] [] h) : VV g p e R s m args below meth c 7 Q kc ks 559 [some (.retAddr 100), some (.ref l1), some (.ref l2), some (.ref l3), some (.int l4), none, none] [] h := by
  refine r_goto X dL_law_559 (tgt := 2555) (by decide) ?_
  refine VV_wk (ls' := [some (.retAddr 100), some (.ref l1), some (.ref l2), some (.ref l3), some (.int l4), none, none]) ?_ w
  exact (And.intro rfl (And.intro rfl (And.intro rfl (And.intro rfl (And.intro rfl trivial)))))

set_option maxRecDepth 10000 in
theorem b_L_law_562 {g : GG} {p : Program} {e : Env} {R : Room} {s : State} {m : MethodId} {args : Array Value} {below : List Frame} {meth : Method} {c : Code} {Q : State → Prop} {xt : List ExceptionTableEntry} {nm : String} {L : Nat} {xs : Nat → Int32} {kc ks : Nat} (hX : SX g L xs) (X : CX g p s m args meth c cL_law 7 ⟨RL, nm, "([I)Z"⟩ (some .boolean) xt) (l1 : Nat) (l2 : Nat) (l3 : Nat) (l4 : Int32) (h : Hp)
    (w : (∃ k1, (l4 + (1 : Int32)) = nI k1 ∧ k1 < L ∧ (∃ fs1, oF h l1 10 = some fs1 ∧ (∃ d1 P1 m1 n1, CT g d1 yX11_days (wsC yX11_days cX11_days 2 (some (.int))) [.ref l1, .int ((xs k1))] h m1 n1 P1 noT ∧ ((d1 + 1 ≤ R.frames ∧ 60 * (d1 + 1) + 200 ≤ R.locals) ∧ kc + m1 ≤ R.cells ∧ ks + n1 ≤ R.slots) ∧ (∀ v h1, P1 v h1 → ∃ v3, v = some (.int v3) ∧ (∃ k4, (l4 + (1 : Int32)) = nI k4 ∧ k4 < L ∧ (∃ fs4, oF h1 l2 11 = some fs4 ∧ (∃ d4 P4 m4 n4, CT g d4 yX12_days (wsC yX12_days cX12_days 3 (some (.int))) [.ref l2, .int ((xs k4))] h1 m4 n4 P4 noT ∧ ((d4 + 1 ≤ R.frames ∧ 60 * (d4 + 1) + 200 ≤ R.locals) ∧ (kc + m1) + m4 ≤ R.cells ∧ (ks + n1) + n4 ≤ R.slots) ∧ (∀ v h4, P4 v h4 → ∃ v6, v = some (.int v6) ∧ ((v3 = v6 → VV g p e R s m args below meth c 7 Q (((kc + m1) + m4)) (((ks + n1) + n4)) 2555 [some (.retAddr 100), some (.ref l1), some (.ref l2), some (.ref l3), some (.int l4), none, none] [] h4) ∧ (¬ v3 = v6 → VV g p e R s m args below meth c 7 Q (((kc + m1) + m4)) (((ks + n1) + n4)) 586 [none, none, none, none, none, none, none] [.int ((0 : Int32))] h4))))))))))) : VV g p e R s m args below meth c 7 Q kc ks 562 [some (.retAddr 100), some (.ref l1), some (.ref l2), some (.ref l3), some (.int l4), none, none] [] h := by
  refine r_aload_n X dL_law_562 rfl ?_
  refine r_aload_nR X dL_law_563 rfl ?_
  refine r_iload X dL_law_564 rfl ?_
  refine r_iconst X dL_law_566 (v := 1) (by decide) ?_
  refine r_iadd X dL_law_567 ?_
  obtain ⟨k1, ek1, ik1, w⟩ := w
  refine r_sld X dL_law_568 hX ek1 ik1 ?_
  obtain ⟨fs1, es1, w⟩ := w
  obtain ⟨d1, P1, m1, n1, ct1, w⟩ := w
  obtain ⟨⟨x1, x2⟩, w⟩ := w
  refine r_callVC X (As := [.int ((xs k1))]) dL_law_569 mk_X11_days ⟨ml_L_145, im_X11_days, se_X11_days⟩ (oF_s es1) (ci_X11).1 rfl rfl rfl (by simp [Value.category]) x1 x2 ct1 (fun _ _ z => z.elim) (fun v h1 w1 => ?_)
  have w := w v h1 w1
  obtain ⟨v3, rfl, w⟩ := w
  refine r_aload_n X dL_law_572 rfl ?_
  refine r_aload_nR X dL_law_573 rfl ?_
  refine r_iload X dL_law_574 rfl ?_
  refine r_iconst X dL_law_576 (v := 1) (by decide) ?_
  refine r_iadd X dL_law_577 ?_
  obtain ⟨k4, ek4, ik4, w⟩ := w
  refine r_sld X dL_law_578 hX ek4 ik4 ?_
  obtain ⟨fs4, es4, w⟩ := w
  obtain ⟨d4, P4, m4, n4, ct4, w⟩ := w
  obtain ⟨⟨x1, x2⟩, w⟩ := w
  refine r_callVC X (As := [.int ((xs k4))]) dL_law_579 mk_X12_days ⟨ml_L_148, im_X12_days, se_X12_days⟩ (oF_s es4) (ci_X12).1 rfl rfl rfl (by simp [Value.category]) x1 x2 ct4 (fun _ _ z => z.elim) (fun v h4 w1 => ?_)
  have w := w v h4 w1
  obtain ⟨v6, rfl, w⟩ := w
  refine r_icmp_eq X dL_law_582 (tgt := 2555) (by decide) (fun q => ?_) (fun q => ?_)
  · have w := w.1 q
    refine VV_wk (ls' := [some (.retAddr 100), some (.ref l1), some (.ref l2), some (.ref l3), some (.int l4), none, none]) ?_ w
    exact (And.intro rfl (And.intro rfl (And.intro rfl (And.intro rfl (And.intro rfl trivial)))))
  · have w := w.2 q
    refine r_iconst X dL_law_585 (v := 0) (by decide) ?_
    exact VV_wk (ls' := [none, none, none, none, none, none, none]) trivial w

set_option maxRecDepth 10000 in
theorem b_L_law_587 {g : GG} {p : Program} {e : Env} {R : Room} {s : State} {m : MethodId} {args : Array Value} {below : List Frame} {meth : Method} {c : Code} {Q : State → Prop} {xt : List ExceptionTableEntry} {nm : String} {L : Nat} {xs : Nat → Int32} {kc ks : Nat} (hX : SX g L xs) (X : CX g p s m args meth c cL_law 7 ⟨RL, nm, "([I)Z"⟩ (some .boolean) xt) (l1 : Nat) (l2 : Nat) (l3 : Nat) (l4 : Int32) (h : Hp)
    (w : (∃ k1, (l4 + (1 : Int32)) = nI k1 ∧ k1 < L ∧ (∃ d1 P1 m1 n1, CT g d1 yL_mend (wsH yL_mend cL_mend 4 (some .int) [(0, 9, 12, 18)]) [.ref l1, .int ((xs k1)), .ref l3] h m1 n1 P1 noT ∧ ((d1 + 1 ≤ R.frames ∧ 60 * (d1 + 1) + 200 ≤ R.locals) ∧ kc + m1 ≤ R.cells ∧ ks + n1 ≤ R.slots) ∧ (∀ v h1, P1 v h1 → ∃ v3, v = some (.int v3) ∧ (∃ k4, (l4 + (1 : Int32)) = nI k4 ∧ k4 < L ∧ (∃ fs4, oF h1 l2 11 = some fs4 ∧ (∃ d4 P4 m4 n4, CT g d4 yX12_mend (wsC yX12_mend cX12_mend 2 (some (.int))) [.ref l2, .int ((xs k4))] h1 m4 n4 P4 noT ∧ ((d4 + 1 ≤ R.frames ∧ 60 * (d4 + 1) + 200 ≤ R.locals) ∧ (kc + m1) + m4 ≤ R.cells ∧ (ks + n1) + n4 ≤ R.slots) ∧ (∀ v h4, P4 v h4 → ∃ v6, v = some (.int v6) ∧ (∃ fs6, oF h4 l2 11 = some fs6 ∧ (∃ d6 P6 m6 n6, CT g d6 yX12_thrown (wsC yX12_thrown cX12_thrown 1 (some (.int))) [.ref l2] h4 m6 n6 P6 noT ∧ ((d6 + 1 ≤ R.frames ∧ 60 * (d6 + 1) + 200 ≤ R.locals) ∧ ((kc + m1) + m4) + m6 ≤ R.cells ∧ ((ks + n1) + n4) + n6 ≤ R.slots) ∧ (∀ v h6, P6 v h6 → ∃ v8, v = some (.int v8) ∧ ((v8 = v3 → ((¬ v3 = 0 → VV g p e R s m args below meth c 7 Q ((((kc + m1) + m4) + m6)) ((((ks + n1) + n4) + n6)) 640 [some (.retAddr 100), some (.ref l1), some (.ref l2), some (.ref l3), some (.int l4), none, none] [] h6) ∧ (v3 = 0 → (∃ v9, aJ h6 l3 ((0 : Int32)) = some v9 ∧ (((lg_cmp v9 ((Int32.toInt64 v6))) = 0 → VV g p e R s m args below meth c 7 Q ((((kc + m1) + m4) + m6)) ((((ks + n1) + n4) + n6)) 640 [some (.retAddr 100), some (.ref l1), some (.ref l2), some (.ref l3), some (.int l4), none, none] [] h6) ∧ (¬ (lg_cmp v9 ((Int32.toInt64 v6))) = 0 → VV g p e R s m args below meth c 7 Q ((((kc + m1) + m4) + m6)) ((((ks + n1) + n4) + n6)) 639 [none, none, none, none, none, none, none] [.int ((0 : Int32))] h6)))))) ∧ (¬ v8 = v3 → VV g p e R s m args below meth c 7 Q ((((kc + m1) + m4) + m6)) ((((ks + n1) + n4) + n6)) 622 [none, none, none, none, none, none, none] [.int ((0 : Int32))] h6))))))))))))) : VV g p e R s m args below meth c 7 Q kc ks 587 [some (.retAddr 100), some (.ref l1), some (.ref l2), some (.ref l3), some (.int l4), none, none] [] h := by
  refine r_aload_n X dL_law_587 rfl ?_
  refine r_aload_nR X dL_law_588 rfl ?_
  refine r_iload X dL_law_589 rfl ?_
  refine r_iconst X dL_law_591 (v := 1) (by decide) ?_
  refine r_iadd X dL_law_592 ?_
  obtain ⟨k1, ek1, ik1, w⟩ := w
  refine r_sld X dL_law_593 hX ek1 ik1 ?_
  refine r_aload_n X dL_law_594 rfl ?_
  obtain ⟨d1, P1, m1, n1, ct1, w⟩ := w
  obtain ⟨⟨x1, x2⟩, w⟩ := w
  refine r_callSH X (As := [.ref l1, .int ((xs k1)), .ref l3]) dL_law_595 mh_L_mend ⟨ml_L_149, sm_L_mend⟩ rfl rfl (by simp [Value.category]) x1 x2 ct1 (fun v h1 w1 => ?_)
  have w := w v h1 w1
  obtain ⟨v3, rfl, w⟩ := w
  refine r_istore X dL_law_598 (by decide) rfl ?_
  refine r_aload_n X dL_law_600 rfl ?_
  refine r_aload_nR X dL_law_601 rfl ?_
  refine r_iload X dL_law_602 rfl ?_
  refine r_iconst X dL_law_604 (v := 1) (by decide) ?_
  refine r_iadd X dL_law_605 ?_
  obtain ⟨k4, ek4, ik4, w⟩ := w
  refine r_sld X dL_law_606 hX ek4 ik4 ?_
  obtain ⟨fs4, es4, w⟩ := w
  obtain ⟨d4, P4, m4, n4, ct4, w⟩ := w
  obtain ⟨⟨x1, x2⟩, w⟩ := w
  refine r_callVC X (As := [.int ((xs k4))]) dL_law_607 mk_X12_mend ⟨ml_L_151, im_X12_mend, se_X12_mend⟩ (oF_s es4) (ci_X12).1 rfl rfl rfl (by simp [Value.category]) x1 x2 ct4 (fun _ _ z => z.elim) (fun v h4 w1 => ?_)
  have w := w v h4 w1
  obtain ⟨v6, rfl, w⟩ := w
  refine r_istore X dL_law_610 (by decide) rfl ?_
  refine r_aload_n X dL_law_612 rfl ?_
  obtain ⟨fs6, es6, w⟩ := w
  obtain ⟨d6, P6, m6, n6, ct6, w⟩ := w
  obtain ⟨⟨x1, x2⟩, w⟩ := w
  refine r_callVC X (As := []) dL_law_613 mk_X12_thrown ⟨ml_L_127, im_X12_thrown, se_X12_thrown⟩ (oF_s es6) (ci_X12).1 rfl rfl rfl (by simp [Value.category]) x1 x2 ct6 (fun _ _ z => z.elim) (fun v h6 w1 => ?_)
  have w := w v h6 w1
  obtain ⟨v8, rfl, w⟩ := w
  refine r_iload X dL_law_616 rfl ?_
  refine r_icmp_eq X dL_law_618 (tgt := 623) (by decide) (fun q => ?_) (fun q => ?_)
  · have w := w.1 q
    refine r_iload X dL_law_623 rfl ?_
    refine r_if_ne X dL_law_625 (tgt := 640) (by decide) (fun q => ?_) (fun q => ?_)
    · have w := w.1 q
      refine VV_wk (ls' := [some (.retAddr 100), some (.ref l1), some (.ref l2), some (.ref l3), some (.int l4), none, none]) ?_ w
      exact (And.intro rfl (And.intro rfl (And.intro rfl (And.intro rfl (And.intro rfl trivial)))))
    · have w := w.2 q
      refine r_aload_n X dL_law_628 rfl ?_
      refine r_iconst X dL_law_629 (v := 0) (by decide) ?_
      obtain ⟨v9, ev9, w⟩ := w
      obtain ⟨nv9, fv9, cv9, iv9, qv9⟩ := aJ_s ev9
      refine r_lald X dL_law_630 cv9 iv9 ?_
      rw [qv9]
      refine r_iload X dL_law_631 rfl ?_
      refine r_i2l X dL_law_633 ?_
      refine r_lcmp X dL_law_634 ?_
      refine r_if_eq X dL_law_635 (tgt := 640) (by decide) (fun q => ?_) (fun q => ?_)
      · have w := w.1 q
        refine VV_wk (ls' := [some (.retAddr 100), some (.ref l1), some (.ref l2), some (.ref l3), some (.int l4), none, none]) ?_ w
        exact (And.intro rfl (And.intro rfl (And.intro rfl (And.intro rfl (And.intro rfl trivial)))))
      · have w := w.2 q
        refine r_iconst X dL_law_638 (v := 0) (by decide) ?_
        exact VV_wk (ls' := [none, none, none, none, none, none, none]) trivial w
  · have w := w.2 q
    refine r_iconst X dL_law_621 (v := 0) (by decide) ?_
    exact VV_wk (ls' := [none, none, none, none, none, none, none]) trivial w

set_option maxRecDepth 10000 in
theorem b_L_law_640 {g : GG} {p : Program} {e : Env} {R : Room} {s : State} {m : MethodId} {args : Array Value} {below : List Frame} {meth : Method} {c : Code} {Q : State → Prop} {xt : List ExceptionTableEntry} {nm : String} {L : Nat} {xs : Nat → Int32} {kc ks : Nat} (hX : SX g L xs) (X : CX g p s m args meth c cL_law 7 ⟨RL, nm, "([I)Z"⟩ (some .boolean) xt) (l1 : Nat) (l2 : Nat) (l3 : Nat) (l4 : Int32) (h : Hp)
    (w : VV g p e R s m args below meth c 7 Q kc ks 2555 [some (.retAddr 100), some (.ref l1), some (.ref l2), some (.ref l3), some (.int l4), none, none] [] h) : VV g p e R s m args below meth c 7 Q kc ks 640 [some (.retAddr 100), some (.ref l1), some (.ref l2), some (.ref l3), some (.int l4), none, none] [] h := by
  refine r_goto X dL_law_640 (tgt := 2555) (by decide) ?_
  refine VV_wk (ls' := [some (.retAddr 100), some (.ref l1), some (.ref l2), some (.ref l3), some (.int l4), none, none]) ?_ w
  exact (And.intro rfl (And.intro rfl (And.intro rfl (And.intro rfl (And.intro rfl trivial)))))

set_option maxRecDepth 10000 in
theorem b_L_law_643 {g : GG} {p : Program} {e : Env} {R : Room} {s : State} {m : MethodId} {args : Array Value} {below : List Frame} {meth : Method} {c : Code} {Q : State → Prop} {xt : List ExceptionTableEntry} {nm : String} {L : Nat} {xs : Nat → Int32} {kc ks : Nat} (hX : SX g L xs) (X : CX g p s m args meth c cL_law 7 ⟨RL, nm, "([I)Z"⟩ (some .boolean) xt) (l1 : Nat) (l2 : Nat) (l3 : Nat) (l4 : Int32) (h : Hp)
    (w : (∃ k1, (l4 + (1 : Int32)) = nI k1 ∧ k1 < L ∧ (∃ k2, (l4 + (2 : Int32)) = nI k2 ∧ k2 < L ∧ (∃ d2 P2 m2 n2, CT g d2 yL_go (wsH yL_go cL_go 5 (some .int) [(0, 10, 13, 18)]) [.ref l1, .int ((xs k1)), .int ((xs k2)), .ref l3] h m2 n2 P2 noT ∧ ((d2 + 1 ≤ R.frames ∧ 60 * (d2 + 1) + 200 ≤ R.locals) ∧ kc + m2 ≤ R.cells ∧ ks + n2 ≤ R.slots) ∧ (∀ v h2, P2 v h2 → ∃ v4, v = some (.int v4) ∧ (∃ k5, (l4 + (1 : Int32)) = nI k5 ∧ k5 < L ∧ (∃ k6, (l4 + (2 : Int32)) = nI k6 ∧ k6 < L ∧ (∃ fs6, oF h2 l2 11 = some fs6 ∧ (∃ d6 P6 m6 n6, CT g d6 yX12_go (wsC yX12_go cX12_go 4 (some (.int))) [.ref l2, .int ((xs k5)), .int ((xs k6))] h2 m6 n6 P6 noT ∧ ((d6 + 1 ≤ R.frames ∧ 60 * (d6 + 1) + 200 ≤ R.locals) ∧ (kc + m2) + m6 ≤ R.cells ∧ (ks + n2) + n6 ≤ R.slots) ∧ (∀ v h6, P6 v h6 → ∃ v8, v = some (.int v8) ∧ (∃ fs8, oF h6 l2 11 = some fs8 ∧ (∃ d8 P8 m8 n8, CT g d8 yX12_thrown (wsC yX12_thrown cX12_thrown 1 (some (.int))) [.ref l2] h6 m8 n8 P8 noT ∧ ((d8 + 1 ≤ R.frames ∧ 60 * (d8 + 1) + 200 ≤ R.locals) ∧ ((kc + m2) + m6) + m8 ≤ R.cells ∧ ((ks + n2) + n6) + n8 ≤ R.slots) ∧ (∀ v h8, P8 v h8 → ∃ v10, v = some (.int v10) ∧ ((v10 = v4 → ((¬ v4 = 0 → VV g p e R s m args below meth c 7 Q ((((kc + m2) + m6) + m8)) ((((ks + n2) + n6) + n8)) 708 [some (.retAddr 100), some (.ref l1), some (.ref l2), some (.ref l3), some (.int l4), none, none] [] h8) ∧ (v4 = 0 → (∃ v11, aJ h8 l3 ((0 : Int32)) = some v11 ∧ (((lg_cmp v11 ((Int32.toInt64 v8))) = 0 → VV g p e R s m args below meth c 7 Q ((((kc + m2) + m6) + m8)) ((((ks + n2) + n6) + n8)) 708 [some (.retAddr 100), some (.ref l1), some (.ref l2), some (.ref l3), some (.int l4), none, none] [] h8) ∧ (¬ (lg_cmp v11 ((Int32.toInt64 v8))) = 0 → VV g p e R s m args below meth c 7 Q ((((kc + m2) + m6) + m8)) ((((ks + n2) + n6) + n8)) 707 [none, none, none, none, none, none, none] [.int ((0 : Int32))] h8)))))) ∧ (¬ v10 = v4 → VV g p e R s m args below meth c 7 Q ((((kc + m2) + m6) + m8)) ((((ks + n2) + n6) + n8)) 690 [none, none, none, none, none, none, none] [.int ((0 : Int32))] h8))))))))))))))) : VV g p e R s m args below meth c 7 Q kc ks 643 [some (.retAddr 100), some (.ref l1), some (.ref l2), some (.ref l3), some (.int l4), none, none] [] h := by
  refine r_aload_n X dL_law_643 rfl ?_
  refine r_aload_nR X dL_law_644 rfl ?_
  refine r_iload X dL_law_645 rfl ?_
  refine r_iconst X dL_law_647 (v := 1) (by decide) ?_
  refine r_iadd X dL_law_648 ?_
  obtain ⟨k1, ek1, ik1, w⟩ := w
  refine r_sld X dL_law_649 hX ek1 ik1 ?_
  refine r_aload_nR X dL_law_650 rfl ?_
  refine r_iload X dL_law_651 rfl ?_
  refine r_iconst X dL_law_653 (v := 2) (by decide) ?_
  refine r_iadd X dL_law_654 ?_
  obtain ⟨k2, ek2, ik2, w⟩ := w
  refine r_sld X dL_law_655 hX ek2 ik2 ?_
  refine r_aload_n X dL_law_656 rfl ?_
  obtain ⟨d2, P2, m2, n2, ct2, w⟩ := w
  obtain ⟨⟨x1, x2⟩, w⟩ := w
  refine r_callSH X (As := [.ref l1, .int ((xs k1)), .int ((xs k2)), .ref l3]) dL_law_657 mh_L_go ⟨ml_L_152, sm_L_go⟩ rfl rfl (by simp [Value.category]) x1 x2 ct2 (fun v h2 w1 => ?_)
  have w := w v h2 w1
  obtain ⟨v4, rfl, w⟩ := w
  refine r_istore X dL_law_660 (by decide) rfl ?_
  refine r_aload_n X dL_law_662 rfl ?_
  refine r_aload_nR X dL_law_663 rfl ?_
  refine r_iload X dL_law_664 rfl ?_
  refine r_iconst X dL_law_666 (v := 1) (by decide) ?_
  refine r_iadd X dL_law_667 ?_
  obtain ⟨k5, ek5, ik5, w⟩ := w
  refine r_sld X dL_law_668 hX ek5 ik5 ?_
  refine r_aload_nR X dL_law_669 rfl ?_
  refine r_iload X dL_law_670 rfl ?_
  refine r_iconst X dL_law_672 (v := 2) (by decide) ?_
  refine r_iadd X dL_law_673 ?_
  obtain ⟨k6, ek6, ik6, w⟩ := w
  refine r_sld X dL_law_674 hX ek6 ik6 ?_
  obtain ⟨fs6, es6, w⟩ := w
  obtain ⟨d6, P6, m6, n6, ct6, w⟩ := w
  obtain ⟨⟨x1, x2⟩, w⟩ := w
  refine r_callVC X (As := [.int ((xs k5)), .int ((xs k6))]) dL_law_675 mk_X12_go ⟨ml_L_154, im_X12_go, se_X12_go⟩ (oF_s es6) (ci_X12).1 rfl rfl rfl (by simp [Value.category]) x1 x2 ct6 (fun _ _ z => z.elim) (fun v h6 w1 => ?_)
  have w := w v h6 w1
  obtain ⟨v8, rfl, w⟩ := w
  refine r_istore X dL_law_678 (by decide) rfl ?_
  refine r_aload_n X dL_law_680 rfl ?_
  obtain ⟨fs8, es8, w⟩ := w
  obtain ⟨d8, P8, m8, n8, ct8, w⟩ := w
  obtain ⟨⟨x1, x2⟩, w⟩ := w
  refine r_callVC X (As := []) dL_law_681 mk_X12_thrown ⟨ml_L_127, im_X12_thrown, se_X12_thrown⟩ (oF_s es8) (ci_X12).1 rfl rfl rfl (by simp [Value.category]) x1 x2 ct8 (fun _ _ z => z.elim) (fun v h8 w1 => ?_)
  have w := w v h8 w1
  obtain ⟨v10, rfl, w⟩ := w
  refine r_iload X dL_law_684 rfl ?_
  refine r_icmp_eq X dL_law_686 (tgt := 691) (by decide) (fun q => ?_) (fun q => ?_)
  · have w := w.1 q
    refine r_iload X dL_law_691 rfl ?_
    refine r_if_ne X dL_law_693 (tgt := 708) (by decide) (fun q => ?_) (fun q => ?_)
    · have w := w.1 q
      refine VV_wk (ls' := [some (.retAddr 100), some (.ref l1), some (.ref l2), some (.ref l3), some (.int l4), none, none]) ?_ w
      exact (And.intro rfl (And.intro rfl (And.intro rfl (And.intro rfl (And.intro rfl trivial)))))
    · have w := w.2 q
      refine r_aload_n X dL_law_696 rfl ?_
      refine r_iconst X dL_law_697 (v := 0) (by decide) ?_
      obtain ⟨v11, ev11, w⟩ := w
      obtain ⟨nv11, fv11, cv11, iv11, qv11⟩ := aJ_s ev11
      refine r_lald X dL_law_698 cv11 iv11 ?_
      rw [qv11]
      refine r_iload X dL_law_699 rfl ?_
      refine r_i2l X dL_law_701 ?_
      refine r_lcmp X dL_law_702 ?_
      refine r_if_eq X dL_law_703 (tgt := 708) (by decide) (fun q => ?_) (fun q => ?_)
      · have w := w.1 q
        refine VV_wk (ls' := [some (.retAddr 100), some (.ref l1), some (.ref l2), some (.ref l3), some (.int l4), none, none]) ?_ w
        exact (And.intro rfl (And.intro rfl (And.intro rfl (And.intro rfl (And.intro rfl trivial)))))
      · have w := w.2 q
        refine r_iconst X dL_law_706 (v := 0) (by decide) ?_
        exact VV_wk (ls' := [none, none, none, none, none, none, none]) trivial w
  · have w := w.2 q
    refine r_iconst X dL_law_689 (v := 0) (by decide) ?_
    exact VV_wk (ls' := [none, none, none, none, none, none, none]) trivial w

set_option maxRecDepth 10000 in
theorem b_L_law_708 {g : GG} {p : Program} {e : Env} {R : Room} {s : State} {m : MethodId} {args : Array Value} {below : List Frame} {meth : Method} {c : Code} {Q : State → Prop} {xt : List ExceptionTableEntry} {nm : String} {L : Nat} {xs : Nat → Int32} {kc ks : Nat} (hX : SX g L xs) (X : CX g p s m args meth c cL_law 7 ⟨RL, nm, "([I)Z"⟩ (some .boolean) xt) (l1 : Nat) (l2 : Nat) (l3 : Nat) (l4 : Int32) (h : Hp)
    (w : VV g p e R s m args below meth c 7 Q kc ks 2555 [some (.retAddr 100), some (.ref l1), some (.ref l2), some (.ref l3), some (.int l4), none, none] [] h) : VV g p e R s m args below meth c 7 Q kc ks 708 [some (.retAddr 100), some (.ref l1), some (.ref l2), some (.ref l3), some (.int l4), none, none] [] h := by
  refine r_goto X dL_law_708 (tgt := 2555) (by decide) ?_
  refine VV_wk (ls' := [some (.retAddr 100), some (.ref l1), some (.ref l2), some (.ref l3), some (.int l4), none, none]) ?_ w
  exact (And.intro rfl (And.intro rfl (And.intro rfl (And.intro rfl (And.intro rfl trivial)))))

set_option maxRecDepth 10000 in
theorem b_L_law_711 {g : GG} {p : Program} {e : Env} {R : Room} {s : State} {m : MethodId} {args : Array Value} {below : List Frame} {meth : Method} {c : Code} {Q : State → Prop} {xt : List ExceptionTableEntry} {nm : String} {L : Nat} {xs : Nat → Int32} {kc ks : Nat} (hX : SX g L xs) (X : CX g p s m args meth c cL_law 7 ⟨RL, nm, "([I)Z"⟩ (some .boolean) xt) (l1 : Nat) (l2 : Nat) (l3 : Nat) (l4 : Int32) (h : Hp)
    (w : (∃ k1, (l4 + (1 : Int32)) = nI k1 ∧ k1 < L ∧ (∃ k2, (l4 + (2 : Int32)) = nI k2 ∧ k2 < L ∧ (∃ d2 P2 m2 n2, CT g d2 yL_stitch (wsH yL_stitch cL_stitch 5 (some .int) [(0, 10, 13, 18)]) [.ref l1, .int ((xs k1)), .int ((xs k2)), .ref l3] h m2 n2 P2 noT ∧ ((d2 + 1 ≤ R.frames ∧ 60 * (d2 + 1) + 200 ≤ R.locals) ∧ kc + m2 ≤ R.cells ∧ ks + n2 ≤ R.slots) ∧ (∀ v h2, P2 v h2 → ∃ v4, v = some (.int v4) ∧ (∃ k5, (l4 + (1 : Int32)) = nI k5 ∧ k5 < L ∧ (∃ k6, (l4 + (2 : Int32)) = nI k6 ∧ k6 < L ∧ (∃ fs6, oF h2 l2 11 = some fs6 ∧ (∃ d6 P6 m6 n6, CT g d6 yX12_stitch (wsC yX12_stitch cX12_stitch 4 (some (.int))) [.ref l2, .int ((xs k5)), .int ((xs k6))] h2 m6 n6 P6 noT ∧ ((d6 + 1 ≤ R.frames ∧ 60 * (d6 + 1) + 200 ≤ R.locals) ∧ (kc + m2) + m6 ≤ R.cells ∧ (ks + n2) + n6 ≤ R.slots) ∧ (∀ v h6, P6 v h6 → ∃ v8, v = some (.int v8) ∧ (∃ fs8, oF h6 l2 11 = some fs8 ∧ (∃ d8 P8 m8 n8, CT g d8 yX12_thrown (wsC yX12_thrown cX12_thrown 1 (some (.int))) [.ref l2] h6 m8 n8 P8 noT ∧ ((d8 + 1 ≤ R.frames ∧ 60 * (d8 + 1) + 200 ≤ R.locals) ∧ ((kc + m2) + m6) + m8 ≤ R.cells ∧ ((ks + n2) + n6) + n8 ≤ R.slots) ∧ (∀ v h8, P8 v h8 → ∃ v10, v = some (.int v10) ∧ ((v10 = v4 → ((¬ v4 = 0 → VV g p e R s m args below meth c 7 Q ((((kc + m2) + m6) + m8)) ((((ks + n2) + n6) + n8)) 776 [some (.retAddr 100), some (.ref l1), some (.ref l2), some (.ref l3), some (.int l4), none, none] [] h8) ∧ (v4 = 0 → (∃ v11, aJ h8 l3 ((0 : Int32)) = some v11 ∧ (((lg_cmp v11 ((Int32.toInt64 v8))) = 0 → VV g p e R s m args below meth c 7 Q ((((kc + m2) + m6) + m8)) ((((ks + n2) + n6) + n8)) 776 [some (.retAddr 100), some (.ref l1), some (.ref l2), some (.ref l3), some (.int l4), none, none] [] h8) ∧ (¬ (lg_cmp v11 ((Int32.toInt64 v8))) = 0 → VV g p e R s m args below meth c 7 Q ((((kc + m2) + m6) + m8)) ((((ks + n2) + n6) + n8)) 775 [none, none, none, none, none, none, none] [.int ((0 : Int32))] h8)))))) ∧ (¬ v10 = v4 → VV g p e R s m args below meth c 7 Q ((((kc + m2) + m6) + m8)) ((((ks + n2) + n6) + n8)) 758 [none, none, none, none, none, none, none] [.int ((0 : Int32))] h8))))))))))))))) : VV g p e R s m args below meth c 7 Q kc ks 711 [some (.retAddr 100), some (.ref l1), some (.ref l2), some (.ref l3), some (.int l4), none, none] [] h := by
  refine r_aload_n X dL_law_711 rfl ?_
  refine r_aload_nR X dL_law_712 rfl ?_
  refine r_iload X dL_law_713 rfl ?_
  refine r_iconst X dL_law_715 (v := 1) (by decide) ?_
  refine r_iadd X dL_law_716 ?_
  obtain ⟨k1, ek1, ik1, w⟩ := w
  refine r_sld X dL_law_717 hX ek1 ik1 ?_
  refine r_aload_nR X dL_law_718 rfl ?_
  refine r_iload X dL_law_719 rfl ?_
  refine r_iconst X dL_law_721 (v := 2) (by decide) ?_
  refine r_iadd X dL_law_722 ?_
  obtain ⟨k2, ek2, ik2, w⟩ := w
  refine r_sld X dL_law_723 hX ek2 ik2 ?_
  refine r_aload_n X dL_law_724 rfl ?_
  obtain ⟨d2, P2, m2, n2, ct2, w⟩ := w
  obtain ⟨⟨x1, x2⟩, w⟩ := w
  refine r_callSH X (As := [.ref l1, .int ((xs k1)), .int ((xs k2)), .ref l3]) dL_law_725 mh_L_stitch ⟨ml_L_155, sm_L_stitch⟩ rfl rfl (by simp [Value.category]) x1 x2 ct2 (fun v h2 w1 => ?_)
  have w := w v h2 w1
  obtain ⟨v4, rfl, w⟩ := w
  refine r_istore X dL_law_728 (by decide) rfl ?_
  refine r_aload_n X dL_law_730 rfl ?_
  refine r_aload_nR X dL_law_731 rfl ?_
  refine r_iload X dL_law_732 rfl ?_
  refine r_iconst X dL_law_734 (v := 1) (by decide) ?_
  refine r_iadd X dL_law_735 ?_
  obtain ⟨k5, ek5, ik5, w⟩ := w
  refine r_sld X dL_law_736 hX ek5 ik5 ?_
  refine r_aload_nR X dL_law_737 rfl ?_
  refine r_iload X dL_law_738 rfl ?_
  refine r_iconst X dL_law_740 (v := 2) (by decide) ?_
  refine r_iadd X dL_law_741 ?_
  obtain ⟨k6, ek6, ik6, w⟩ := w
  refine r_sld X dL_law_742 hX ek6 ik6 ?_
  obtain ⟨fs6, es6, w⟩ := w
  obtain ⟨d6, P6, m6, n6, ct6, w⟩ := w
  obtain ⟨⟨x1, x2⟩, w⟩ := w
  refine r_callVC X (As := [.int ((xs k5)), .int ((xs k6))]) dL_law_743 mk_X12_stitch ⟨ml_L_157, im_X12_stitch, se_X12_stitch⟩ (oF_s es6) (ci_X12).1 rfl rfl rfl (by simp [Value.category]) x1 x2 ct6 (fun _ _ z => z.elim) (fun v h6 w1 => ?_)
  have w := w v h6 w1
  obtain ⟨v8, rfl, w⟩ := w
  refine r_istore X dL_law_746 (by decide) rfl ?_
  refine r_aload_n X dL_law_748 rfl ?_
  obtain ⟨fs8, es8, w⟩ := w
  obtain ⟨d8, P8, m8, n8, ct8, w⟩ := w
  obtain ⟨⟨x1, x2⟩, w⟩ := w
  refine r_callVC X (As := []) dL_law_749 mk_X12_thrown ⟨ml_L_127, im_X12_thrown, se_X12_thrown⟩ (oF_s es8) (ci_X12).1 rfl rfl rfl (by simp [Value.category]) x1 x2 ct8 (fun _ _ z => z.elim) (fun v h8 w1 => ?_)
  have w := w v h8 w1
  obtain ⟨v10, rfl, w⟩ := w
  refine r_iload X dL_law_752 rfl ?_
  refine r_icmp_eq X dL_law_754 (tgt := 759) (by decide) (fun q => ?_) (fun q => ?_)
  · have w := w.1 q
    refine r_iload X dL_law_759 rfl ?_
    refine r_if_ne X dL_law_761 (tgt := 776) (by decide) (fun q => ?_) (fun q => ?_)
    · have w := w.1 q
      refine VV_wk (ls' := [some (.retAddr 100), some (.ref l1), some (.ref l2), some (.ref l3), some (.int l4), none, none]) ?_ w
      exact (And.intro rfl (And.intro rfl (And.intro rfl (And.intro rfl (And.intro rfl trivial)))))
    · have w := w.2 q
      refine r_aload_n X dL_law_764 rfl ?_
      refine r_iconst X dL_law_765 (v := 0) (by decide) ?_
      obtain ⟨v11, ev11, w⟩ := w
      obtain ⟨nv11, fv11, cv11, iv11, qv11⟩ := aJ_s ev11
      refine r_lald X dL_law_766 cv11 iv11 ?_
      rw [qv11]
      refine r_iload X dL_law_767 rfl ?_
      refine r_i2l X dL_law_769 ?_
      refine r_lcmp X dL_law_770 ?_
      refine r_if_eq X dL_law_771 (tgt := 776) (by decide) (fun q => ?_) (fun q => ?_)
      · have w := w.1 q
        refine VV_wk (ls' := [some (.retAddr 100), some (.ref l1), some (.ref l2), some (.ref l3), some (.int l4), none, none]) ?_ w
        exact (And.intro rfl (And.intro rfl (And.intro rfl (And.intro rfl (And.intro rfl trivial)))))
      · have w := w.2 q
        refine r_iconst X dL_law_774 (v := 0) (by decide) ?_
        exact VV_wk (ls' := [none, none, none, none, none, none, none]) trivial w
  · have w := w.2 q
    refine r_iconst X dL_law_757 (v := 0) (by decide) ?_
    exact VV_wk (ls' := [none, none, none, none, none, none, none]) trivial w

set_option maxRecDepth 10000 in
theorem b_L_law_776 {g : GG} {p : Program} {e : Env} {R : Room} {s : State} {m : MethodId} {args : Array Value} {below : List Frame} {meth : Method} {c : Code} {Q : State → Prop} {xt : List ExceptionTableEntry} {nm : String} {L : Nat} {xs : Nat → Int32} {kc ks : Nat} (hX : SX g L xs) (X : CX g p s m args meth c cL_law 7 ⟨RL, nm, "([I)Z"⟩ (some .boolean) xt) (l1 : Nat) (l2 : Nat) (l3 : Nat) (l4 : Int32) (h : Hp)
    (w : VV g p e R s m args below meth c 7 Q kc ks 2555 [some (.retAddr 100), some (.ref l1), some (.ref l2), some (.ref l3), some (.int l4), none, none] [] h) : VV g p e R s m args below meth c 7 Q kc ks 776 [some (.retAddr 100), some (.ref l1), some (.ref l2), some (.ref l3), some (.int l4), none, none] [] h := by
  refine r_goto X dL_law_776 (tgt := 2555) (by decide) ?_
  refine VV_wk (ls' := [some (.retAddr 100), some (.ref l1), some (.ref l2), some (.ref l3), some (.int l4), none, none]) ?_ w
  exact (And.intro rfl (And.intro rfl (And.intro rfl (And.intro rfl (And.intro rfl trivial)))))

set_option maxRecDepth 10000 in
theorem b_L_law_779 {g : GG} {p : Program} {e : Env} {R : Room} {s : State} {m : MethodId} {args : Array Value} {below : List Frame} {meth : Method} {c : Code} {Q : State → Prop} {xt : List ExceptionTableEntry} {nm : String} {L : Nat} {xs : Nat → Int32} {kc ks : Nat} (hX : SX g L xs) (X : CX g p s m args meth c cL_law 7 ⟨RL, nm, "([I)Z"⟩ (some .boolean) xt) (l1 : Nat) (l2 : Nat) (l3 : Nat) (l4 : Int32) (h : Hp)
    (w : (∃ k1, (l4 + (1 : Int32)) = nI k1 ∧ k1 < L ∧ (∃ k2, (l4 + (2 : Int32)) = nI k2 ∧ k2 < L ∧ (∃ d2 P2 m2 n2, CT g d2 yL_thread (wsH yL_thread cL_thread 5 (some .int) [(0, 10, 13, 18)]) [.ref l1, .int ((xs k1)), .int ((xs k2)), .ref l3] h m2 n2 P2 noT ∧ ((d2 + 1 ≤ R.frames ∧ 60 * (d2 + 1) + 200 ≤ R.locals) ∧ kc + m2 ≤ R.cells ∧ ks + n2 ≤ R.slots) ∧ (∀ v h2, P2 v h2 → ∃ v4, v = some (.int v4) ∧ (∃ k5, (l4 + (1 : Int32)) = nI k5 ∧ k5 < L ∧ (∃ k6, (l4 + (2 : Int32)) = nI k6 ∧ k6 < L ∧ (∃ fs6, oF h2 l2 11 = some fs6 ∧ (∃ d6 P6 m6 n6, CT g d6 yX12_thread (wsC yX12_thread cX12_thread 3 (some (.int))) [.ref l2, .int ((xs k5)), .int ((xs k6))] h2 m6 n6 P6 noT ∧ ((d6 + 1 ≤ R.frames ∧ 60 * (d6 + 1) + 200 ≤ R.locals) ∧ (kc + m2) + m6 ≤ R.cells ∧ (ks + n2) + n6 ≤ R.slots) ∧ (∀ v h6, P6 v h6 → ∃ v8, v = some (.int v8) ∧ (∃ fs8, oF h6 l2 11 = some fs8 ∧ (∃ d8 P8 m8 n8, CT g d8 yX12_thrown (wsC yX12_thrown cX12_thrown 1 (some (.int))) [.ref l2] h6 m8 n8 P8 noT ∧ ((d8 + 1 ≤ R.frames ∧ 60 * (d8 + 1) + 200 ≤ R.locals) ∧ ((kc + m2) + m6) + m8 ≤ R.cells ∧ ((ks + n2) + n6) + n8 ≤ R.slots) ∧ (∀ v h8, P8 v h8 → ∃ v10, v = some (.int v10) ∧ ((v10 = v4 → ((¬ v4 = 0 → VV g p e R s m args below meth c 7 Q ((((kc + m2) + m6) + m8)) ((((ks + n2) + n6) + n8)) 844 [some (.retAddr 100), some (.ref l1), some (.ref l2), some (.ref l3), some (.int l4), none, none] [] h8) ∧ (v4 = 0 → (∃ v11, aJ h8 l3 ((0 : Int32)) = some v11 ∧ (((lg_cmp v11 ((Int32.toInt64 v8))) = 0 → VV g p e R s m args below meth c 7 Q ((((kc + m2) + m6) + m8)) ((((ks + n2) + n6) + n8)) 844 [some (.retAddr 100), some (.ref l1), some (.ref l2), some (.ref l3), some (.int l4), none, none] [] h8) ∧ (¬ (lg_cmp v11 ((Int32.toInt64 v8))) = 0 → VV g p e R s m args below meth c 7 Q ((((kc + m2) + m6) + m8)) ((((ks + n2) + n6) + n8)) 843 [none, none, none, none, none, none, none] [.int ((0 : Int32))] h8)))))) ∧ (¬ v10 = v4 → VV g p e R s m args below meth c 7 Q ((((kc + m2) + m6) + m8)) ((((ks + n2) + n6) + n8)) 826 [none, none, none, none, none, none, none] [.int ((0 : Int32))] h8))))))))))))))) : VV g p e R s m args below meth c 7 Q kc ks 779 [some (.retAddr 100), some (.ref l1), some (.ref l2), some (.ref l3), some (.int l4), none, none] [] h := by
  refine r_aload_n X dL_law_779 rfl ?_
  refine r_aload_nR X dL_law_780 rfl ?_
  refine r_iload X dL_law_781 rfl ?_
  refine r_iconst X dL_law_783 (v := 1) (by decide) ?_
  refine r_iadd X dL_law_784 ?_
  obtain ⟨k1, ek1, ik1, w⟩ := w
  refine r_sld X dL_law_785 hX ek1 ik1 ?_
  refine r_aload_nR X dL_law_786 rfl ?_
  refine r_iload X dL_law_787 rfl ?_
  refine r_iconst X dL_law_789 (v := 2) (by decide) ?_
  refine r_iadd X dL_law_790 ?_
  obtain ⟨k2, ek2, ik2, w⟩ := w
  refine r_sld X dL_law_791 hX ek2 ik2 ?_
  refine r_aload_n X dL_law_792 rfl ?_
  obtain ⟨d2, P2, m2, n2, ct2, w⟩ := w
  obtain ⟨⟨x1, x2⟩, w⟩ := w
  refine r_callSH X (As := [.ref l1, .int ((xs k1)), .int ((xs k2)), .ref l3]) dL_law_793 mh_L_thread ⟨ml_L_158, sm_L_thread⟩ rfl rfl (by simp [Value.category]) x1 x2 ct2 (fun v h2 w1 => ?_)
  have w := w v h2 w1
  obtain ⟨v4, rfl, w⟩ := w
  refine r_istore X dL_law_796 (by decide) rfl ?_
  refine r_aload_n X dL_law_798 rfl ?_
  refine r_aload_nR X dL_law_799 rfl ?_
  refine r_iload X dL_law_800 rfl ?_
  refine r_iconst X dL_law_802 (v := 1) (by decide) ?_
  refine r_iadd X dL_law_803 ?_
  obtain ⟨k5, ek5, ik5, w⟩ := w
  refine r_sld X dL_law_804 hX ek5 ik5 ?_
  refine r_aload_nR X dL_law_805 rfl ?_
  refine r_iload X dL_law_806 rfl ?_
  refine r_iconst X dL_law_808 (v := 2) (by decide) ?_
  refine r_iadd X dL_law_809 ?_
  obtain ⟨k6, ek6, ik6, w⟩ := w
  refine r_sld X dL_law_810 hX ek6 ik6 ?_
  obtain ⟨fs6, es6, w⟩ := w
  obtain ⟨d6, P6, m6, n6, ct6, w⟩ := w
  obtain ⟨⟨x1, x2⟩, w⟩ := w
  refine r_callVC X (As := [.int ((xs k5)), .int ((xs k6))]) dL_law_811 mk_X12_thread ⟨ml_L_160, im_X12_thread, se_X12_thread⟩ (oF_s es6) (ci_X12).1 rfl rfl rfl (by simp [Value.category]) x1 x2 ct6 (fun _ _ z => z.elim) (fun v h6 w1 => ?_)
  have w := w v h6 w1
  obtain ⟨v8, rfl, w⟩ := w
  refine r_istore X dL_law_814 (by decide) rfl ?_
  refine r_aload_n X dL_law_816 rfl ?_
  obtain ⟨fs8, es8, w⟩ := w
  obtain ⟨d8, P8, m8, n8, ct8, w⟩ := w
  obtain ⟨⟨x1, x2⟩, w⟩ := w
  refine r_callVC X (As := []) dL_law_817 mk_X12_thrown ⟨ml_L_127, im_X12_thrown, se_X12_thrown⟩ (oF_s es8) (ci_X12).1 rfl rfl rfl (by simp [Value.category]) x1 x2 ct8 (fun _ _ z => z.elim) (fun v h8 w1 => ?_)
  have w := w v h8 w1
  obtain ⟨v10, rfl, w⟩ := w
  refine r_iload X dL_law_820 rfl ?_
  refine r_icmp_eq X dL_law_822 (tgt := 827) (by decide) (fun q => ?_) (fun q => ?_)
  · have w := w.1 q
    refine r_iload X dL_law_827 rfl ?_
    refine r_if_ne X dL_law_829 (tgt := 844) (by decide) (fun q => ?_) (fun q => ?_)
    · have w := w.1 q
      refine VV_wk (ls' := [some (.retAddr 100), some (.ref l1), some (.ref l2), some (.ref l3), some (.int l4), none, none]) ?_ w
      exact (And.intro rfl (And.intro rfl (And.intro rfl (And.intro rfl (And.intro rfl trivial)))))
    · have w := w.2 q
      refine r_aload_n X dL_law_832 rfl ?_
      refine r_iconst X dL_law_833 (v := 0) (by decide) ?_
      obtain ⟨v11, ev11, w⟩ := w
      obtain ⟨nv11, fv11, cv11, iv11, qv11⟩ := aJ_s ev11
      refine r_lald X dL_law_834 cv11 iv11 ?_
      rw [qv11]
      refine r_iload X dL_law_835 rfl ?_
      refine r_i2l X dL_law_837 ?_
      refine r_lcmp X dL_law_838 ?_
      refine r_if_eq X dL_law_839 (tgt := 844) (by decide) (fun q => ?_) (fun q => ?_)
      · have w := w.1 q
        refine VV_wk (ls' := [some (.retAddr 100), some (.ref l1), some (.ref l2), some (.ref l3), some (.int l4), none, none]) ?_ w
        exact (And.intro rfl (And.intro rfl (And.intro rfl (And.intro rfl (And.intro rfl trivial)))))
      · have w := w.2 q
        refine r_iconst X dL_law_842 (v := 0) (by decide) ?_
        exact VV_wk (ls' := [none, none, none, none, none, none, none]) trivial w
  · have w := w.2 q
    refine r_iconst X dL_law_825 (v := 0) (by decide) ?_
    exact VV_wk (ls' := [none, none, none, none, none, none, none]) trivial w

set_option maxRecDepth 10000 in
theorem b_L_law_844 {g : GG} {p : Program} {e : Env} {R : Room} {s : State} {m : MethodId} {args : Array Value} {below : List Frame} {meth : Method} {c : Code} {Q : State → Prop} {xt : List ExceptionTableEntry} {nm : String} {L : Nat} {xs : Nat → Int32} {kc ks : Nat} (hX : SX g L xs) (X : CX g p s m args meth c cL_law 7 ⟨RL, nm, "([I)Z"⟩ (some .boolean) xt) (l1 : Nat) (l2 : Nat) (l3 : Nat) (l4 : Int32) (h : Hp)
    (w : VV g p e R s m args below meth c 7 Q kc ks 2555 [some (.retAddr 100), some (.ref l1), some (.ref l2), some (.ref l3), some (.int l4), none, none] [] h) : VV g p e R s m args below meth c 7 Q kc ks 844 [some (.retAddr 100), some (.ref l1), some (.ref l2), some (.ref l3), some (.int l4), none, none] [] h := by
  refine r_goto X dL_law_844 (tgt := 2555) (by decide) ?_
  refine VV_wk (ls' := [some (.retAddr 100), some (.ref l1), some (.ref l2), some (.ref l3), some (.int l4), none, none]) ?_ w
  exact (And.intro rfl (And.intro rfl (And.intro rfl (And.intro rfl (And.intro rfl trivial)))))

set_option maxRecDepth 10000 in
theorem b_L_law_847 {g : GG} {p : Program} {e : Env} {R : Room} {s : State} {m : MethodId} {args : Array Value} {below : List Frame} {meth : Method} {c : Code} {Q : State → Prop} {xt : List ExceptionTableEntry} {nm : String} {L : Nat} {xs : Nat → Int32} {kc ks : Nat} (hX : SX g L xs) (X : CX g p s m args meth c cL_law 7 ⟨RL, nm, "([I)Z"⟩ (some .boolean) xt) (l1 : Nat) (l2 : Nat) (l3 : Nat) (l4 : Int32) (h : Hp)
    (w : (∃ k1, (l4 + (1 : Int32)) = nI k1 ∧ k1 < L ∧ (∃ k2, (l4 + (2 : Int32)) = nI k2 ∧ k2 < L ∧ (∃ d2 P2 m2 n2, CT g d2 yL_tear (wsH yL_tear cL_tear 5 (some .int) [(0, 10, 13, 18)]) [.ref l1, .int ((xs k1)), .int ((xs k2)), .ref l3] h m2 n2 P2 noT ∧ ((d2 + 1 ≤ R.frames ∧ 60 * (d2 + 1) + 200 ≤ R.locals) ∧ kc + m2 ≤ R.cells ∧ ks + n2 ≤ R.slots) ∧ (∀ v h2, P2 v h2 → ∃ v4, v = some (.int v4) ∧ (∃ k5, (l4 + (1 : Int32)) = nI k5 ∧ k5 < L ∧ (∃ k6, (l4 + (2 : Int32)) = nI k6 ∧ k6 < L ∧ (∃ fs6, oF h2 l2 11 = some fs6 ∧ (∃ d6 P6 m6 n6, CT g d6 yX12_tear (wsC yX12_tear cX12_tear 3 (some (.int))) [.ref l2, .int ((xs k5)), .int ((xs k6))] h2 m6 n6 P6 noT ∧ ((d6 + 1 ≤ R.frames ∧ 60 * (d6 + 1) + 200 ≤ R.locals) ∧ (kc + m2) + m6 ≤ R.cells ∧ (ks + n2) + n6 ≤ R.slots) ∧ (∀ v h6, P6 v h6 → ∃ v8, v = some (.int v8) ∧ (∃ fs8, oF h6 l2 11 = some fs8 ∧ (∃ d8 P8 m8 n8, CT g d8 yX12_thrown (wsC yX12_thrown cX12_thrown 1 (some (.int))) [.ref l2] h6 m8 n8 P8 noT ∧ ((d8 + 1 ≤ R.frames ∧ 60 * (d8 + 1) + 200 ≤ R.locals) ∧ ((kc + m2) + m6) + m8 ≤ R.cells ∧ ((ks + n2) + n6) + n8 ≤ R.slots) ∧ (∀ v h8, P8 v h8 → ∃ v10, v = some (.int v10) ∧ ((v10 = v4 → ((¬ v4 = 0 → VV g p e R s m args below meth c 7 Q ((((kc + m2) + m6) + m8)) ((((ks + n2) + n6) + n8)) 912 [some (.retAddr 100), some (.ref l1), some (.ref l2), some (.ref l3), some (.int l4), none, none] [] h8) ∧ (v4 = 0 → (∃ v11, aJ h8 l3 ((0 : Int32)) = some v11 ∧ (((lg_cmp v11 ((Int32.toInt64 v8))) = 0 → VV g p e R s m args below meth c 7 Q ((((kc + m2) + m6) + m8)) ((((ks + n2) + n6) + n8)) 912 [some (.retAddr 100), some (.ref l1), some (.ref l2), some (.ref l3), some (.int l4), none, none] [] h8) ∧ (¬ (lg_cmp v11 ((Int32.toInt64 v8))) = 0 → VV g p e R s m args below meth c 7 Q ((((kc + m2) + m6) + m8)) ((((ks + n2) + n6) + n8)) 911 [none, none, none, none, none, none, none] [.int ((0 : Int32))] h8)))))) ∧ (¬ v10 = v4 → VV g p e R s m args below meth c 7 Q ((((kc + m2) + m6) + m8)) ((((ks + n2) + n6) + n8)) 894 [none, none, none, none, none, none, none] [.int ((0 : Int32))] h8))))))))))))))) : VV g p e R s m args below meth c 7 Q kc ks 847 [some (.retAddr 100), some (.ref l1), some (.ref l2), some (.ref l3), some (.int l4), none, none] [] h := by
  refine r_aload_n X dL_law_847 rfl ?_
  refine r_aload_nR X dL_law_848 rfl ?_
  refine r_iload X dL_law_849 rfl ?_
  refine r_iconst X dL_law_851 (v := 1) (by decide) ?_
  refine r_iadd X dL_law_852 ?_
  obtain ⟨k1, ek1, ik1, w⟩ := w
  refine r_sld X dL_law_853 hX ek1 ik1 ?_
  refine r_aload_nR X dL_law_854 rfl ?_
  refine r_iload X dL_law_855 rfl ?_
  refine r_iconst X dL_law_857 (v := 2) (by decide) ?_
  refine r_iadd X dL_law_858 ?_
  obtain ⟨k2, ek2, ik2, w⟩ := w
  refine r_sld X dL_law_859 hX ek2 ik2 ?_
  refine r_aload_n X dL_law_860 rfl ?_
  obtain ⟨d2, P2, m2, n2, ct2, w⟩ := w
  obtain ⟨⟨x1, x2⟩, w⟩ := w
  refine r_callSH X (As := [.ref l1, .int ((xs k1)), .int ((xs k2)), .ref l3]) dL_law_861 mh_L_tear ⟨ml_L_161, sm_L_tear⟩ rfl rfl (by simp [Value.category]) x1 x2 ct2 (fun v h2 w1 => ?_)
  have w := w v h2 w1
  obtain ⟨v4, rfl, w⟩ := w
  refine r_istore X dL_law_864 (by decide) rfl ?_
  refine r_aload_n X dL_law_866 rfl ?_
  refine r_aload_nR X dL_law_867 rfl ?_
  refine r_iload X dL_law_868 rfl ?_
  refine r_iconst X dL_law_870 (v := 1) (by decide) ?_
  refine r_iadd X dL_law_871 ?_
  obtain ⟨k5, ek5, ik5, w⟩ := w
  refine r_sld X dL_law_872 hX ek5 ik5 ?_
  refine r_aload_nR X dL_law_873 rfl ?_
  refine r_iload X dL_law_874 rfl ?_
  refine r_iconst X dL_law_876 (v := 2) (by decide) ?_
  refine r_iadd X dL_law_877 ?_
  obtain ⟨k6, ek6, ik6, w⟩ := w
  refine r_sld X dL_law_878 hX ek6 ik6 ?_
  obtain ⟨fs6, es6, w⟩ := w
  obtain ⟨d6, P6, m6, n6, ct6, w⟩ := w
  obtain ⟨⟨x1, x2⟩, w⟩ := w
  refine r_callVC X (As := [.int ((xs k5)), .int ((xs k6))]) dL_law_879 mk_X12_tear ⟨ml_L_163, im_X12_tear, se_X12_tear⟩ (oF_s es6) (ci_X12).1 rfl rfl rfl (by simp [Value.category]) x1 x2 ct6 (fun _ _ z => z.elim) (fun v h6 w1 => ?_)
  have w := w v h6 w1
  obtain ⟨v8, rfl, w⟩ := w
  refine r_istore X dL_law_882 (by decide) rfl ?_
  refine r_aload_n X dL_law_884 rfl ?_
  obtain ⟨fs8, es8, w⟩ := w
  obtain ⟨d8, P8, m8, n8, ct8, w⟩ := w
  obtain ⟨⟨x1, x2⟩, w⟩ := w
  refine r_callVC X (As := []) dL_law_885 mk_X12_thrown ⟨ml_L_127, im_X12_thrown, se_X12_thrown⟩ (oF_s es8) (ci_X12).1 rfl rfl rfl (by simp [Value.category]) x1 x2 ct8 (fun _ _ z => z.elim) (fun v h8 w1 => ?_)
  have w := w v h8 w1
  obtain ⟨v10, rfl, w⟩ := w
  refine r_iload X dL_law_888 rfl ?_
  refine r_icmp_eq X dL_law_890 (tgt := 895) (by decide) (fun q => ?_) (fun q => ?_)
  · have w := w.1 q
    refine r_iload X dL_law_895 rfl ?_
    refine r_if_ne X dL_law_897 (tgt := 912) (by decide) (fun q => ?_) (fun q => ?_)
    · have w := w.1 q
      refine VV_wk (ls' := [some (.retAddr 100), some (.ref l1), some (.ref l2), some (.ref l3), some (.int l4), none, none]) ?_ w
      exact (And.intro rfl (And.intro rfl (And.intro rfl (And.intro rfl (And.intro rfl trivial)))))
    · have w := w.2 q
      refine r_aload_n X dL_law_900 rfl ?_
      refine r_iconst X dL_law_901 (v := 0) (by decide) ?_
      obtain ⟨v11, ev11, w⟩ := w
      obtain ⟨nv11, fv11, cv11, iv11, qv11⟩ := aJ_s ev11
      refine r_lald X dL_law_902 cv11 iv11 ?_
      rw [qv11]
      refine r_iload X dL_law_903 rfl ?_
      refine r_i2l X dL_law_905 ?_
      refine r_lcmp X dL_law_906 ?_
      refine r_if_eq X dL_law_907 (tgt := 912) (by decide) (fun q => ?_) (fun q => ?_)
      · have w := w.1 q
        refine VV_wk (ls' := [some (.retAddr 100), some (.ref l1), some (.ref l2), some (.ref l3), some (.int l4), none, none]) ?_ w
        exact (And.intro rfl (And.intro rfl (And.intro rfl (And.intro rfl (And.intro rfl trivial)))))
      · have w := w.2 q
        refine r_iconst X dL_law_910 (v := 0) (by decide) ?_
        exact VV_wk (ls' := [none, none, none, none, none, none, none]) trivial w
  · have w := w.2 q
    refine r_iconst X dL_law_893 (v := 0) (by decide) ?_
    exact VV_wk (ls' := [none, none, none, none, none, none, none]) trivial w

set_option maxRecDepth 10000 in
theorem b_L_law_912 {g : GG} {p : Program} {e : Env} {R : Room} {s : State} {m : MethodId} {args : Array Value} {below : List Frame} {meth : Method} {c : Code} {Q : State → Prop} {xt : List ExceptionTableEntry} {nm : String} {L : Nat} {xs : Nat → Int32} {kc ks : Nat} (hX : SX g L xs) (X : CX g p s m args meth c cL_law 7 ⟨RL, nm, "([I)Z"⟩ (some .boolean) xt) (l1 : Nat) (l2 : Nat) (l3 : Nat) (l4 : Int32) (h : Hp)
    (w : VV g p e R s m args below meth c 7 Q kc ks 2555 [some (.retAddr 100), some (.ref l1), some (.ref l2), some (.ref l3), some (.int l4), none, none] [] h) : VV g p e R s m args below meth c 7 Q kc ks 912 [some (.retAddr 100), some (.ref l1), some (.ref l2), some (.ref l3), some (.int l4), none, none] [] h := by
  refine r_goto X dL_law_912 (tgt := 2555) (by decide) ?_
  refine VV_wk (ls' := [some (.retAddr 100), some (.ref l1), some (.ref l2), some (.ref l3), some (.int l4), none, none]) ?_ w
  exact (And.intro rfl (And.intro rfl (And.intro rfl (And.intro rfl (And.intro rfl trivial)))))

set_option maxRecDepth 10000 in
theorem b_L_law_915 {g : GG} {p : Program} {e : Env} {R : Room} {s : State} {m : MethodId} {args : Array Value} {below : List Frame} {meth : Method} {c : Code} {Q : State → Prop} {xt : List ExceptionTableEntry} {nm : String} {L : Nat} {xs : Nat → Int32} {kc ks : Nat} (hX : SX g L xs) (X : CX g p s m args meth c cL_law 7 ⟨RL, nm, "([I)Z"⟩ (some .boolean) xt) (l1 : Nat) (l2 : Nat) (l3 : Nat) (l4 : Int32) (h : Hp)
    (w : (∃ fs0, oF h l1 10 = some fs0 ∧ (∃ d0 P0 m0 n0, CT g d0 yX11_undo (wsC yX11_undo cX11_undo 1 (some (.int))) [.ref l1] h m0 n0 P0 noT ∧ ((d0 + 1 ≤ R.frames ∧ 60 * (d0 + 1) + 200 ≤ R.locals) ∧ kc + m0 ≤ R.cells ∧ ks + n0 ≤ R.slots) ∧ (∀ v h0, P0 v h0 → ∃ v2, v = some (.int v2) ∧ (∃ fs2, oF h0 l2 11 = some fs2 ∧ (∃ d2 P2 m2 n2, CT g d2 yX12_undo (wsC yX12_undo cX12_undo 2 (some (.int))) [.ref l2] h0 m2 n2 P2 noT ∧ ((d2 + 1 ≤ R.frames ∧ 60 * (d2 + 1) + 200 ≤ R.locals) ∧ (kc + m0) + m2 ≤ R.cells ∧ (ks + n0) + n2 ≤ R.slots) ∧ (∀ v h2, P2 v h2 → ∃ v4, v = some (.int v4) ∧ ((v2 = v4 → VV g p e R s m args below meth c 7 Q (((kc + m0) + m2)) (((ks + n0) + n2)) 2555 [some (.retAddr 100), some (.ref l1), some (.ref l2), some (.ref l3), some (.int l4), none, none] [] h2) ∧ (¬ v2 = v4 → VV g p e R s m args below meth c 7 Q (((kc + m0) + m2)) (((ks + n0) + n2)) 927 [none, none, none, none, none, none, none] [.int ((0 : Int32))] h2))))))))) : VV g p e R s m args below meth c 7 Q kc ks 915 [some (.retAddr 100), some (.ref l1), some (.ref l2), some (.ref l3), some (.int l4), none, none] [] h := by
  refine r_aload_n X dL_law_915 rfl ?_
  obtain ⟨fs0, es0, w⟩ := w
  obtain ⟨d0, P0, m0, n0, ct0, w⟩ := w
  obtain ⟨⟨x1, x2⟩, w⟩ := w
  refine r_callVC X (As := []) dL_law_916 mk_X11_undo ⟨ml_L_164, im_X11_undo, se_X11_undo⟩ (oF_s es0) (ci_X11).1 rfl rfl rfl (by simp [Value.category]) x1 x2 ct0 (fun _ _ z => z.elim) (fun v h0 w1 => ?_)
  have w := w v h0 w1
  obtain ⟨v2, rfl, w⟩ := w
  refine r_aload_n X dL_law_919 rfl ?_
  obtain ⟨fs2, es2, w⟩ := w
  obtain ⟨d2, P2, m2, n2, ct2, w⟩ := w
  obtain ⟨⟨x1, x2⟩, w⟩ := w
  refine r_callVC X (As := []) dL_law_920 mk_X12_undo ⟨ml_L_167, im_X12_undo, se_X12_undo⟩ (oF_s es2) (ci_X12).1 rfl rfl rfl (by simp [Value.category]) x1 x2 ct2 (fun _ _ z => z.elim) (fun v h2 w1 => ?_)
  have w := w v h2 w1
  obtain ⟨v4, rfl, w⟩ := w
  refine r_icmp_eq X dL_law_923 (tgt := 2555) (by decide) (fun q => ?_) (fun q => ?_)
  · have w := w.1 q
    refine VV_wk (ls' := [some (.retAddr 100), some (.ref l1), some (.ref l2), some (.ref l3), some (.int l4), none, none]) ?_ w
    exact (And.intro rfl (And.intro rfl (And.intro rfl (And.intro rfl (And.intro rfl trivial)))))
  · have w := w.2 q
    refine r_iconst X dL_law_926 (v := 0) (by decide) ?_
    exact VV_wk (ls' := [none, none, none, none, none, none, none]) trivial w

set_option maxRecDepth 10000 in
theorem b_L_law_928 {g : GG} {p : Program} {e : Env} {R : Room} {s : State} {m : MethodId} {args : Array Value} {below : List Frame} {meth : Method} {c : Code} {Q : State → Prop} {xt : List ExceptionTableEntry} {nm : String} {L : Nat} {xs : Nat → Int32} {kc ks : Nat} (hX : SX g L xs) (X : CX g p s m args meth c cL_law 7 ⟨RL, nm, "([I)Z"⟩ (some .boolean) xt) (l1 : Nat) (l2 : Nat) (l3 : Nat) (l4 : Int32) (h : Hp)
    (w : (∃ k1, (l4 + (1 : Int32)) = nI k1 ∧ k1 < L ∧ (∃ k2, (l4 + (2 : Int32)) = nI k2 ∧ k2 < L ∧ (∃ k3, (l4 + (3 : Int32)) = nI k3 ∧ k3 < L ∧ (∃ d3 P3 m3 n3, CT g d3 yL_then (wsH yL_then cL_then 6 (some .int) [(0, 12, 15, 18), (0, 12, 19, 13)]) [.ref l1, .int ((xs k1)), .int ((xs k2)), .int ((xs k3)), .ref l3] h m3 n3 P3 noT ∧ ((d3 + 1 ≤ R.frames ∧ 60 * (d3 + 1) + 200 ≤ R.locals) ∧ kc + m3 ≤ R.cells ∧ ks + n3 ≤ R.slots) ∧ (∀ v h3, P3 v h3 → ∃ v5, v = some (.int v5) ∧ (∃ k6, (l4 + (1 : Int32)) = nI k6 ∧ k6 < L ∧ (∃ k7, (l4 + (2 : Int32)) = nI k7 ∧ k7 < L ∧ (∃ k8, (l4 + (3 : Int32)) = nI k8 ∧ k8 < L ∧ (∃ fs8, oF h3 l2 11 = some fs8 ∧ (∃ d8 P8 m8 n8, CT g d8 yX12_then (wsC yX12_then cX12_then 4 (some (.int))) [.ref l2, .int ((xs k6)), .int ((xs k7)), .int ((xs k8))] h3 m8 n8 P8 noT ∧ ((d8 + 1 ≤ R.frames ∧ 60 * (d8 + 1) + 200 ≤ R.locals) ∧ (kc + m3) + m8 ≤ R.cells ∧ (ks + n3) + n8 ≤ R.slots) ∧ (∀ v h8, P8 v h8 → ∃ v10, v = some (.int v10) ∧ (∃ fs10, oF h8 l2 11 = some fs10 ∧ (∃ d10 P10 m10 n10, CT g d10 yX12_thrown (wsC yX12_thrown cX12_thrown 1 (some (.int))) [.ref l2] h8 m10 n10 P10 noT ∧ ((d10 + 1 ≤ R.frames ∧ 60 * (d10 + 1) + 200 ≤ R.locals) ∧ ((kc + m3) + m8) + m10 ≤ R.cells ∧ ((ks + n3) + n8) + n10 ≤ R.slots) ∧ (∀ v h10, P10 v h10 → ∃ v12, v = some (.int v12) ∧ ((v12 = v5 → ((¬ v5 = 0 → VV g p e R s m args below meth c 7 Q ((((kc + m3) + m8) + m10)) ((((ks + n3) + n8) + n10)) 1005 [some (.retAddr 100), some (.ref l1), some (.ref l2), some (.ref l3), some (.int l4), none, none] [] h10) ∧ (v5 = 0 → (∃ v13, aJ h10 l3 ((0 : Int32)) = some v13 ∧ (((lg_cmp v13 ((Int32.toInt64 v10))) = 0 → VV g p e R s m args below meth c 7 Q ((((kc + m3) + m8) + m10)) ((((ks + n3) + n8) + n10)) 1005 [some (.retAddr 100), some (.ref l1), some (.ref l2), some (.ref l3), some (.int l4), none, none] [] h10) ∧ (¬ (lg_cmp v13 ((Int32.toInt64 v10))) = 0 → VV g p e R s m args below meth c 7 Q ((((kc + m3) + m8) + m10)) ((((ks + n3) + n8) + n10)) 1004 [none, none, none, none, none, none, none] [.int ((0 : Int32))] h10)))))) ∧ (¬ v12 = v5 → VV g p e R s m args below meth c 7 Q ((((kc + m3) + m8) + m10)) ((((ks + n3) + n8) + n10)) 987 [none, none, none, none, none, none, none] [.int ((0 : Int32))] h10))))))))))))))))) : VV g p e R s m args below meth c 7 Q kc ks 928 [some (.retAddr 100), some (.ref l1), some (.ref l2), some (.ref l3), some (.int l4), none, none] [] h := by
  refine r_aload_n X dL_law_928 rfl ?_
  refine r_aload_nR X dL_law_929 rfl ?_
  refine r_iload X dL_law_930 rfl ?_
  refine r_iconst X dL_law_932 (v := 1) (by decide) ?_
  refine r_iadd X dL_law_933 ?_
  obtain ⟨k1, ek1, ik1, w⟩ := w
  refine r_sld X dL_law_934 hX ek1 ik1 ?_
  refine r_aload_nR X dL_law_935 rfl ?_
  refine r_iload X dL_law_936 rfl ?_
  refine r_iconst X dL_law_938 (v := 2) (by decide) ?_
  refine r_iadd X dL_law_939 ?_
  obtain ⟨k2, ek2, ik2, w⟩ := w
  refine r_sld X dL_law_940 hX ek2 ik2 ?_
  refine r_aload_nR X dL_law_941 rfl ?_
  refine r_iload X dL_law_942 rfl ?_
  refine r_iconst X dL_law_944 (v := 3) (by decide) ?_
  refine r_iadd X dL_law_945 ?_
  obtain ⟨k3, ek3, ik3, w⟩ := w
  refine r_sld X dL_law_946 hX ek3 ik3 ?_
  refine r_aload_n X dL_law_947 rfl ?_
  obtain ⟨d3, P3, m3, n3, ct3, w⟩ := w
  obtain ⟨⟨x1, x2⟩, w⟩ := w
  refine r_callSH X (As := [.ref l1, .int ((xs k1)), .int ((xs k2)), .int ((xs k3)), .ref l3]) dL_law_948 mh_L_then ⟨ml_L_168, sm_L_then⟩ rfl rfl (by simp [Value.category]) x1 x2 ct3 (fun v h3 w1 => ?_)
  have w := w v h3 w1
  obtain ⟨v5, rfl, w⟩ := w
  refine r_istore X dL_law_951 (by decide) rfl ?_
  refine r_aload_n X dL_law_953 rfl ?_
  refine r_aload_nR X dL_law_954 rfl ?_
  refine r_iload X dL_law_955 rfl ?_
  refine r_iconst X dL_law_957 (v := 1) (by decide) ?_
  refine r_iadd X dL_law_958 ?_
  obtain ⟨k6, ek6, ik6, w⟩ := w
  refine r_sld X dL_law_959 hX ek6 ik6 ?_
  refine r_aload_nR X dL_law_960 rfl ?_
  refine r_iload X dL_law_961 rfl ?_
  refine r_iconst X dL_law_963 (v := 2) (by decide) ?_
  refine r_iadd X dL_law_964 ?_
  obtain ⟨k7, ek7, ik7, w⟩ := w
  refine r_sld X dL_law_965 hX ek7 ik7 ?_
  refine r_aload_nR X dL_law_966 rfl ?_
  refine r_iload X dL_law_967 rfl ?_
  refine r_iconst X dL_law_969 (v := 3) (by decide) ?_
  refine r_iadd X dL_law_970 ?_
  obtain ⟨k8, ek8, ik8, w⟩ := w
  refine r_sld X dL_law_971 hX ek8 ik8 ?_
  obtain ⟨fs8, es8, w⟩ := w
  obtain ⟨d8, P8, m8, n8, ct8, w⟩ := w
  obtain ⟨⟨x1, x2⟩, w⟩ := w
  refine r_callVC X (As := [.int ((xs k6)), .int ((xs k7)), .int ((xs k8))]) dL_law_972 mk_X12_then ⟨ml_L_171, im_X12_then, se_X12_then⟩ (oF_s es8) (ci_X12).1 rfl rfl rfl (by simp [Value.category]) x1 x2 ct8 (fun _ _ z => z.elim) (fun v h8 w1 => ?_)
  have w := w v h8 w1
  obtain ⟨v10, rfl, w⟩ := w
  refine r_istore X dL_law_975 (by decide) rfl ?_
  refine r_aload_n X dL_law_977 rfl ?_
  obtain ⟨fs10, es10, w⟩ := w
  obtain ⟨d10, P10, m10, n10, ct10, w⟩ := w
  obtain ⟨⟨x1, x2⟩, w⟩ := w
  refine r_callVC X (As := []) dL_law_978 mk_X12_thrown ⟨ml_L_127, im_X12_thrown, se_X12_thrown⟩ (oF_s es10) (ci_X12).1 rfl rfl rfl (by simp [Value.category]) x1 x2 ct10 (fun _ _ z => z.elim) (fun v h10 w1 => ?_)
  have w := w v h10 w1
  obtain ⟨v12, rfl, w⟩ := w
  refine r_iload X dL_law_981 rfl ?_
  refine r_icmp_eq X dL_law_983 (tgt := 988) (by decide) (fun q => ?_) (fun q => ?_)
  · have w := w.1 q
    refine r_iload X dL_law_988 rfl ?_
    refine r_if_ne X dL_law_990 (tgt := 1005) (by decide) (fun q => ?_) (fun q => ?_)
    · have w := w.1 q
      refine VV_wk (ls' := [some (.retAddr 100), some (.ref l1), some (.ref l2), some (.ref l3), some (.int l4), none, none]) ?_ w
      exact (And.intro rfl (And.intro rfl (And.intro rfl (And.intro rfl (And.intro rfl trivial)))))
    · have w := w.2 q
      refine r_aload_n X dL_law_993 rfl ?_
      refine r_iconst X dL_law_994 (v := 0) (by decide) ?_
      obtain ⟨v13, ev13, w⟩ := w
      obtain ⟨nv13, fv13, cv13, iv13, qv13⟩ := aJ_s ev13
      refine r_lald X dL_law_995 cv13 iv13 ?_
      rw [qv13]
      refine r_iload X dL_law_996 rfl ?_
      refine r_i2l X dL_law_998 ?_
      refine r_lcmp X dL_law_999 ?_
      refine r_if_eq X dL_law_1000 (tgt := 1005) (by decide) (fun q => ?_) (fun q => ?_)
      · have w := w.1 q
        refine VV_wk (ls' := [some (.retAddr 100), some (.ref l1), some (.ref l2), some (.ref l3), some (.int l4), none, none]) ?_ w
        exact (And.intro rfl (And.intro rfl (And.intro rfl (And.intro rfl (And.intro rfl trivial)))))
      · have w := w.2 q
        refine r_iconst X dL_law_1003 (v := 0) (by decide) ?_
        exact VV_wk (ls' := [none, none, none, none, none, none, none]) trivial w
  · have w := w.2 q
    refine r_iconst X dL_law_986 (v := 0) (by decide) ?_
    exact VV_wk (ls' := [none, none, none, none, none, none, none]) trivial w

set_option maxRecDepth 10000 in
theorem b_L_law_1005 {g : GG} {p : Program} {e : Env} {R : Room} {s : State} {m : MethodId} {args : Array Value} {below : List Frame} {meth : Method} {c : Code} {Q : State → Prop} {xt : List ExceptionTableEntry} {nm : String} {L : Nat} {xs : Nat → Int32} {kc ks : Nat} (hX : SX g L xs) (X : CX g p s m args meth c cL_law 7 ⟨RL, nm, "([I)Z"⟩ (some .boolean) xt) (l1 : Nat) (l2 : Nat) (l3 : Nat) (l4 : Int32) (h : Hp)
    (w : VV g p e R s m args below meth c 7 Q kc ks 2555 [some (.retAddr 100), some (.ref l1), some (.ref l2), some (.ref l3), some (.int l4), none, none] [] h) : VV g p e R s m args below meth c 7 Q kc ks 1005 [some (.retAddr 100), some (.ref l1), some (.ref l2), some (.ref l3), some (.int l4), none, none] [] h := by
  refine r_goto X dL_law_1005 (tgt := 2555) (by decide) ?_
  refine VV_wk (ls' := [some (.retAddr 100), some (.ref l1), some (.ref l2), some (.ref l3), some (.int l4), none, none]) ?_ w
  exact (And.intro rfl (And.intro rfl (And.intro rfl (And.intro rfl (And.intro rfl trivial)))))

set_option maxRecDepth 10000 in
theorem b_L_law_1008 {g : GG} {p : Program} {e : Env} {R : Room} {s : State} {m : MethodId} {args : Array Value} {below : List Frame} {meth : Method} {c : Code} {Q : State → Prop} {xt : List ExceptionTableEntry} {nm : String} {L : Nat} {xs : Nat → Int32} {kc ks : Nat} (hX : SX g L xs) (X : CX g p s m args meth c cL_law 7 ⟨RL, nm, "([I)Z"⟩ (some .boolean) xt) (l1 : Nat) (l2 : Nat) (l3 : Nat) (l4 : Int32) (h : Hp)
    (w : (∃ k1, (l4 + (1 : Int32)) = nI k1 ∧ k1 < L ∧ (∃ k2, (l4 + (2 : Int32)) = nI k2 ∧ k2 < L ∧ (∃ d2 P2 m2 n2, CT g d2 yL_later (wsH yL_later cL_later 5 (some .int) [(0, 10, 13, 18), (0, 10, 17, 13)]) [.ref l1, .int ((xs k1)), .int ((xs k2)), .ref l3] h m2 n2 P2 noT ∧ ((d2 + 1 ≤ R.frames ∧ 60 * (d2 + 1) + 200 ≤ R.locals) ∧ kc + m2 ≤ R.cells ∧ ks + n2 ≤ R.slots) ∧ (∀ v h2, P2 v h2 → ∃ v4, v = some (.int v4) ∧ (∃ k5, (l4 + (1 : Int32)) = nI k5 ∧ k5 < L ∧ (∃ k6, (l4 + (2 : Int32)) = nI k6 ∧ k6 < L ∧ (∃ fs6, oF h2 l2 11 = some fs6 ∧ (∃ d6 P6 m6 n6, CT g d6 yX12_later (wsC yX12_later cX12_later 3 (some (.int))) [.ref l2, .int ((xs k5)), .int ((xs k6))] h2 m6 n6 P6 noT ∧ ((d6 + 1 ≤ R.frames ∧ 60 * (d6 + 1) + 200 ≤ R.locals) ∧ (kc + m2) + m6 ≤ R.cells ∧ (ks + n2) + n6 ≤ R.slots) ∧ (∀ v h6, P6 v h6 → ∃ v8, v = some (.int v8) ∧ (∃ fs8, oF h6 l2 11 = some fs8 ∧ (∃ d8 P8 m8 n8, CT g d8 yX12_thrown (wsC yX12_thrown cX12_thrown 1 (some (.int))) [.ref l2] h6 m8 n8 P8 noT ∧ ((d8 + 1 ≤ R.frames ∧ 60 * (d8 + 1) + 200 ≤ R.locals) ∧ ((kc + m2) + m6) + m8 ≤ R.cells ∧ ((ks + n2) + n6) + n8 ≤ R.slots) ∧ (∀ v h8, P8 v h8 → ∃ v10, v = some (.int v10) ∧ ((v10 = v4 → ((¬ v4 = 0 → VV g p e R s m args below meth c 7 Q ((((kc + m2) + m6) + m8)) ((((ks + n2) + n6) + n8)) 1073 [some (.retAddr 100), some (.ref l1), some (.ref l2), some (.ref l3), some (.int l4), none, none] [] h8) ∧ (v4 = 0 → (∃ v11, aJ h8 l3 ((0 : Int32)) = some v11 ∧ (((lg_cmp v11 ((Int32.toInt64 v8))) = 0 → VV g p e R s m args below meth c 7 Q ((((kc + m2) + m6) + m8)) ((((ks + n2) + n6) + n8)) 1073 [some (.retAddr 100), some (.ref l1), some (.ref l2), some (.ref l3), some (.int l4), none, none] [] h8) ∧ (¬ (lg_cmp v11 ((Int32.toInt64 v8))) = 0 → VV g p e R s m args below meth c 7 Q ((((kc + m2) + m6) + m8)) ((((ks + n2) + n6) + n8)) 1072 [none, none, none, none, none, none, none] [.int ((0 : Int32))] h8)))))) ∧ (¬ v10 = v4 → VV g p e R s m args below meth c 7 Q ((((kc + m2) + m6) + m8)) ((((ks + n2) + n6) + n8)) 1055 [none, none, none, none, none, none, none] [.int ((0 : Int32))] h8))))))))))))))) : VV g p e R s m args below meth c 7 Q kc ks 1008 [some (.retAddr 100), some (.ref l1), some (.ref l2), some (.ref l3), some (.int l4), none, none] [] h := by
  refine r_aload_n X dL_law_1008 rfl ?_
  refine r_aload_nR X dL_law_1009 rfl ?_
  refine r_iload X dL_law_1010 rfl ?_
  refine r_iconst X dL_law_1012 (v := 1) (by decide) ?_
  refine r_iadd X dL_law_1013 ?_
  obtain ⟨k1, ek1, ik1, w⟩ := w
  refine r_sld X dL_law_1014 hX ek1 ik1 ?_
  refine r_aload_nR X dL_law_1015 rfl ?_
  refine r_iload X dL_law_1016 rfl ?_
  refine r_iconst X dL_law_1018 (v := 2) (by decide) ?_
  refine r_iadd X dL_law_1019 ?_
  obtain ⟨k2, ek2, ik2, w⟩ := w
  refine r_sld X dL_law_1020 hX ek2 ik2 ?_
  refine r_aload_n X dL_law_1021 rfl ?_
  obtain ⟨d2, P2, m2, n2, ct2, w⟩ := w
  obtain ⟨⟨x1, x2⟩, w⟩ := w
  refine r_callSH X (As := [.ref l1, .int ((xs k1)), .int ((xs k2)), .ref l3]) dL_law_1022 mh_L_later ⟨ml_L_172, sm_L_later⟩ rfl rfl (by simp [Value.category]) x1 x2 ct2 (fun v h2 w1 => ?_)
  have w := w v h2 w1
  obtain ⟨v4, rfl, w⟩ := w
  refine r_istore X dL_law_1025 (by decide) rfl ?_
  refine r_aload_n X dL_law_1027 rfl ?_
  refine r_aload_nR X dL_law_1028 rfl ?_
  refine r_iload X dL_law_1029 rfl ?_
  refine r_iconst X dL_law_1031 (v := 1) (by decide) ?_
  refine r_iadd X dL_law_1032 ?_
  obtain ⟨k5, ek5, ik5, w⟩ := w
  refine r_sld X dL_law_1033 hX ek5 ik5 ?_
  refine r_aload_nR X dL_law_1034 rfl ?_
  refine r_iload X dL_law_1035 rfl ?_
  refine r_iconst X dL_law_1037 (v := 2) (by decide) ?_
  refine r_iadd X dL_law_1038 ?_
  obtain ⟨k6, ek6, ik6, w⟩ := w
  refine r_sld X dL_law_1039 hX ek6 ik6 ?_
  obtain ⟨fs6, es6, w⟩ := w
  obtain ⟨d6, P6, m6, n6, ct6, w⟩ := w
  obtain ⟨⟨x1, x2⟩, w⟩ := w
  refine r_callVC X (As := [.int ((xs k5)), .int ((xs k6))]) dL_law_1040 mk_X12_later ⟨ml_L_174, im_X12_later, se_X12_later⟩ (oF_s es6) (ci_X12).1 rfl rfl rfl (by simp [Value.category]) x1 x2 ct6 (fun _ _ z => z.elim) (fun v h6 w1 => ?_)
  have w := w v h6 w1
  obtain ⟨v8, rfl, w⟩ := w
  refine r_istore X dL_law_1043 (by decide) rfl ?_
  refine r_aload_n X dL_law_1045 rfl ?_
  obtain ⟨fs8, es8, w⟩ := w
  obtain ⟨d8, P8, m8, n8, ct8, w⟩ := w
  obtain ⟨⟨x1, x2⟩, w⟩ := w
  refine r_callVC X (As := []) dL_law_1046 mk_X12_thrown ⟨ml_L_127, im_X12_thrown, se_X12_thrown⟩ (oF_s es8) (ci_X12).1 rfl rfl rfl (by simp [Value.category]) x1 x2 ct8 (fun _ _ z => z.elim) (fun v h8 w1 => ?_)
  have w := w v h8 w1
  obtain ⟨v10, rfl, w⟩ := w
  refine r_iload X dL_law_1049 rfl ?_
  refine r_icmp_eq X dL_law_1051 (tgt := 1056) (by decide) (fun q => ?_) (fun q => ?_)
  · have w := w.1 q
    refine r_iload X dL_law_1056 rfl ?_
    refine r_if_ne X dL_law_1058 (tgt := 1073) (by decide) (fun q => ?_) (fun q => ?_)
    · have w := w.1 q
      refine VV_wk (ls' := [some (.retAddr 100), some (.ref l1), some (.ref l2), some (.ref l3), some (.int l4), none, none]) ?_ w
      exact (And.intro rfl (And.intro rfl (And.intro rfl (And.intro rfl (And.intro rfl trivial)))))
    · have w := w.2 q
      refine r_aload_n X dL_law_1061 rfl ?_
      refine r_iconst X dL_law_1062 (v := 0) (by decide) ?_
      obtain ⟨v11, ev11, w⟩ := w
      obtain ⟨nv11, fv11, cv11, iv11, qv11⟩ := aJ_s ev11
      refine r_lald X dL_law_1063 cv11 iv11 ?_
      rw [qv11]
      refine r_iload X dL_law_1064 rfl ?_
      refine r_i2l X dL_law_1066 ?_
      refine r_lcmp X dL_law_1067 ?_
      refine r_if_eq X dL_law_1068 (tgt := 1073) (by decide) (fun q => ?_) (fun q => ?_)
      · have w := w.1 q
        refine VV_wk (ls' := [some (.retAddr 100), some (.ref l1), some (.ref l2), some (.ref l3), some (.int l4), none, none]) ?_ w
        exact (And.intro rfl (And.intro rfl (And.intro rfl (And.intro rfl (And.intro rfl trivial)))))
      · have w := w.2 q
        refine r_iconst X dL_law_1071 (v := 0) (by decide) ?_
        exact VV_wk (ls' := [none, none, none, none, none, none, none]) trivial w
  · have w := w.2 q
    refine r_iconst X dL_law_1054 (v := 0) (by decide) ?_
    exact VV_wk (ls' := [none, none, none, none, none, none, none]) trivial w

set_option maxRecDepth 10000 in
theorem b_L_law_1073 {g : GG} {p : Program} {e : Env} {R : Room} {s : State} {m : MethodId} {args : Array Value} {below : List Frame} {meth : Method} {c : Code} {Q : State → Prop} {xt : List ExceptionTableEntry} {nm : String} {L : Nat} {xs : Nat → Int32} {kc ks : Nat} (hX : SX g L xs) (X : CX g p s m args meth c cL_law 7 ⟨RL, nm, "([I)Z"⟩ (some .boolean) xt) (l1 : Nat) (l2 : Nat) (l3 : Nat) (l4 : Int32) (h : Hp)
    (w : VV g p e R s m args below meth c 7 Q kc ks 2555 [some (.retAddr 100), some (.ref l1), some (.ref l2), some (.ref l3), some (.int l4), none, none] [] h) : VV g p e R s m args below meth c 7 Q kc ks 1073 [some (.retAddr 100), some (.ref l1), some (.ref l2), some (.ref l3), some (.int l4), none, none] [] h := by
  refine r_goto X dL_law_1073 (tgt := 2555) (by decide) ?_
  refine VV_wk (ls' := [some (.retAddr 100), some (.ref l1), some (.ref l2), some (.ref l3), some (.int l4), none, none]) ?_ w
  exact (And.intro rfl (And.intro rfl (And.intro rfl (And.intro rfl (And.intro rfl trivial)))))

set_option maxRecDepth 10000 in
theorem b_L_law_1076 {g : GG} {p : Program} {e : Env} {R : Room} {s : State} {m : MethodId} {args : Array Value} {below : List Frame} {meth : Method} {c : Code} {Q : State → Prop} {xt : List ExceptionTableEntry} {nm : String} {L : Nat} {xs : Nat → Int32} {kc ks : Nat} (hX : SX g L xs) (X : CX g p s m args meth c cL_law 7 ⟨RL, nm, "([I)Z"⟩ (some .boolean) xt) (l1 : Nat) (l2 : Nat) (l3 : Nat) (l4 : Int32) (h : Hp)
    (w : (∃ k1, (l4 + (1 : Int32)) = nI k1 ∧ k1 < L ∧ (∃ d1 P1 m1 n1, CT g d1 yL_opens (wsH yL_opens cL_opens 4 (some .int) [(0, 9, 12, 18)]) [.ref l1, .int ((xs k1)), .ref l3] h m1 n1 P1 noT ∧ ((d1 + 1 ≤ R.frames ∧ 60 * (d1 + 1) + 200 ≤ R.locals) ∧ kc + m1 ≤ R.cells ∧ ks + n1 ≤ R.slots) ∧ (∀ v h1, P1 v h1 → ∃ v3, v = some (.int v3) ∧ (∃ k4, (l4 + (1 : Int32)) = nI k4 ∧ k4 < L ∧ (∃ fs4, oF h1 l2 11 = some fs4 ∧ (∃ d4 P4 m4 n4, CT g d4 yX12_opens (wsC yX12_opens cX12_opens 3 (some (.int))) [.ref l2, .int ((xs k4))] h1 m4 n4 P4 noT ∧ ((d4 + 1 ≤ R.frames ∧ 60 * (d4 + 1) + 200 ≤ R.locals) ∧ (kc + m1) + m4 ≤ R.cells ∧ (ks + n1) + n4 ≤ R.slots) ∧ (∀ v h4, P4 v h4 → ∃ v6, v = some (.int v6) ∧ (∃ fs6, oF h4 l2 11 = some fs6 ∧ (∃ d6 P6 m6 n6, CT g d6 yX12_thrown (wsC yX12_thrown cX12_thrown 1 (some (.int))) [.ref l2] h4 m6 n6 P6 noT ∧ ((d6 + 1 ≤ R.frames ∧ 60 * (d6 + 1) + 200 ≤ R.locals) ∧ ((kc + m1) + m4) + m6 ≤ R.cells ∧ ((ks + n1) + n4) + n6 ≤ R.slots) ∧ (∀ v h6, P6 v h6 → ∃ v8, v = some (.int v8) ∧ ((v8 = v3 → ((¬ v3 = 0 → VV g p e R s m args below meth c 7 Q ((((kc + m1) + m4) + m6)) ((((ks + n1) + n4) + n6)) 1129 [some (.retAddr 100), some (.ref l1), some (.ref l2), some (.ref l3), some (.int l4), none, none] [] h6) ∧ (v3 = 0 → (∃ v9, aJ h6 l3 ((0 : Int32)) = some v9 ∧ (((lg_cmp v9 ((Int32.toInt64 v6))) = 0 → VV g p e R s m args below meth c 7 Q ((((kc + m1) + m4) + m6)) ((((ks + n1) + n4) + n6)) 1129 [some (.retAddr 100), some (.ref l1), some (.ref l2), some (.ref l3), some (.int l4), none, none] [] h6) ∧ (¬ (lg_cmp v9 ((Int32.toInt64 v6))) = 0 → VV g p e R s m args below meth c 7 Q ((((kc + m1) + m4) + m6)) ((((ks + n1) + n4) + n6)) 1128 [none, none, none, none, none, none, none] [.int ((0 : Int32))] h6)))))) ∧ (¬ v8 = v3 → VV g p e R s m args below meth c 7 Q ((((kc + m1) + m4) + m6)) ((((ks + n1) + n4) + n6)) 1111 [none, none, none, none, none, none, none] [.int ((0 : Int32))] h6))))))))))))) : VV g p e R s m args below meth c 7 Q kc ks 1076 [some (.retAddr 100), some (.ref l1), some (.ref l2), some (.ref l3), some (.int l4), none, none] [] h := by
  refine r_aload_n X dL_law_1076 rfl ?_
  refine r_aload_nR X dL_law_1077 rfl ?_
  refine r_iload X dL_law_1078 rfl ?_
  refine r_iconst X dL_law_1080 (v := 1) (by decide) ?_
  refine r_iadd X dL_law_1081 ?_
  obtain ⟨k1, ek1, ik1, w⟩ := w
  refine r_sld X dL_law_1082 hX ek1 ik1 ?_
  refine r_aload_n X dL_law_1083 rfl ?_
  obtain ⟨d1, P1, m1, n1, ct1, w⟩ := w
  obtain ⟨⟨x1, x2⟩, w⟩ := w
  refine r_callSH X (As := [.ref l1, .int ((xs k1)), .ref l3]) dL_law_1084 mh_L_opens ⟨ml_L_175, sm_L_opens⟩ rfl rfl (by simp [Value.category]) x1 x2 ct1 (fun v h1 w1 => ?_)
  have w := w v h1 w1
  obtain ⟨v3, rfl, w⟩ := w
  refine r_istore X dL_law_1087 (by decide) rfl ?_
  refine r_aload_n X dL_law_1089 rfl ?_
  refine r_aload_nR X dL_law_1090 rfl ?_
  refine r_iload X dL_law_1091 rfl ?_
  refine r_iconst X dL_law_1093 (v := 1) (by decide) ?_
  refine r_iadd X dL_law_1094 ?_
  obtain ⟨k4, ek4, ik4, w⟩ := w
  refine r_sld X dL_law_1095 hX ek4 ik4 ?_
  obtain ⟨fs4, es4, w⟩ := w
  obtain ⟨d4, P4, m4, n4, ct4, w⟩ := w
  obtain ⟨⟨x1, x2⟩, w⟩ := w
  refine r_callVC X (As := [.int ((xs k4))]) dL_law_1096 mk_X12_opens ⟨ml_L_177, im_X12_opens, se_X12_opens⟩ (oF_s es4) (ci_X12).1 rfl rfl rfl (by simp [Value.category]) x1 x2 ct4 (fun _ _ z => z.elim) (fun v h4 w1 => ?_)
  have w := w v h4 w1
  obtain ⟨v6, rfl, w⟩ := w
  refine r_istore X dL_law_1099 (by decide) rfl ?_
  refine r_aload_n X dL_law_1101 rfl ?_
  obtain ⟨fs6, es6, w⟩ := w
  obtain ⟨d6, P6, m6, n6, ct6, w⟩ := w
  obtain ⟨⟨x1, x2⟩, w⟩ := w
  refine r_callVC X (As := []) dL_law_1102 mk_X12_thrown ⟨ml_L_127, im_X12_thrown, se_X12_thrown⟩ (oF_s es6) (ci_X12).1 rfl rfl rfl (by simp [Value.category]) x1 x2 ct6 (fun _ _ z => z.elim) (fun v h6 w1 => ?_)
  have w := w v h6 w1
  obtain ⟨v8, rfl, w⟩ := w
  refine r_iload X dL_law_1105 rfl ?_
  refine r_icmp_eq X dL_law_1107 (tgt := 1112) (by decide) (fun q => ?_) (fun q => ?_)
  · have w := w.1 q
    refine r_iload X dL_law_1112 rfl ?_
    refine r_if_ne X dL_law_1114 (tgt := 1129) (by decide) (fun q => ?_) (fun q => ?_)
    · have w := w.1 q
      refine VV_wk (ls' := [some (.retAddr 100), some (.ref l1), some (.ref l2), some (.ref l3), some (.int l4), none, none]) ?_ w
      exact (And.intro rfl (And.intro rfl (And.intro rfl (And.intro rfl (And.intro rfl trivial)))))
    · have w := w.2 q
      refine r_aload_n X dL_law_1117 rfl ?_
      refine r_iconst X dL_law_1118 (v := 0) (by decide) ?_
      obtain ⟨v9, ev9, w⟩ := w
      obtain ⟨nv9, fv9, cv9, iv9, qv9⟩ := aJ_s ev9
      refine r_lald X dL_law_1119 cv9 iv9 ?_
      rw [qv9]
      refine r_iload X dL_law_1120 rfl ?_
      refine r_i2l X dL_law_1122 ?_
      refine r_lcmp X dL_law_1123 ?_
      refine r_if_eq X dL_law_1124 (tgt := 1129) (by decide) (fun q => ?_) (fun q => ?_)
      · have w := w.1 q
        refine VV_wk (ls' := [some (.retAddr 100), some (.ref l1), some (.ref l2), some (.ref l3), some (.int l4), none, none]) ?_ w
        exact (And.intro rfl (And.intro rfl (And.intro rfl (And.intro rfl (And.intro rfl trivial)))))
      · have w := w.2 q
        refine r_iconst X dL_law_1127 (v := 0) (by decide) ?_
        exact VV_wk (ls' := [none, none, none, none, none, none, none]) trivial w
  · have w := w.2 q
    refine r_iconst X dL_law_1110 (v := 0) (by decide) ?_
    exact VV_wk (ls' := [none, none, none, none, none, none, none]) trivial w

set_option maxRecDepth 10000 in
theorem b_L_law_1129 {g : GG} {p : Program} {e : Env} {R : Room} {s : State} {m : MethodId} {args : Array Value} {below : List Frame} {meth : Method} {c : Code} {Q : State → Prop} {xt : List ExceptionTableEntry} {nm : String} {L : Nat} {xs : Nat → Int32} {kc ks : Nat} (hX : SX g L xs) (X : CX g p s m args meth c cL_law 7 ⟨RL, nm, "([I)Z"⟩ (some .boolean) xt) (l1 : Nat) (l2 : Nat) (l3 : Nat) (l4 : Int32) (h : Hp)
    (w : VV g p e R s m args below meth c 7 Q kc ks 2555 [some (.retAddr 100), some (.ref l1), some (.ref l2), some (.ref l3), some (.int l4), none, none] [] h) : VV g p e R s m args below meth c 7 Q kc ks 1129 [some (.retAddr 100), some (.ref l1), some (.ref l2), some (.ref l3), some (.int l4), none, none] [] h := by
  refine r_goto X dL_law_1129 (tgt := 2555) (by decide) ?_
  refine VV_wk (ls' := [some (.retAddr 100), some (.ref l1), some (.ref l2), some (.ref l3), some (.int l4), none, none]) ?_ w
  exact (And.intro rfl (And.intro rfl (And.intro rfl (And.intro rfl (And.intro rfl trivial)))))

set_option maxRecDepth 10000 in
theorem b_L_law_1132 {g : GG} {p : Program} {e : Env} {R : Room} {s : State} {m : MethodId} {args : Array Value} {below : List Frame} {meth : Method} {c : Code} {Q : State → Prop} {xt : List ExceptionTableEntry} {nm : String} {L : Nat} {xs : Nat → Int32} {kc ks : Nat} (hX : SX g L xs) (X : CX g p s m args meth c cL_law 7 ⟨RL, nm, "([I)Z"⟩ (some .boolean) xt) (l1 : Nat) (l2 : Nat) (l3 : Nat) (l4 : Int32) (h : Hp)
    (w : (∃ fs0, oF h l1 10 = some fs0 ∧ (∃ d0 P0 m0 n0, CT g d0 yX11_first (wsC yX11_first cX11_first 4 (some (.int))) [.ref l1] h m0 n0 P0 noT ∧ ((d0 + 1 ≤ R.frames ∧ 60 * (d0 + 1) + 200 ≤ R.locals) ∧ kc + m0 ≤ R.cells ∧ ks + n0 ≤ R.slots) ∧ (∀ v h0, P0 v h0 → ∃ v2, v = some (.int v2) ∧ (∃ fs2, oF h0 l2 11 = some fs2 ∧ (∃ d2 P2 m2 n2, CT g d2 yX12_first (wsC yX12_first cX12_first 5 (some (.int))) [.ref l2] h0 m2 n2 P2 noT ∧ ((d2 + 1 ≤ R.frames ∧ 60 * (d2 + 1) + 200 ≤ R.locals) ∧ (kc + m0) + m2 ≤ R.cells ∧ (ks + n0) + n2 ≤ R.slots) ∧ (∀ v h2, P2 v h2 → ∃ v4, v = some (.int v4) ∧ ((v2 = v4 → VV g p e R s m args below meth c 7 Q (((kc + m0) + m2)) (((ks + n0) + n2)) 2555 [some (.retAddr 100), some (.ref l1), some (.ref l2), some (.ref l3), some (.int l4), none, none] [] h2) ∧ (¬ v2 = v4 → VV g p e R s m args below meth c 7 Q (((kc + m0) + m2)) (((ks + n0) + n2)) 1144 [none, none, none, none, none, none, none] [.int ((0 : Int32))] h2))))))))) : VV g p e R s m args below meth c 7 Q kc ks 1132 [some (.retAddr 100), some (.ref l1), some (.ref l2), some (.ref l3), some (.int l4), none, none] [] h := by
  refine r_aload_n X dL_law_1132 rfl ?_
  obtain ⟨fs0, es0, w⟩ := w
  obtain ⟨d0, P0, m0, n0, ct0, w⟩ := w
  obtain ⟨⟨x1, x2⟩, w⟩ := w
  refine r_callVC X (As := []) dL_law_1133 mk_X11_first ⟨ml_L_178, im_X11_first, se_X11_first⟩ (oF_s es0) (ci_X11).1 rfl rfl rfl (by simp [Value.category]) x1 x2 ct0 (fun _ _ z => z.elim) (fun v h0 w1 => ?_)
  have w := w v h0 w1
  obtain ⟨v2, rfl, w⟩ := w
  refine r_aload_n X dL_law_1136 rfl ?_
  obtain ⟨fs2, es2, w⟩ := w
  obtain ⟨d2, P2, m2, n2, ct2, w⟩ := w
  obtain ⟨⟨x1, x2⟩, w⟩ := w
  refine r_callVC X (As := []) dL_law_1137 mk_X12_first ⟨ml_L_181, im_X12_first, se_X12_first⟩ (oF_s es2) (ci_X12).1 rfl rfl rfl (by simp [Value.category]) x1 x2 ct2 (fun _ _ z => z.elim) (fun v h2 w1 => ?_)
  have w := w v h2 w1
  obtain ⟨v4, rfl, w⟩ := w
  refine r_icmp_eq X dL_law_1140 (tgt := 2555) (by decide) (fun q => ?_) (fun q => ?_)
  · have w := w.1 q
    refine VV_wk (ls' := [some (.retAddr 100), some (.ref l1), some (.ref l2), some (.ref l3), some (.int l4), none, none]) ?_ w
    exact (And.intro rfl (And.intro rfl (And.intro rfl (And.intro rfl (And.intro rfl trivial)))))
  · have w := w.2 q
    refine r_iconst X dL_law_1143 (v := 0) (by decide) ?_
    exact VV_wk (ls' := [none, none, none, none, none, none, none]) trivial w

set_option maxRecDepth 10000 in
theorem b_L_law_1145 {g : GG} {p : Program} {e : Env} {R : Room} {s : State} {m : MethodId} {args : Array Value} {below : List Frame} {meth : Method} {c : Code} {Q : State → Prop} {xt : List ExceptionTableEntry} {nm : String} {L : Nat} {xs : Nat → Int32} {kc ks : Nat} (hX : SX g L xs) (X : CX g p s m args meth c cL_law 7 ⟨RL, nm, "([I)Z"⟩ (some .boolean) xt) (l1 : Nat) (l2 : Nat) (l3 : Nat) (l4 : Int32) (h : Hp)
    (w : (∃ k1, (l4 + (1 : Int32)) = nI k1 ∧ k1 < L ∧ (∃ k2, (l4 + (2 : Int32)) = nI k2 ∧ k2 < L ∧ (∃ k3, (l4 + (3 : Int32)) = nI k3 ∧ k3 < L ∧ (∃ d3 P3 m3 n3, CT g d3 yL_where (wsH yL_where cL_where 6 (some .int) [(0, 12, 15, 18), (0, 12, 19, 13)]) [.ref l1, .int ((xs k1)), .int ((xs k2)), .int ((xs k3)), .ref l3] h m3 n3 P3 noT ∧ ((d3 + 1 ≤ R.frames ∧ 60 * (d3 + 1) + 200 ≤ R.locals) ∧ kc + m3 ≤ R.cells ∧ ks + n3 ≤ R.slots) ∧ (∀ v h3, P3 v h3 → ∃ v5, v = some (.int v5) ∧ (∃ k6, (l4 + (1 : Int32)) = nI k6 ∧ k6 < L ∧ (∃ k7, (l4 + (2 : Int32)) = nI k7 ∧ k7 < L ∧ (∃ k8, (l4 + (3 : Int32)) = nI k8 ∧ k8 < L ∧ (∃ fs8, oF h3 l2 11 = some fs8 ∧ (∃ d8 P8 m8 n8, CT g d8 yX12_where (wsC yX12_where cX12_where 4 (some (.int))) [.ref l2, .int ((xs k6)), .int ((xs k7)), .int ((xs k8))] h3 m8 n8 P8 noT ∧ ((d8 + 1 ≤ R.frames ∧ 60 * (d8 + 1) + 200 ≤ R.locals) ∧ (kc + m3) + m8 ≤ R.cells ∧ (ks + n3) + n8 ≤ R.slots) ∧ (∀ v h8, P8 v h8 → ∃ v10, v = some (.int v10) ∧ (∃ fs10, oF h8 l2 11 = some fs10 ∧ (∃ d10 P10 m10 n10, CT g d10 yX12_thrown (wsC yX12_thrown cX12_thrown 1 (some (.int))) [.ref l2] h8 m10 n10 P10 noT ∧ ((d10 + 1 ≤ R.frames ∧ 60 * (d10 + 1) + 200 ≤ R.locals) ∧ ((kc + m3) + m8) + m10 ≤ R.cells ∧ ((ks + n3) + n8) + n10 ≤ R.slots) ∧ (∀ v h10, P10 v h10 → ∃ v12, v = some (.int v12) ∧ ((v12 = v5 → ((¬ v5 = 0 → VV g p e R s m args below meth c 7 Q ((((kc + m3) + m8) + m10)) ((((ks + n3) + n8) + n10)) 1222 [some (.retAddr 100), some (.ref l1), some (.ref l2), some (.ref l3), some (.int l4), none, none] [] h10) ∧ (v5 = 0 → (∃ v13, aJ h10 l3 ((0 : Int32)) = some v13 ∧ (((lg_cmp v13 ((Int32.toInt64 v10))) = 0 → VV g p e R s m args below meth c 7 Q ((((kc + m3) + m8) + m10)) ((((ks + n3) + n8) + n10)) 1222 [some (.retAddr 100), some (.ref l1), some (.ref l2), some (.ref l3), some (.int l4), none, none] [] h10) ∧ (¬ (lg_cmp v13 ((Int32.toInt64 v10))) = 0 → VV g p e R s m args below meth c 7 Q ((((kc + m3) + m8) + m10)) ((((ks + n3) + n8) + n10)) 1221 [none, none, none, none, none, none, none] [.int ((0 : Int32))] h10)))))) ∧ (¬ v12 = v5 → VV g p e R s m args below meth c 7 Q ((((kc + m3) + m8) + m10)) ((((ks + n3) + n8) + n10)) 1204 [none, none, none, none, none, none, none] [.int ((0 : Int32))] h10))))))))))))))))) : VV g p e R s m args below meth c 7 Q kc ks 1145 [some (.retAddr 100), some (.ref l1), some (.ref l2), some (.ref l3), some (.int l4), none, none] [] h := by
  refine r_aload_n X dL_law_1145 rfl ?_
  refine r_aload_nR X dL_law_1146 rfl ?_
  refine r_iload X dL_law_1147 rfl ?_
  refine r_iconst X dL_law_1149 (v := 1) (by decide) ?_
  refine r_iadd X dL_law_1150 ?_
  obtain ⟨k1, ek1, ik1, w⟩ := w
  refine r_sld X dL_law_1151 hX ek1 ik1 ?_
  refine r_aload_nR X dL_law_1152 rfl ?_
  refine r_iload X dL_law_1153 rfl ?_
  refine r_iconst X dL_law_1155 (v := 2) (by decide) ?_
  refine r_iadd X dL_law_1156 ?_
  obtain ⟨k2, ek2, ik2, w⟩ := w
  refine r_sld X dL_law_1157 hX ek2 ik2 ?_
  refine r_aload_nR X dL_law_1158 rfl ?_
  refine r_iload X dL_law_1159 rfl ?_
  refine r_iconst X dL_law_1161 (v := 3) (by decide) ?_
  refine r_iadd X dL_law_1162 ?_
  obtain ⟨k3, ek3, ik3, w⟩ := w
  refine r_sld X dL_law_1163 hX ek3 ik3 ?_
  refine r_aload_n X dL_law_1164 rfl ?_
  obtain ⟨d3, P3, m3, n3, ct3, w⟩ := w
  obtain ⟨⟨x1, x2⟩, w⟩ := w
  refine r_callSH X (As := [.ref l1, .int ((xs k1)), .int ((xs k2)), .int ((xs k3)), .ref l3]) dL_law_1165 mh_L_where ⟨ml_L_182, sm_L_where⟩ rfl rfl (by simp [Value.category]) x1 x2 ct3 (fun v h3 w1 => ?_)
  have w := w v h3 w1
  obtain ⟨v5, rfl, w⟩ := w
  refine r_istore X dL_law_1168 (by decide) rfl ?_
  refine r_aload_n X dL_law_1170 rfl ?_
  refine r_aload_nR X dL_law_1171 rfl ?_
  refine r_iload X dL_law_1172 rfl ?_
  refine r_iconst X dL_law_1174 (v := 1) (by decide) ?_
  refine r_iadd X dL_law_1175 ?_
  obtain ⟨k6, ek6, ik6, w⟩ := w
  refine r_sld X dL_law_1176 hX ek6 ik6 ?_
  refine r_aload_nR X dL_law_1177 rfl ?_
  refine r_iload X dL_law_1178 rfl ?_
  refine r_iconst X dL_law_1180 (v := 2) (by decide) ?_
  refine r_iadd X dL_law_1181 ?_
  obtain ⟨k7, ek7, ik7, w⟩ := w
  refine r_sld X dL_law_1182 hX ek7 ik7 ?_
  refine r_aload_nR X dL_law_1183 rfl ?_
  refine r_iload X dL_law_1184 rfl ?_
  refine r_iconst X dL_law_1186 (v := 3) (by decide) ?_
  refine r_iadd X dL_law_1187 ?_
  obtain ⟨k8, ek8, ik8, w⟩ := w
  refine r_sld X dL_law_1188 hX ek8 ik8 ?_
  obtain ⟨fs8, es8, w⟩ := w
  obtain ⟨d8, P8, m8, n8, ct8, w⟩ := w
  obtain ⟨⟨x1, x2⟩, w⟩ := w
  refine r_callVC X (As := [.int ((xs k6)), .int ((xs k7)), .int ((xs k8))]) dL_law_1189 mk_X12_where ⟨ml_L_184, im_X12_where, se_X12_where⟩ (oF_s es8) (ci_X12).1 rfl rfl rfl (by simp [Value.category]) x1 x2 ct8 (fun _ _ z => z.elim) (fun v h8 w1 => ?_)
  have w := w v h8 w1
  obtain ⟨v10, rfl, w⟩ := w
  refine r_istore X dL_law_1192 (by decide) rfl ?_
  refine r_aload_n X dL_law_1194 rfl ?_
  obtain ⟨fs10, es10, w⟩ := w
  obtain ⟨d10, P10, m10, n10, ct10, w⟩ := w
  obtain ⟨⟨x1, x2⟩, w⟩ := w
  refine r_callVC X (As := []) dL_law_1195 mk_X12_thrown ⟨ml_L_127, im_X12_thrown, se_X12_thrown⟩ (oF_s es10) (ci_X12).1 rfl rfl rfl (by simp [Value.category]) x1 x2 ct10 (fun _ _ z => z.elim) (fun v h10 w1 => ?_)
  have w := w v h10 w1
  obtain ⟨v12, rfl, w⟩ := w
  refine r_iload X dL_law_1198 rfl ?_
  refine r_icmp_eq X dL_law_1200 (tgt := 1205) (by decide) (fun q => ?_) (fun q => ?_)
  · have w := w.1 q
    refine r_iload X dL_law_1205 rfl ?_
    refine r_if_ne X dL_law_1207 (tgt := 1222) (by decide) (fun q => ?_) (fun q => ?_)
    · have w := w.1 q
      refine VV_wk (ls' := [some (.retAddr 100), some (.ref l1), some (.ref l2), some (.ref l3), some (.int l4), none, none]) ?_ w
      exact (And.intro rfl (And.intro rfl (And.intro rfl (And.intro rfl (And.intro rfl trivial)))))
    · have w := w.2 q
      refine r_aload_n X dL_law_1210 rfl ?_
      refine r_iconst X dL_law_1211 (v := 0) (by decide) ?_
      obtain ⟨v13, ev13, w⟩ := w
      obtain ⟨nv13, fv13, cv13, iv13, qv13⟩ := aJ_s ev13
      refine r_lald X dL_law_1212 cv13 iv13 ?_
      rw [qv13]
      refine r_iload X dL_law_1213 rfl ?_
      refine r_i2l X dL_law_1215 ?_
      refine r_lcmp X dL_law_1216 ?_
      refine r_if_eq X dL_law_1217 (tgt := 1222) (by decide) (fun q => ?_) (fun q => ?_)
      · have w := w.1 q
        refine VV_wk (ls' := [some (.retAddr 100), some (.ref l1), some (.ref l2), some (.ref l3), some (.int l4), none, none]) ?_ w
        exact (And.intro rfl (And.intro rfl (And.intro rfl (And.intro rfl (And.intro rfl trivial)))))
      · have w := w.2 q
        refine r_iconst X dL_law_1220 (v := 0) (by decide) ?_
        exact VV_wk (ls' := [none, none, none, none, none, none, none]) trivial w
  · have w := w.2 q
    refine r_iconst X dL_law_1203 (v := 0) (by decide) ?_
    exact VV_wk (ls' := [none, none, none, none, none, none, none]) trivial w

set_option maxRecDepth 10000 in
theorem b_L_law_1222 {g : GG} {p : Program} {e : Env} {R : Room} {s : State} {m : MethodId} {args : Array Value} {below : List Frame} {meth : Method} {c : Code} {Q : State → Prop} {xt : List ExceptionTableEntry} {nm : String} {L : Nat} {xs : Nat → Int32} {kc ks : Nat} (hX : SX g L xs) (X : CX g p s m args meth c cL_law 7 ⟨RL, nm, "([I)Z"⟩ (some .boolean) xt) (l1 : Nat) (l2 : Nat) (l3 : Nat) (l4 : Int32) (h : Hp)
    (w : VV g p e R s m args below meth c 7 Q kc ks 2555 [some (.retAddr 100), some (.ref l1), some (.ref l2), some (.ref l3), some (.int l4), none, none] [] h) : VV g p e R s m args below meth c 7 Q kc ks 1222 [some (.retAddr 100), some (.ref l1), some (.ref l2), some (.ref l3), some (.int l4), none, none] [] h := by
  refine r_goto X dL_law_1222 (tgt := 2555) (by decide) ?_
  refine VV_wk (ls' := [some (.retAddr 100), some (.ref l1), some (.ref l2), some (.ref l3), some (.int l4), none, none]) ?_ w
  exact (And.intro rfl (And.intro rfl (And.intro rfl (And.intro rfl (And.intro rfl trivial)))))

set_option maxRecDepth 10000 in
theorem b_L_law_1225 {g : GG} {p : Program} {e : Env} {R : Room} {s : State} {m : MethodId} {args : Array Value} {below : List Frame} {meth : Method} {c : Code} {Q : State → Prop} {xt : List ExceptionTableEntry} {nm : String} {L : Nat} {xs : Nat → Int32} {kc ks : Nat} (hX : SX g L xs) (X : CX g p s m args meth c cL_law 7 ⟨RL, nm, "([I)Z"⟩ (some .boolean) xt) (l1 : Nat) (l2 : Nat) (l3 : Nat) (l4 : Int32) (h : Hp)
    (w : (∃ fs0, oF h l1 10 = some fs0 ∧ (∃ d0 P0 m0 n0, CT g d0 yX11_spent (wsC yX11_spent cX11_spent 2 (some (.int))) [.ref l1] h m0 n0 P0 noT ∧ ((d0 + 1 ≤ R.frames ∧ 60 * (d0 + 1) + 200 ≤ R.locals) ∧ kc + m0 ≤ R.cells ∧ ks + n0 ≤ R.slots) ∧ (∀ v h0, P0 v h0 → ∃ v2, v = some (.int v2) ∧ (∃ fs2, oF h0 l2 11 = some fs2 ∧ (∃ d2 P2 m2 n2, CT g d2 yX12_spent (wsC yX12_spent cX12_spent 2 (some (.int))) [.ref l2] h0 m2 n2 P2 noT ∧ ((d2 + 1 ≤ R.frames ∧ 60 * (d2 + 1) + 200 ≤ R.locals) ∧ (kc + m0) + m2 ≤ R.cells ∧ (ks + n0) + n2 ≤ R.slots) ∧ (∀ v h2, P2 v h2 → ∃ v4, v = some (.int v4) ∧ ((v2 = v4 → VV g p e R s m args below meth c 7 Q (((kc + m0) + m2)) (((ks + n0) + n2)) 2555 [some (.retAddr 100), some (.ref l1), some (.ref l2), some (.ref l3), some (.int l4), none, none] [] h2) ∧ (¬ v2 = v4 → VV g p e R s m args below meth c 7 Q (((kc + m0) + m2)) (((ks + n0) + n2)) 1237 [none, none, none, none, none, none, none] [.int ((0 : Int32))] h2))))))))) : VV g p e R s m args below meth c 7 Q kc ks 1225 [some (.retAddr 100), some (.ref l1), some (.ref l2), some (.ref l3), some (.int l4), none, none] [] h := by
  refine r_aload_n X dL_law_1225 rfl ?_
  obtain ⟨fs0, es0, w⟩ := w
  obtain ⟨d0, P0, m0, n0, ct0, w⟩ := w
  obtain ⟨⟨x1, x2⟩, w⟩ := w
  refine r_callVC X (As := []) dL_law_1226 mk_X11_spent ⟨ml_L_185, im_X11_spent, se_X11_spent⟩ (oF_s es0) (ci_X11).1 rfl rfl rfl (by simp [Value.category]) x1 x2 ct0 (fun _ _ z => z.elim) (fun v h0 w1 => ?_)
  have w := w v h0 w1
  obtain ⟨v2, rfl, w⟩ := w
  refine r_aload_n X dL_law_1229 rfl ?_
  obtain ⟨fs2, es2, w⟩ := w
  obtain ⟨d2, P2, m2, n2, ct2, w⟩ := w
  obtain ⟨⟨x1, x2⟩, w⟩ := w
  refine r_callVC X (As := []) dL_law_1230 mk_X12_spent ⟨ml_L_188, im_X12_spent, se_X12_spent⟩ (oF_s es2) (ci_X12).1 rfl rfl rfl (by simp [Value.category]) x1 x2 ct2 (fun _ _ z => z.elim) (fun v h2 w1 => ?_)
  have w := w v h2 w1
  obtain ⟨v4, rfl, w⟩ := w
  refine r_icmp_eq X dL_law_1233 (tgt := 2555) (by decide) (fun q => ?_) (fun q => ?_)
  · have w := w.1 q
    refine VV_wk (ls' := [some (.retAddr 100), some (.ref l1), some (.ref l2), some (.ref l3), some (.int l4), none, none]) ?_ w
    exact (And.intro rfl (And.intro rfl (And.intro rfl (And.intro rfl (And.intro rfl trivial)))))
  · have w := w.2 q
    refine r_iconst X dL_law_1236 (v := 0) (by decide) ?_
    exact VV_wk (ls' := [none, none, none, none, none, none, none]) trivial w

set_option maxRecDepth 10000 in
theorem b_L_law_1238 {g : GG} {p : Program} {e : Env} {R : Room} {s : State} {m : MethodId} {args : Array Value} {below : List Frame} {meth : Method} {c : Code} {Q : State → Prop} {xt : List ExceptionTableEntry} {nm : String} {L : Nat} {xs : Nat → Int32} {kc ks : Nat} (hX : SX g L xs) (X : CX g p s m args meth c cL_law 7 ⟨RL, nm, "([I)Z"⟩ (some .boolean) xt) (l1 : Nat) (l2 : Nat) (l3 : Nat) (l4 : Int32) (h : Hp)
    (w : (∃ k1, (l4 + (1 : Int32)) = nI k1 ∧ k1 < L ∧ (∃ k2, (l4 + (2 : Int32)) = nI k2 ∧ k2 < L ∧ (∃ d2 P2 m2 n2, CT g d2 yL_toHold (wsH yL_toHold cL_toHold 5 (some .int) [(0, 10, 13, 18), (0, 10, 17, 13)]) [.ref l1, .int ((xs k1)), .int ((xs k2)), .ref l3] h m2 n2 P2 noT ∧ ((d2 + 1 ≤ R.frames ∧ 60 * (d2 + 1) + 200 ≤ R.locals) ∧ kc + m2 ≤ R.cells ∧ ks + n2 ≤ R.slots) ∧ (∀ v h2, P2 v h2 → ∃ v4, v = some (.int v4) ∧ (∃ k5, (l4 + (1 : Int32)) = nI k5 ∧ k5 < L ∧ (∃ k6, (l4 + (2 : Int32)) = nI k6 ∧ k6 < L ∧ (∃ fs6, oF h2 l2 11 = some fs6 ∧ (∃ d6 P6 m6 n6, CT g d6 yX12_toHold (wsC yX12_toHold cX12_toHold 6 (some (.int))) [.ref l2, .int ((xs k5)), .int ((xs k6))] h2 m6 n6 P6 noT ∧ ((d6 + 1 ≤ R.frames ∧ 60 * (d6 + 1) + 200 ≤ R.locals) ∧ (kc + m2) + m6 ≤ R.cells ∧ (ks + n2) + n6 ≤ R.slots) ∧ (∀ v h6, P6 v h6 → ∃ v8, v = some (.int v8) ∧ (∃ fs8, oF h6 l2 11 = some fs8 ∧ (∃ d8 P8 m8 n8, CT g d8 yX12_thrown (wsC yX12_thrown cX12_thrown 1 (some (.int))) [.ref l2] h6 m8 n8 P8 noT ∧ ((d8 + 1 ≤ R.frames ∧ 60 * (d8 + 1) + 200 ≤ R.locals) ∧ ((kc + m2) + m6) + m8 ≤ R.cells ∧ ((ks + n2) + n6) + n8 ≤ R.slots) ∧ (∀ v h8, P8 v h8 → ∃ v10, v = some (.int v10) ∧ ((v10 = v4 → ((¬ v4 = 0 → VV g p e R s m args below meth c 7 Q ((((kc + m2) + m6) + m8)) ((((ks + n2) + n6) + n8)) 1303 [some (.retAddr 100), some (.ref l1), some (.ref l2), some (.ref l3), some (.int l4), none, none] [] h8) ∧ (v4 = 0 → (∃ v11, aJ h8 l3 ((0 : Int32)) = some v11 ∧ (((lg_cmp v11 ((Int32.toInt64 v8))) = 0 → VV g p e R s m args below meth c 7 Q ((((kc + m2) + m6) + m8)) ((((ks + n2) + n6) + n8)) 1303 [some (.retAddr 100), some (.ref l1), some (.ref l2), some (.ref l3), some (.int l4), none, none] [] h8) ∧ (¬ (lg_cmp v11 ((Int32.toInt64 v8))) = 0 → VV g p e R s m args below meth c 7 Q ((((kc + m2) + m6) + m8)) ((((ks + n2) + n6) + n8)) 1302 [none, none, none, none, none, none, none] [.int ((0 : Int32))] h8)))))) ∧ (¬ v10 = v4 → VV g p e R s m args below meth c 7 Q ((((kc + m2) + m6) + m8)) ((((ks + n2) + n6) + n8)) 1285 [none, none, none, none, none, none, none] [.int ((0 : Int32))] h8))))))))))))))) : VV g p e R s m args below meth c 7 Q kc ks 1238 [some (.retAddr 100), some (.ref l1), some (.ref l2), some (.ref l3), some (.int l4), none, none] [] h := by
  refine r_aload_n X dL_law_1238 rfl ?_
  refine r_aload_nR X dL_law_1239 rfl ?_
  refine r_iload X dL_law_1240 rfl ?_
  refine r_iconst X dL_law_1242 (v := 1) (by decide) ?_
  refine r_iadd X dL_law_1243 ?_
  obtain ⟨k1, ek1, ik1, w⟩ := w
  refine r_sld X dL_law_1244 hX ek1 ik1 ?_
  refine r_aload_nR X dL_law_1245 rfl ?_
  refine r_iload X dL_law_1246 rfl ?_
  refine r_iconst X dL_law_1248 (v := 2) (by decide) ?_
  refine r_iadd X dL_law_1249 ?_
  obtain ⟨k2, ek2, ik2, w⟩ := w
  refine r_sld X dL_law_1250 hX ek2 ik2 ?_
  refine r_aload_n X dL_law_1251 rfl ?_
  obtain ⟨d2, P2, m2, n2, ct2, w⟩ := w
  obtain ⟨⟨x1, x2⟩, w⟩ := w
  refine r_callSH X (As := [.ref l1, .int ((xs k1)), .int ((xs k2)), .ref l3]) dL_law_1252 mh_L_toHold ⟨ml_L_189, sm_L_toHold⟩ rfl rfl (by simp [Value.category]) x1 x2 ct2 (fun v h2 w1 => ?_)
  have w := w v h2 w1
  obtain ⟨v4, rfl, w⟩ := w
  refine r_istore X dL_law_1255 (by decide) rfl ?_
  refine r_aload_n X dL_law_1257 rfl ?_
  refine r_aload_nR X dL_law_1258 rfl ?_
  refine r_iload X dL_law_1259 rfl ?_
  refine r_iconst X dL_law_1261 (v := 1) (by decide) ?_
  refine r_iadd X dL_law_1262 ?_
  obtain ⟨k5, ek5, ik5, w⟩ := w
  refine r_sld X dL_law_1263 hX ek5 ik5 ?_
  refine r_aload_nR X dL_law_1264 rfl ?_
  refine r_iload X dL_law_1265 rfl ?_
  refine r_iconst X dL_law_1267 (v := 2) (by decide) ?_
  refine r_iadd X dL_law_1268 ?_
  obtain ⟨k6, ek6, ik6, w⟩ := w
  refine r_sld X dL_law_1269 hX ek6 ik6 ?_
  obtain ⟨fs6, es6, w⟩ := w
  obtain ⟨d6, P6, m6, n6, ct6, w⟩ := w
  obtain ⟨⟨x1, x2⟩, w⟩ := w
  refine r_callVC X (As := [.int ((xs k5)), .int ((xs k6))]) dL_law_1270 mk_X12_toHold ⟨ml_L_191, im_X12_toHold, se_X12_toHold⟩ (oF_s es6) (ci_X12).1 rfl rfl rfl (by simp [Value.category]) x1 x2 ct6 (fun _ _ z => z.elim) (fun v h6 w1 => ?_)
  have w := w v h6 w1
  obtain ⟨v8, rfl, w⟩ := w
  refine r_istore X dL_law_1273 (by decide) rfl ?_
  refine r_aload_n X dL_law_1275 rfl ?_
  obtain ⟨fs8, es8, w⟩ := w
  obtain ⟨d8, P8, m8, n8, ct8, w⟩ := w
  obtain ⟨⟨x1, x2⟩, w⟩ := w
  refine r_callVC X (As := []) dL_law_1276 mk_X12_thrown ⟨ml_L_127, im_X12_thrown, se_X12_thrown⟩ (oF_s es8) (ci_X12).1 rfl rfl rfl (by simp [Value.category]) x1 x2 ct8 (fun _ _ z => z.elim) (fun v h8 w1 => ?_)
  have w := w v h8 w1
  obtain ⟨v10, rfl, w⟩ := w
  refine r_iload X dL_law_1279 rfl ?_
  refine r_icmp_eq X dL_law_1281 (tgt := 1286) (by decide) (fun q => ?_) (fun q => ?_)
  · have w := w.1 q
    refine r_iload X dL_law_1286 rfl ?_
    refine r_if_ne X dL_law_1288 (tgt := 1303) (by decide) (fun q => ?_) (fun q => ?_)
    · have w := w.1 q
      refine VV_wk (ls' := [some (.retAddr 100), some (.ref l1), some (.ref l2), some (.ref l3), some (.int l4), none, none]) ?_ w
      exact (And.intro rfl (And.intro rfl (And.intro rfl (And.intro rfl (And.intro rfl trivial)))))
    · have w := w.2 q
      refine r_aload_n X dL_law_1291 rfl ?_
      refine r_iconst X dL_law_1292 (v := 0) (by decide) ?_
      obtain ⟨v11, ev11, w⟩ := w
      obtain ⟨nv11, fv11, cv11, iv11, qv11⟩ := aJ_s ev11
      refine r_lald X dL_law_1293 cv11 iv11 ?_
      rw [qv11]
      refine r_iload X dL_law_1294 rfl ?_
      refine r_i2l X dL_law_1296 ?_
      refine r_lcmp X dL_law_1297 ?_
      refine r_if_eq X dL_law_1298 (tgt := 1303) (by decide) (fun q => ?_) (fun q => ?_)
      · have w := w.1 q
        refine VV_wk (ls' := [some (.retAddr 100), some (.ref l1), some (.ref l2), some (.ref l3), some (.int l4), none, none]) ?_ w
        exact (And.intro rfl (And.intro rfl (And.intro rfl (And.intro rfl (And.intro rfl trivial)))))
      · have w := w.2 q
        refine r_iconst X dL_law_1301 (v := 0) (by decide) ?_
        exact VV_wk (ls' := [none, none, none, none, none, none, none]) trivial w
  · have w := w.2 q
    refine r_iconst X dL_law_1284 (v := 0) (by decide) ?_
    exact VV_wk (ls' := [none, none, none, none, none, none, none]) trivial w

set_option maxRecDepth 10000 in
theorem b_L_law_1303 {g : GG} {p : Program} {e : Env} {R : Room} {s : State} {m : MethodId} {args : Array Value} {below : List Frame} {meth : Method} {c : Code} {Q : State → Prop} {xt : List ExceptionTableEntry} {nm : String} {L : Nat} {xs : Nat → Int32} {kc ks : Nat} (hX : SX g L xs) (X : CX g p s m args meth c cL_law 7 ⟨RL, nm, "([I)Z"⟩ (some .boolean) xt) (l1 : Nat) (l2 : Nat) (l3 : Nat) (l4 : Int32) (h : Hp)
    (w : VV g p e R s m args below meth c 7 Q kc ks 2555 [some (.retAddr 100), some (.ref l1), some (.ref l2), some (.ref l3), some (.int l4), none, none] [] h) : VV g p e R s m args below meth c 7 Q kc ks 1303 [some (.retAddr 100), some (.ref l1), some (.ref l2), some (.ref l3), some (.int l4), none, none] [] h := by
  refine r_goto X dL_law_1303 (tgt := 2555) (by decide) ?_
  refine VV_wk (ls' := [some (.retAddr 100), some (.ref l1), some (.ref l2), some (.ref l3), some (.int l4), none, none]) ?_ w
  exact (And.intro rfl (And.intro rfl (And.intro rfl (And.intro rfl (And.intro rfl trivial)))))

set_option maxRecDepth 10000 in
theorem b_L_law_1306 {g : GG} {p : Program} {e : Env} {R : Room} {s : State} {m : MethodId} {args : Array Value} {below : List Frame} {meth : Method} {c : Code} {Q : State → Prop} {xt : List ExceptionTableEntry} {nm : String} {L : Nat} {xs : Nat → Int32} {kc ks : Nat} (hX : SX g L xs) (X : CX g p s m args meth c cL_law 7 ⟨RL, nm, "([I)Z"⟩ (some .boolean) xt) (l1 : Nat) (l2 : Nat) (l3 : Nat) (l4 : Int32) (h : Hp)
    (w : (∃ k1, (l4 + (1 : Int32)) = nI k1 ∧ k1 < L ∧ (∃ k2, (l4 + (2 : Int32)) = nI k2 ∧ k2 < L ∧ (∃ k3, (l4 + (3 : Int32)) = nI k3 ∧ k3 < L ∧ (∃ d3 P3 m3 n3, CT g d3 yL_toSend (wsH yL_toSend cL_toSend 6 (some .int) [(0, 12, 15, 18), (0, 12, 19, 13)]) [.ref l1, .int ((xs k1)), .int ((xs k2)), .int ((xs k3)), .ref l3] h m3 n3 P3 noT ∧ ((d3 + 1 ≤ R.frames ∧ 60 * (d3 + 1) + 200 ≤ R.locals) ∧ kc + m3 ≤ R.cells ∧ ks + n3 ≤ R.slots) ∧ (∀ v h3, P3 v h3 → ∃ v5, v = some (.int v5) ∧ (∃ k6, (l4 + (1 : Int32)) = nI k6 ∧ k6 < L ∧ (∃ k7, (l4 + (2 : Int32)) = nI k7 ∧ k7 < L ∧ (∃ k8, (l4 + (3 : Int32)) = nI k8 ∧ k8 < L ∧ (∃ fs8, oF h3 l2 11 = some fs8 ∧ (∃ d8 P8 m8 n8, CT g d8 yX12_toSend (wsC yX12_toSend cX12_toSend 8 (some (.int))) [.ref l2, .int ((xs k6)), .int ((xs k7)), .int ((xs k8))] h3 m8 n8 P8 noT ∧ ((d8 + 1 ≤ R.frames ∧ 60 * (d8 + 1) + 200 ≤ R.locals) ∧ (kc + m3) + m8 ≤ R.cells ∧ (ks + n3) + n8 ≤ R.slots) ∧ (∀ v h8, P8 v h8 → ∃ v10, v = some (.int v10) ∧ (∃ fs10, oF h8 l2 11 = some fs10 ∧ (∃ d10 P10 m10 n10, CT g d10 yX12_thrown (wsC yX12_thrown cX12_thrown 1 (some (.int))) [.ref l2] h8 m10 n10 P10 noT ∧ ((d10 + 1 ≤ R.frames ∧ 60 * (d10 + 1) + 200 ≤ R.locals) ∧ ((kc + m3) + m8) + m10 ≤ R.cells ∧ ((ks + n3) + n8) + n10 ≤ R.slots) ∧ (∀ v h10, P10 v h10 → ∃ v12, v = some (.int v12) ∧ ((v12 = v5 → ((¬ v5 = 0 → VV g p e R s m args below meth c 7 Q ((((kc + m3) + m8) + m10)) ((((ks + n3) + n8) + n10)) 1383 [some (.retAddr 100), some (.ref l1), some (.ref l2), some (.ref l3), some (.int l4), none, none] [] h10) ∧ (v5 = 0 → (∃ v13, aJ h10 l3 ((0 : Int32)) = some v13 ∧ (((lg_cmp v13 ((Int32.toInt64 v10))) = 0 → VV g p e R s m args below meth c 7 Q ((((kc + m3) + m8) + m10)) ((((ks + n3) + n8) + n10)) 1383 [some (.retAddr 100), some (.ref l1), some (.ref l2), some (.ref l3), some (.int l4), none, none] [] h10) ∧ (¬ (lg_cmp v13 ((Int32.toInt64 v10))) = 0 → VV g p e R s m args below meth c 7 Q ((((kc + m3) + m8) + m10)) ((((ks + n3) + n8) + n10)) 1382 [none, none, none, none, none, none, none] [.int ((0 : Int32))] h10)))))) ∧ (¬ v12 = v5 → VV g p e R s m args below meth c 7 Q ((((kc + m3) + m8) + m10)) ((((ks + n3) + n8) + n10)) 1365 [none, none, none, none, none, none, none] [.int ((0 : Int32))] h10))))))))))))))))) : VV g p e R s m args below meth c 7 Q kc ks 1306 [some (.retAddr 100), some (.ref l1), some (.ref l2), some (.ref l3), some (.int l4), none, none] [] h := by
  refine r_aload_n X dL_law_1306 rfl ?_
  refine r_aload_nR X dL_law_1307 rfl ?_
  refine r_iload X dL_law_1308 rfl ?_
  refine r_iconst X dL_law_1310 (v := 1) (by decide) ?_
  refine r_iadd X dL_law_1311 ?_
  obtain ⟨k1, ek1, ik1, w⟩ := w
  refine r_sld X dL_law_1312 hX ek1 ik1 ?_
  refine r_aload_nR X dL_law_1313 rfl ?_
  refine r_iload X dL_law_1314 rfl ?_
  refine r_iconst X dL_law_1316 (v := 2) (by decide) ?_
  refine r_iadd X dL_law_1317 ?_
  obtain ⟨k2, ek2, ik2, w⟩ := w
  refine r_sld X dL_law_1318 hX ek2 ik2 ?_
  refine r_aload_nR X dL_law_1319 rfl ?_
  refine r_iload X dL_law_1320 rfl ?_
  refine r_iconst X dL_law_1322 (v := 3) (by decide) ?_
  refine r_iadd X dL_law_1323 ?_
  obtain ⟨k3, ek3, ik3, w⟩ := w
  refine r_sld X dL_law_1324 hX ek3 ik3 ?_
  refine r_aload_n X dL_law_1325 rfl ?_
  obtain ⟨d3, P3, m3, n3, ct3, w⟩ := w
  obtain ⟨⟨x1, x2⟩, w⟩ := w
  refine r_callSH X (As := [.ref l1, .int ((xs k1)), .int ((xs k2)), .int ((xs k3)), .ref l3]) dL_law_1326 mh_L_toSend ⟨ml_L_192, sm_L_toSend⟩ rfl rfl (by simp [Value.category]) x1 x2 ct3 (fun v h3 w1 => ?_)
  have w := w v h3 w1
  obtain ⟨v5, rfl, w⟩ := w
  refine r_istore X dL_law_1329 (by decide) rfl ?_
  refine r_aload_n X dL_law_1331 rfl ?_
  refine r_aload_nR X dL_law_1332 rfl ?_
  refine r_iload X dL_law_1333 rfl ?_
  refine r_iconst X dL_law_1335 (v := 1) (by decide) ?_
  refine r_iadd X dL_law_1336 ?_
  obtain ⟨k6, ek6, ik6, w⟩ := w
  refine r_sld X dL_law_1337 hX ek6 ik6 ?_
  refine r_aload_nR X dL_law_1338 rfl ?_
  refine r_iload X dL_law_1339 rfl ?_
  refine r_iconst X dL_law_1341 (v := 2) (by decide) ?_
  refine r_iadd X dL_law_1342 ?_
  obtain ⟨k7, ek7, ik7, w⟩ := w
  refine r_sld X dL_law_1343 hX ek7 ik7 ?_
  refine r_aload_nR X dL_law_1344 rfl ?_
  refine r_iload X dL_law_1345 rfl ?_
  refine r_iconst X dL_law_1347 (v := 3) (by decide) ?_
  refine r_iadd X dL_law_1348 ?_
  obtain ⟨k8, ek8, ik8, w⟩ := w
  refine r_sld X dL_law_1349 hX ek8 ik8 ?_
  obtain ⟨fs8, es8, w⟩ := w
  obtain ⟨d8, P8, m8, n8, ct8, w⟩ := w
  obtain ⟨⟨x1, x2⟩, w⟩ := w
  refine r_callVC X (As := [.int ((xs k6)), .int ((xs k7)), .int ((xs k8))]) dL_law_1350 mk_X12_toSend ⟨ml_L_194, im_X12_toSend, se_X12_toSend⟩ (oF_s es8) (ci_X12).1 rfl rfl rfl (by simp [Value.category]) x1 x2 ct8 (fun _ _ z => z.elim) (fun v h8 w1 => ?_)
  have w := w v h8 w1
  obtain ⟨v10, rfl, w⟩ := w
  refine r_istore X dL_law_1353 (by decide) rfl ?_
  refine r_aload_n X dL_law_1355 rfl ?_
  obtain ⟨fs10, es10, w⟩ := w
  obtain ⟨d10, P10, m10, n10, ct10, w⟩ := w
  obtain ⟨⟨x1, x2⟩, w⟩ := w
  refine r_callVC X (As := []) dL_law_1356 mk_X12_thrown ⟨ml_L_127, im_X12_thrown, se_X12_thrown⟩ (oF_s es10) (ci_X12).1 rfl rfl rfl (by simp [Value.category]) x1 x2 ct10 (fun _ _ z => z.elim) (fun v h10 w1 => ?_)
  have w := w v h10 w1
  obtain ⟨v12, rfl, w⟩ := w
  refine r_iload X dL_law_1359 rfl ?_
  refine r_icmp_eq X dL_law_1361 (tgt := 1366) (by decide) (fun q => ?_) (fun q => ?_)
  · have w := w.1 q
    refine r_iload X dL_law_1366 rfl ?_
    refine r_if_ne X dL_law_1368 (tgt := 1383) (by decide) (fun q => ?_) (fun q => ?_)
    · have w := w.1 q
      refine VV_wk (ls' := [some (.retAddr 100), some (.ref l1), some (.ref l2), some (.ref l3), some (.int l4), none, none]) ?_ w
      exact (And.intro rfl (And.intro rfl (And.intro rfl (And.intro rfl (And.intro rfl trivial)))))
    · have w := w.2 q
      refine r_aload_n X dL_law_1371 rfl ?_
      refine r_iconst X dL_law_1372 (v := 0) (by decide) ?_
      obtain ⟨v13, ev13, w⟩ := w
      obtain ⟨nv13, fv13, cv13, iv13, qv13⟩ := aJ_s ev13
      refine r_lald X dL_law_1373 cv13 iv13 ?_
      rw [qv13]
      refine r_iload X dL_law_1374 rfl ?_
      refine r_i2l X dL_law_1376 ?_
      refine r_lcmp X dL_law_1377 ?_
      refine r_if_eq X dL_law_1378 (tgt := 1383) (by decide) (fun q => ?_) (fun q => ?_)
      · have w := w.1 q
        refine VV_wk (ls' := [some (.retAddr 100), some (.ref l1), some (.ref l2), some (.ref l3), some (.int l4), none, none]) ?_ w
        exact (And.intro rfl (And.intro rfl (And.intro rfl (And.intro rfl (And.intro rfl trivial)))))
      · have w := w.2 q
        refine r_iconst X dL_law_1381 (v := 0) (by decide) ?_
        exact VV_wk (ls' := [none, none, none, none, none, none, none]) trivial w
  · have w := w.2 q
    refine r_iconst X dL_law_1364 (v := 0) (by decide) ?_
    exact VV_wk (ls' := [none, none, none, none, none, none, none]) trivial w

set_option maxRecDepth 10000 in
theorem b_L_law_1383 {g : GG} {p : Program} {e : Env} {R : Room} {s : State} {m : MethodId} {args : Array Value} {below : List Frame} {meth : Method} {c : Code} {Q : State → Prop} {xt : List ExceptionTableEntry} {nm : String} {L : Nat} {xs : Nat → Int32} {kc ks : Nat} (hX : SX g L xs) (X : CX g p s m args meth c cL_law 7 ⟨RL, nm, "([I)Z"⟩ (some .boolean) xt) (l1 : Nat) (l2 : Nat) (l3 : Nat) (l4 : Int32) (h : Hp)
    (w : VV g p e R s m args below meth c 7 Q kc ks 2555 [some (.retAddr 100), some (.ref l1), some (.ref l2), some (.ref l3), some (.int l4), none, none] [] h) : VV g p e R s m args below meth c 7 Q kc ks 1383 [some (.retAddr 100), some (.ref l1), some (.ref l2), some (.ref l3), some (.int l4), none, none] [] h := by
  refine r_goto X dL_law_1383 (tgt := 2555) (by decide) ?_
  refine VV_wk (ls' := [some (.retAddr 100), some (.ref l1), some (.ref l2), some (.ref l3), some (.int l4), none, none]) ?_ w
  exact (And.intro rfl (And.intro rfl (And.intro rfl (And.intro rfl (And.intro rfl trivial)))))

set_option maxRecDepth 10000 in
theorem b_L_law_1386 {g : GG} {p : Program} {e : Env} {R : Room} {s : State} {m : MethodId} {args : Array Value} {below : List Frame} {meth : Method} {c : Code} {Q : State → Prop} {xt : List ExceptionTableEntry} {nm : String} {L : Nat} {xs : Nat → Int32} {kc ks : Nat} (hX : SX g L xs) (X : CX g p s m args meth c cL_law 7 ⟨RL, nm, "([I)Z"⟩ (some .boolean) xt) (l1 : Nat) (l2 : Nat) (l3 : Nat) (l4 : Int32) (h : Hp)
    (w : (∃ k1, (l4 + (1 : Int32)) = nI k1 ∧ k1 < L ∧ (∃ k2, (l4 + (2 : Int32)) = nI k2 ∧ k2 < L ∧ (∃ d2 P2 m2 n2, CT g d2 yL_bestStitch (wsH yL_bestStitch cL_bestStitch 5 (some .int) [(0, 10, 13, 18), (0, 10, 17, 13)]) [.ref l1, .int ((xs k1)), .int ((xs k2)), .ref l3] h m2 n2 P2 noT ∧ ((d2 + 1 ≤ R.frames ∧ 60 * (d2 + 1) + 200 ≤ R.locals) ∧ kc + m2 ≤ R.cells ∧ ks + n2 ≤ R.slots) ∧ (∀ v h2, P2 v h2 → ∃ v4, v = some (.int v4) ∧ (∃ k5, (l4 + (1 : Int32)) = nI k5 ∧ k5 < L ∧ (∃ k6, (l4 + (2 : Int32)) = nI k6 ∧ k6 < L ∧ (∃ fs6, oF h2 l2 11 = some fs6 ∧ (∃ d6 P6 m6 n6, CT g d6 yX12_bestStitch (wsC yX12_bestStitch cX12_bestStitch 6 (some (.int))) [.ref l2, .int ((xs k5)), .int ((xs k6))] h2 m6 n6 P6 noT ∧ ((d6 + 1 ≤ R.frames ∧ 60 * (d6 + 1) + 200 ≤ R.locals) ∧ (kc + m2) + m6 ≤ R.cells ∧ (ks + n2) + n6 ≤ R.slots) ∧ (∀ v h6, P6 v h6 → ∃ v8, v = some (.int v8) ∧ (∃ fs8, oF h6 l2 11 = some fs8 ∧ (∃ d8 P8 m8 n8, CT g d8 yX12_thrown (wsC yX12_thrown cX12_thrown 1 (some (.int))) [.ref l2] h6 m8 n8 P8 noT ∧ ((d8 + 1 ≤ R.frames ∧ 60 * (d8 + 1) + 200 ≤ R.locals) ∧ ((kc + m2) + m6) + m8 ≤ R.cells ∧ ((ks + n2) + n6) + n8 ≤ R.slots) ∧ (∀ v h8, P8 v h8 → ∃ v10, v = some (.int v10) ∧ ((v10 = v4 → ((¬ v4 = 0 → VV g p e R s m args below meth c 7 Q ((((kc + m2) + m6) + m8)) ((((ks + n2) + n6) + n8)) 1451 [some (.retAddr 100), some (.ref l1), some (.ref l2), some (.ref l3), some (.int l4), none, none] [] h8) ∧ (v4 = 0 → (∃ v11, aJ h8 l3 ((0 : Int32)) = some v11 ∧ (((lg_cmp v11 ((Int32.toInt64 v8))) = 0 → VV g p e R s m args below meth c 7 Q ((((kc + m2) + m6) + m8)) ((((ks + n2) + n6) + n8)) 1451 [some (.retAddr 100), some (.ref l1), some (.ref l2), some (.ref l3), some (.int l4), none, none] [] h8) ∧ (¬ (lg_cmp v11 ((Int32.toInt64 v8))) = 0 → VV g p e R s m args below meth c 7 Q ((((kc + m2) + m6) + m8)) ((((ks + n2) + n6) + n8)) 1450 [none, none, none, none, none, none, none] [.int ((0 : Int32))] h8)))))) ∧ (¬ v10 = v4 → VV g p e R s m args below meth c 7 Q ((((kc + m2) + m6) + m8)) ((((ks + n2) + n6) + n8)) 1433 [none, none, none, none, none, none, none] [.int ((0 : Int32))] h8))))))))))))))) : VV g p e R s m args below meth c 7 Q kc ks 1386 [some (.retAddr 100), some (.ref l1), some (.ref l2), some (.ref l3), some (.int l4), none, none] [] h := by
  refine r_aload_n X dL_law_1386 rfl ?_
  refine r_aload_nR X dL_law_1387 rfl ?_
  refine r_iload X dL_law_1388 rfl ?_
  refine r_iconst X dL_law_1390 (v := 1) (by decide) ?_
  refine r_iadd X dL_law_1391 ?_
  obtain ⟨k1, ek1, ik1, w⟩ := w
  refine r_sld X dL_law_1392 hX ek1 ik1 ?_
  refine r_aload_nR X dL_law_1393 rfl ?_
  refine r_iload X dL_law_1394 rfl ?_
  refine r_iconst X dL_law_1396 (v := 2) (by decide) ?_
  refine r_iadd X dL_law_1397 ?_
  obtain ⟨k2, ek2, ik2, w⟩ := w
  refine r_sld X dL_law_1398 hX ek2 ik2 ?_
  refine r_aload_n X dL_law_1399 rfl ?_
  obtain ⟨d2, P2, m2, n2, ct2, w⟩ := w
  obtain ⟨⟨x1, x2⟩, w⟩ := w
  refine r_callSH X (As := [.ref l1, .int ((xs k1)), .int ((xs k2)), .ref l3]) dL_law_1400 mh_L_bestStitch ⟨ml_L_195, sm_L_bestStitch⟩ rfl rfl (by simp [Value.category]) x1 x2 ct2 (fun v h2 w1 => ?_)
  have w := w v h2 w1
  obtain ⟨v4, rfl, w⟩ := w
  refine r_istore X dL_law_1403 (by decide) rfl ?_
  refine r_aload_n X dL_law_1405 rfl ?_
  refine r_aload_nR X dL_law_1406 rfl ?_
  refine r_iload X dL_law_1407 rfl ?_
  refine r_iconst X dL_law_1409 (v := 1) (by decide) ?_
  refine r_iadd X dL_law_1410 ?_
  obtain ⟨k5, ek5, ik5, w⟩ := w
  refine r_sld X dL_law_1411 hX ek5 ik5 ?_
  refine r_aload_nR X dL_law_1412 rfl ?_
  refine r_iload X dL_law_1413 rfl ?_
  refine r_iconst X dL_law_1415 (v := 2) (by decide) ?_
  refine r_iadd X dL_law_1416 ?_
  obtain ⟨k6, ek6, ik6, w⟩ := w
  refine r_sld X dL_law_1417 hX ek6 ik6 ?_
  obtain ⟨fs6, es6, w⟩ := w
  obtain ⟨d6, P6, m6, n6, ct6, w⟩ := w
  obtain ⟨⟨x1, x2⟩, w⟩ := w
  refine r_callVC X (As := [.int ((xs k5)), .int ((xs k6))]) dL_law_1418 mk_X12_bestStitch ⟨ml_L_197, im_X12_bestStitch, se_X12_bestStitch⟩ (oF_s es6) (ci_X12).1 rfl rfl rfl (by simp [Value.category]) x1 x2 ct6 (fun _ _ z => z.elim) (fun v h6 w1 => ?_)
  have w := w v h6 w1
  obtain ⟨v8, rfl, w⟩ := w
  refine r_istore X dL_law_1421 (by decide) rfl ?_
  refine r_aload_n X dL_law_1423 rfl ?_
  obtain ⟨fs8, es8, w⟩ := w
  obtain ⟨d8, P8, m8, n8, ct8, w⟩ := w
  obtain ⟨⟨x1, x2⟩, w⟩ := w
  refine r_callVC X (As := []) dL_law_1424 mk_X12_thrown ⟨ml_L_127, im_X12_thrown, se_X12_thrown⟩ (oF_s es8) (ci_X12).1 rfl rfl rfl (by simp [Value.category]) x1 x2 ct8 (fun _ _ z => z.elim) (fun v h8 w1 => ?_)
  have w := w v h8 w1
  obtain ⟨v10, rfl, w⟩ := w
  refine r_iload X dL_law_1427 rfl ?_
  refine r_icmp_eq X dL_law_1429 (tgt := 1434) (by decide) (fun q => ?_) (fun q => ?_)
  · have w := w.1 q
    refine r_iload X dL_law_1434 rfl ?_
    refine r_if_ne X dL_law_1436 (tgt := 1451) (by decide) (fun q => ?_) (fun q => ?_)
    · have w := w.1 q
      refine VV_wk (ls' := [some (.retAddr 100), some (.ref l1), some (.ref l2), some (.ref l3), some (.int l4), none, none]) ?_ w
      exact (And.intro rfl (And.intro rfl (And.intro rfl (And.intro rfl (And.intro rfl trivial)))))
    · have w := w.2 q
      refine r_aload_n X dL_law_1439 rfl ?_
      refine r_iconst X dL_law_1440 (v := 0) (by decide) ?_
      obtain ⟨v11, ev11, w⟩ := w
      obtain ⟨nv11, fv11, cv11, iv11, qv11⟩ := aJ_s ev11
      refine r_lald X dL_law_1441 cv11 iv11 ?_
      rw [qv11]
      refine r_iload X dL_law_1442 rfl ?_
      refine r_i2l X dL_law_1444 ?_
      refine r_lcmp X dL_law_1445 ?_
      refine r_if_eq X dL_law_1446 (tgt := 1451) (by decide) (fun q => ?_) (fun q => ?_)
      · have w := w.1 q
        refine VV_wk (ls' := [some (.retAddr 100), some (.ref l1), some (.ref l2), some (.ref l3), some (.int l4), none, none]) ?_ w
        exact (And.intro rfl (And.intro rfl (And.intro rfl (And.intro rfl (And.intro rfl trivial)))))
      · have w := w.2 q
        refine r_iconst X dL_law_1449 (v := 0) (by decide) ?_
        exact VV_wk (ls' := [none, none, none, none, none, none, none]) trivial w
  · have w := w.2 q
    refine r_iconst X dL_law_1432 (v := 0) (by decide) ?_
    exact VV_wk (ls' := [none, none, none, none, none, none, none]) trivial w

set_option maxRecDepth 10000 in
theorem b_L_law_1451 {g : GG} {p : Program} {e : Env} {R : Room} {s : State} {m : MethodId} {args : Array Value} {below : List Frame} {meth : Method} {c : Code} {Q : State → Prop} {xt : List ExceptionTableEntry} {nm : String} {L : Nat} {xs : Nat → Int32} {kc ks : Nat} (hX : SX g L xs) (X : CX g p s m args meth c cL_law 7 ⟨RL, nm, "([I)Z"⟩ (some .boolean) xt) (l1 : Nat) (l2 : Nat) (l3 : Nat) (l4 : Int32) (h : Hp)
    (w : VV g p e R s m args below meth c 7 Q kc ks 2555 [some (.retAddr 100), some (.ref l1), some (.ref l2), some (.ref l3), some (.int l4), none, none] [] h) : VV g p e R s m args below meth c 7 Q kc ks 1451 [some (.retAddr 100), some (.ref l1), some (.ref l2), some (.ref l3), some (.int l4), none, none] [] h := by
  refine r_goto X dL_law_1451 (tgt := 2555) (by decide) ?_
  refine VV_wk (ls' := [some (.retAddr 100), some (.ref l1), some (.ref l2), some (.ref l3), some (.int l4), none, none]) ?_ w
  exact (And.intro rfl (And.intro rfl (And.intro rfl (And.intro rfl (And.intro rfl trivial)))))

set_option maxRecDepth 10000 in
theorem b_L_law_1454 {g : GG} {p : Program} {e : Env} {R : Room} {s : State} {m : MethodId} {args : Array Value} {below : List Frame} {meth : Method} {c : Code} {Q : State → Prop} {xt : List ExceptionTableEntry} {nm : String} {L : Nat} {xs : Nat → Int32} {kc ks : Nat} (hX : SX g L xs) (X : CX g p s m args meth c cL_law 7 ⟨RL, nm, "([I)Z"⟩ (some .boolean) xt) (l1 : Nat) (l2 : Nat) (l3 : Nat) (l4 : Int32) (h : Hp)
    (w : (∃ k1, (l4 + (1 : Int32)) = nI k1 ∧ k1 < L ∧ (∃ k2, (l4 + (2 : Int32)) = nI k2 ∧ k2 < L ∧ (∃ d2 P2 m2 n2, CT g d2 yL_sent (wsH yL_sent cL_sent 5 (some .int) [(0, 10, 13, 18), (0, 10, 17, 13)]) [.ref l1, .int ((xs k1)), .int ((xs k2)), .ref l3] h m2 n2 P2 noT ∧ ((d2 + 1 ≤ R.frames ∧ 60 * (d2 + 1) + 200 ≤ R.locals) ∧ kc + m2 ≤ R.cells ∧ ks + n2 ≤ R.slots) ∧ (∀ v h2, P2 v h2 → ∃ v4, v = some (.int v4) ∧ (∃ k5, (l4 + (1 : Int32)) = nI k5 ∧ k5 < L ∧ (∃ k6, (l4 + (2 : Int32)) = nI k6 ∧ k6 < L ∧ (∃ fs6, oF h2 l2 11 = some fs6 ∧ (∃ d6 P6 m6 n6, CT g d6 yX12_sent (wsC yX12_sent cX12_sent 8 (some (.int))) [.ref l2, .int ((xs k5)), .int ((xs k6))] h2 m6 n6 P6 noT ∧ ((d6 + 1 ≤ R.frames ∧ 60 * (d6 + 1) + 200 ≤ R.locals) ∧ (kc + m2) + m6 ≤ R.cells ∧ (ks + n2) + n6 ≤ R.slots) ∧ (∀ v h6, P6 v h6 → ∃ v8, v = some (.int v8) ∧ (∃ fs8, oF h6 l2 11 = some fs8 ∧ (∃ d8 P8 m8 n8, CT g d8 yX12_thrown (wsC yX12_thrown cX12_thrown 1 (some (.int))) [.ref l2] h6 m8 n8 P8 noT ∧ ((d8 + 1 ≤ R.frames ∧ 60 * (d8 + 1) + 200 ≤ R.locals) ∧ ((kc + m2) + m6) + m8 ≤ R.cells ∧ ((ks + n2) + n6) + n8 ≤ R.slots) ∧ (∀ v h8, P8 v h8 → ∃ v10, v = some (.int v10) ∧ ((v10 = v4 → ((¬ v4 = 0 → VV g p e R s m args below meth c 7 Q ((((kc + m2) + m6) + m8)) ((((ks + n2) + n6) + n8)) 1519 [some (.retAddr 100), some (.ref l1), some (.ref l2), some (.ref l3), some (.int l4), none, none] [] h8) ∧ (v4 = 0 → (∃ v11, aJ h8 l3 ((0 : Int32)) = some v11 ∧ (((lg_cmp v11 ((Int32.toInt64 v8))) = 0 → VV g p e R s m args below meth c 7 Q ((((kc + m2) + m6) + m8)) ((((ks + n2) + n6) + n8)) 1519 [some (.retAddr 100), some (.ref l1), some (.ref l2), some (.ref l3), some (.int l4), none, none] [] h8) ∧ (¬ (lg_cmp v11 ((Int32.toInt64 v8))) = 0 → VV g p e R s m args below meth c 7 Q ((((kc + m2) + m6) + m8)) ((((ks + n2) + n6) + n8)) 1518 [none, none, none, none, none, none, none] [.int ((0 : Int32))] h8)))))) ∧ (¬ v10 = v4 → VV g p e R s m args below meth c 7 Q ((((kc + m2) + m6) + m8)) ((((ks + n2) + n6) + n8)) 1501 [none, none, none, none, none, none, none] [.int ((0 : Int32))] h8))))))))))))))) : VV g p e R s m args below meth c 7 Q kc ks 1454 [some (.retAddr 100), some (.ref l1), some (.ref l2), some (.ref l3), some (.int l4), none, none] [] h := by
  refine r_aload_n X dL_law_1454 rfl ?_
  refine r_aload_nR X dL_law_1455 rfl ?_
  refine r_iload X dL_law_1456 rfl ?_
  refine r_iconst X dL_law_1458 (v := 1) (by decide) ?_
  refine r_iadd X dL_law_1459 ?_
  obtain ⟨k1, ek1, ik1, w⟩ := w
  refine r_sld X dL_law_1460 hX ek1 ik1 ?_
  refine r_aload_nR X dL_law_1461 rfl ?_
  refine r_iload X dL_law_1462 rfl ?_
  refine r_iconst X dL_law_1464 (v := 2) (by decide) ?_
  refine r_iadd X dL_law_1465 ?_
  obtain ⟨k2, ek2, ik2, w⟩ := w
  refine r_sld X dL_law_1466 hX ek2 ik2 ?_
  refine r_aload_n X dL_law_1467 rfl ?_
  obtain ⟨d2, P2, m2, n2, ct2, w⟩ := w
  obtain ⟨⟨x1, x2⟩, w⟩ := w
  refine r_callSH X (As := [.ref l1, .int ((xs k1)), .int ((xs k2)), .ref l3]) dL_law_1468 mh_L_sent ⟨ml_L_198, sm_L_sent⟩ rfl rfl (by simp [Value.category]) x1 x2 ct2 (fun v h2 w1 => ?_)
  have w := w v h2 w1
  obtain ⟨v4, rfl, w⟩ := w
  refine r_istore X dL_law_1471 (by decide) rfl ?_
  refine r_aload_n X dL_law_1473 rfl ?_
  refine r_aload_nR X dL_law_1474 rfl ?_
  refine r_iload X dL_law_1475 rfl ?_
  refine r_iconst X dL_law_1477 (v := 1) (by decide) ?_
  refine r_iadd X dL_law_1478 ?_
  obtain ⟨k5, ek5, ik5, w⟩ := w
  refine r_sld X dL_law_1479 hX ek5 ik5 ?_
  refine r_aload_nR X dL_law_1480 rfl ?_
  refine r_iload X dL_law_1481 rfl ?_
  refine r_iconst X dL_law_1483 (v := 2) (by decide) ?_
  refine r_iadd X dL_law_1484 ?_
  obtain ⟨k6, ek6, ik6, w⟩ := w
  refine r_sld X dL_law_1485 hX ek6 ik6 ?_
  obtain ⟨fs6, es6, w⟩ := w
  obtain ⟨d6, P6, m6, n6, ct6, w⟩ := w
  obtain ⟨⟨x1, x2⟩, w⟩ := w
  refine r_callVC X (As := [.int ((xs k5)), .int ((xs k6))]) dL_law_1486 mk_X12_sent ⟨ml_L_200, im_X12_sent, se_X12_sent⟩ (oF_s es6) (ci_X12).1 rfl rfl rfl (by simp [Value.category]) x1 x2 ct6 (fun _ _ z => z.elim) (fun v h6 w1 => ?_)
  have w := w v h6 w1
  obtain ⟨v8, rfl, w⟩ := w
  refine r_istore X dL_law_1489 (by decide) rfl ?_
  refine r_aload_n X dL_law_1491 rfl ?_
  obtain ⟨fs8, es8, w⟩ := w
  obtain ⟨d8, P8, m8, n8, ct8, w⟩ := w
  obtain ⟨⟨x1, x2⟩, w⟩ := w
  refine r_callVC X (As := []) dL_law_1492 mk_X12_thrown ⟨ml_L_127, im_X12_thrown, se_X12_thrown⟩ (oF_s es8) (ci_X12).1 rfl rfl rfl (by simp [Value.category]) x1 x2 ct8 (fun _ _ z => z.elim) (fun v h8 w1 => ?_)
  have w := w v h8 w1
  obtain ⟨v10, rfl, w⟩ := w
  refine r_iload X dL_law_1495 rfl ?_
  refine r_icmp_eq X dL_law_1497 (tgt := 1502) (by decide) (fun q => ?_) (fun q => ?_)
  · have w := w.1 q
    refine r_iload X dL_law_1502 rfl ?_
    refine r_if_ne X dL_law_1504 (tgt := 1519) (by decide) (fun q => ?_) (fun q => ?_)
    · have w := w.1 q
      refine VV_wk (ls' := [some (.retAddr 100), some (.ref l1), some (.ref l2), some (.ref l3), some (.int l4), none, none]) ?_ w
      exact (And.intro rfl (And.intro rfl (And.intro rfl (And.intro rfl (And.intro rfl trivial)))))
    · have w := w.2 q
      refine r_aload_n X dL_law_1507 rfl ?_
      refine r_iconst X dL_law_1508 (v := 0) (by decide) ?_
      obtain ⟨v11, ev11, w⟩ := w
      obtain ⟨nv11, fv11, cv11, iv11, qv11⟩ := aJ_s ev11
      refine r_lald X dL_law_1509 cv11 iv11 ?_
      rw [qv11]
      refine r_iload X dL_law_1510 rfl ?_
      refine r_i2l X dL_law_1512 ?_
      refine r_lcmp X dL_law_1513 ?_
      refine r_if_eq X dL_law_1514 (tgt := 1519) (by decide) (fun q => ?_) (fun q => ?_)
      · have w := w.1 q
        refine VV_wk (ls' := [some (.retAddr 100), some (.ref l1), some (.ref l2), some (.ref l3), some (.int l4), none, none]) ?_ w
        exact (And.intro rfl (And.intro rfl (And.intro rfl (And.intro rfl (And.intro rfl trivial)))))
      · have w := w.2 q
        refine r_iconst X dL_law_1517 (v := 0) (by decide) ?_
        exact VV_wk (ls' := [none, none, none, none, none, none, none]) trivial w
  · have w := w.2 q
    refine r_iconst X dL_law_1500 (v := 0) (by decide) ?_
    exact VV_wk (ls' := [none, none, none, none, none, none, none]) trivial w

set_option maxRecDepth 10000 in
theorem b_L_law_1519 {g : GG} {p : Program} {e : Env} {R : Room} {s : State} {m : MethodId} {args : Array Value} {below : List Frame} {meth : Method} {c : Code} {Q : State → Prop} {xt : List ExceptionTableEntry} {nm : String} {L : Nat} {xs : Nat → Int32} {kc ks : Nat} (hX : SX g L xs) (X : CX g p s m args meth c cL_law 7 ⟨RL, nm, "([I)Z"⟩ (some .boolean) xt) (l1 : Nat) (l2 : Nat) (l3 : Nat) (l4 : Int32) (h : Hp)
    (w : VV g p e R s m args below meth c 7 Q kc ks 2555 [some (.retAddr 100), some (.ref l1), some (.ref l2), some (.ref l3), some (.int l4), none, none] [] h) : VV g p e R s m args below meth c 7 Q kc ks 1519 [some (.retAddr 100), some (.ref l1), some (.ref l2), some (.ref l3), some (.int l4), none, none] [] h := by
  refine r_goto X dL_law_1519 (tgt := 2555) (by decide) ?_
  refine VV_wk (ls' := [some (.retAddr 100), some (.ref l1), some (.ref l2), some (.ref l3), some (.int l4), none, none]) ?_ w
  exact (And.intro rfl (And.intro rfl (And.intro rfl (And.intro rfl (And.intro rfl trivial)))))

set_option maxRecDepth 10000 in
theorem b_L_law_1522 {g : GG} {p : Program} {e : Env} {R : Room} {s : State} {m : MethodId} {args : Array Value} {below : List Frame} {meth : Method} {c : Code} {Q : State → Prop} {xt : List ExceptionTableEntry} {nm : String} {L : Nat} {xs : Nat → Int32} {kc ks : Nat} (hX : SX g L xs) (X : CX g p s m args meth c cL_law 7 ⟨RL, nm, "([I)Z"⟩ (some .boolean) xt) (l1 : Nat) (l2 : Nat) (l3 : Nat) (l4 : Int32) (h : Hp)
    (w : (∃ k1, (l4 + (1 : Int32)) = nI k1 ∧ k1 < L ∧ (∃ d1 P1 m1 n1, CT g d1 yL_closed (wsH yL_closed cL_closed 4 (some .int) [(0, 9, 12, 18)]) [.ref l1, .int ((xs k1)), .ref l3] h m1 n1 P1 noT ∧ ((d1 + 1 ≤ R.frames ∧ 60 * (d1 + 1) + 200 ≤ R.locals) ∧ kc + m1 ≤ R.cells ∧ ks + n1 ≤ R.slots) ∧ (∀ v h1, P1 v h1 → ∃ v3, v = some (.int v3) ∧ (∃ k4, (l4 + (1 : Int32)) = nI k4 ∧ k4 < L ∧ (∃ fs4, oF h1 l2 11 = some fs4 ∧ (∃ d4 P4 m4 n4, CT g d4 yX12_closed (wsC yX12_closed cX12_closed 6 (some (.int))) [.ref l2, .int ((xs k4))] h1 m4 n4 P4 noT ∧ ((d4 + 1 ≤ R.frames ∧ 60 * (d4 + 1) + 200 ≤ R.locals) ∧ (kc + m1) + m4 ≤ R.cells ∧ (ks + n1) + n4 ≤ R.slots) ∧ (∀ v h4, P4 v h4 → ∃ v6, v = some (.int v6) ∧ (∃ fs6, oF h4 l2 11 = some fs6 ∧ (∃ d6 P6 m6 n6, CT g d6 yX12_thrown (wsC yX12_thrown cX12_thrown 1 (some (.int))) [.ref l2] h4 m6 n6 P6 noT ∧ ((d6 + 1 ≤ R.frames ∧ 60 * (d6 + 1) + 200 ≤ R.locals) ∧ ((kc + m1) + m4) + m6 ≤ R.cells ∧ ((ks + n1) + n4) + n6 ≤ R.slots) ∧ (∀ v h6, P6 v h6 → ∃ v8, v = some (.int v8) ∧ ((v8 = v3 → ((¬ v3 = 0 → VV g p e R s m args below meth c 7 Q ((((kc + m1) + m4) + m6)) ((((ks + n1) + n4) + n6)) 1575 [some (.retAddr 100), some (.ref l1), some (.ref l2), some (.ref l3), some (.int l4), none, none] [] h6) ∧ (v3 = 0 → (∃ v9, aJ h6 l3 ((0 : Int32)) = some v9 ∧ (((lg_cmp v9 ((Int32.toInt64 v6))) = 0 → VV g p e R s m args below meth c 7 Q ((((kc + m1) + m4) + m6)) ((((ks + n1) + n4) + n6)) 1575 [some (.retAddr 100), some (.ref l1), some (.ref l2), some (.ref l3), some (.int l4), none, none] [] h6) ∧ (¬ (lg_cmp v9 ((Int32.toInt64 v6))) = 0 → VV g p e R s m args below meth c 7 Q ((((kc + m1) + m4) + m6)) ((((ks + n1) + n4) + n6)) 1574 [none, none, none, none, none, none, none] [.int ((0 : Int32))] h6)))))) ∧ (¬ v8 = v3 → VV g p e R s m args below meth c 7 Q ((((kc + m1) + m4) + m6)) ((((ks + n1) + n4) + n6)) 1557 [none, none, none, none, none, none, none] [.int ((0 : Int32))] h6))))))))))))) : VV g p e R s m args below meth c 7 Q kc ks 1522 [some (.retAddr 100), some (.ref l1), some (.ref l2), some (.ref l3), some (.int l4), none, none] [] h := by
  refine r_aload_n X dL_law_1522 rfl ?_
  refine r_aload_nR X dL_law_1523 rfl ?_
  refine r_iload X dL_law_1524 rfl ?_
  refine r_iconst X dL_law_1526 (v := 1) (by decide) ?_
  refine r_iadd X dL_law_1527 ?_
  obtain ⟨k1, ek1, ik1, w⟩ := w
  refine r_sld X dL_law_1528 hX ek1 ik1 ?_
  refine r_aload_n X dL_law_1529 rfl ?_
  obtain ⟨d1, P1, m1, n1, ct1, w⟩ := w
  obtain ⟨⟨x1, x2⟩, w⟩ := w
  refine r_callSH X (As := [.ref l1, .int ((xs k1)), .ref l3]) dL_law_1530 mh_L_closed ⟨ml_L_201, sm_L_closed⟩ rfl rfl (by simp [Value.category]) x1 x2 ct1 (fun v h1 w1 => ?_)
  have w := w v h1 w1
  obtain ⟨v3, rfl, w⟩ := w
  refine r_istore X dL_law_1533 (by decide) rfl ?_
  refine r_aload_n X dL_law_1535 rfl ?_
  refine r_aload_nR X dL_law_1536 rfl ?_
  refine r_iload X dL_law_1537 rfl ?_
  refine r_iconst X dL_law_1539 (v := 1) (by decide) ?_
  refine r_iadd X dL_law_1540 ?_
  obtain ⟨k4, ek4, ik4, w⟩ := w
  refine r_sld X dL_law_1541 hX ek4 ik4 ?_
  obtain ⟨fs4, es4, w⟩ := w
  obtain ⟨d4, P4, m4, n4, ct4, w⟩ := w
  obtain ⟨⟨x1, x2⟩, w⟩ := w
  refine r_callVC X (As := [.int ((xs k4))]) dL_law_1542 mk_X12_closed ⟨ml_L_203, im_X12_closed, se_X12_closed⟩ (oF_s es4) (ci_X12).1 rfl rfl rfl (by simp [Value.category]) x1 x2 ct4 (fun _ _ z => z.elim) (fun v h4 w1 => ?_)
  have w := w v h4 w1
  obtain ⟨v6, rfl, w⟩ := w
  refine r_istore X dL_law_1545 (by decide) rfl ?_
  refine r_aload_n X dL_law_1547 rfl ?_
  obtain ⟨fs6, es6, w⟩ := w
  obtain ⟨d6, P6, m6, n6, ct6, w⟩ := w
  obtain ⟨⟨x1, x2⟩, w⟩ := w
  refine r_callVC X (As := []) dL_law_1548 mk_X12_thrown ⟨ml_L_127, im_X12_thrown, se_X12_thrown⟩ (oF_s es6) (ci_X12).1 rfl rfl rfl (by simp [Value.category]) x1 x2 ct6 (fun _ _ z => z.elim) (fun v h6 w1 => ?_)
  have w := w v h6 w1
  obtain ⟨v8, rfl, w⟩ := w
  refine r_iload X dL_law_1551 rfl ?_
  refine r_icmp_eq X dL_law_1553 (tgt := 1558) (by decide) (fun q => ?_) (fun q => ?_)
  · have w := w.1 q
    refine r_iload X dL_law_1558 rfl ?_
    refine r_if_ne X dL_law_1560 (tgt := 1575) (by decide) (fun q => ?_) (fun q => ?_)
    · have w := w.1 q
      refine VV_wk (ls' := [some (.retAddr 100), some (.ref l1), some (.ref l2), some (.ref l3), some (.int l4), none, none]) ?_ w
      exact (And.intro rfl (And.intro rfl (And.intro rfl (And.intro rfl (And.intro rfl trivial)))))
    · have w := w.2 q
      refine r_aload_n X dL_law_1563 rfl ?_
      refine r_iconst X dL_law_1564 (v := 0) (by decide) ?_
      obtain ⟨v9, ev9, w⟩ := w
      obtain ⟨nv9, fv9, cv9, iv9, qv9⟩ := aJ_s ev9
      refine r_lald X dL_law_1565 cv9 iv9 ?_
      rw [qv9]
      refine r_iload X dL_law_1566 rfl ?_
      refine r_i2l X dL_law_1568 ?_
      refine r_lcmp X dL_law_1569 ?_
      refine r_if_eq X dL_law_1570 (tgt := 1575) (by decide) (fun q => ?_) (fun q => ?_)
      · have w := w.1 q
        refine VV_wk (ls' := [some (.retAddr 100), some (.ref l1), some (.ref l2), some (.ref l3), some (.int l4), none, none]) ?_ w
        exact (And.intro rfl (And.intro rfl (And.intro rfl (And.intro rfl (And.intro rfl trivial)))))
      · have w := w.2 q
        refine r_iconst X dL_law_1573 (v := 0) (by decide) ?_
        exact VV_wk (ls' := [none, none, none, none, none, none, none]) trivial w
  · have w := w.2 q
    refine r_iconst X dL_law_1556 (v := 0) (by decide) ?_
    exact VV_wk (ls' := [none, none, none, none, none, none, none]) trivial w

set_option maxRecDepth 10000 in
theorem b_L_law_1575 {g : GG} {p : Program} {e : Env} {R : Room} {s : State} {m : MethodId} {args : Array Value} {below : List Frame} {meth : Method} {c : Code} {Q : State → Prop} {xt : List ExceptionTableEntry} {nm : String} {L : Nat} {xs : Nat → Int32} {kc ks : Nat} (hX : SX g L xs) (X : CX g p s m args meth c cL_law 7 ⟨RL, nm, "([I)Z"⟩ (some .boolean) xt) (l1 : Nat) (l2 : Nat) (l3 : Nat) (l4 : Int32) (h : Hp)
    (w : VV g p e R s m args below meth c 7 Q kc ks 2555 [some (.retAddr 100), some (.ref l1), some (.ref l2), some (.ref l3), some (.int l4), none, none] [] h) : VV g p e R s m args below meth c 7 Q kc ks 1575 [some (.retAddr 100), some (.ref l1), some (.ref l2), some (.ref l3), some (.int l4), none, none] [] h := by
  refine r_goto X dL_law_1575 (tgt := 2555) (by decide) ?_
  refine VV_wk (ls' := [some (.retAddr 100), some (.ref l1), some (.ref l2), some (.ref l3), some (.int l4), none, none]) ?_ w
  exact (And.intro rfl (And.intro rfl (And.intro rfl (And.intro rfl (And.intro rfl trivial)))))

set_option maxRecDepth 10000 in
theorem b_L_law_1578 {g : GG} {p : Program} {e : Env} {R : Room} {s : State} {m : MethodId} {args : Array Value} {below : List Frame} {meth : Method} {c : Code} {Q : State → Prop} {xt : List ExceptionTableEntry} {nm : String} {L : Nat} {xs : Nat → Int32} {kc ks : Nat} (hX : SX g L xs) (X : CX g p s m args meth c cL_law 7 ⟨RL, nm, "([I)Z"⟩ (some .boolean) xt) (l1 : Nat) (l2 : Nat) (l3 : Nat) (l4 : Int32) (h : Hp)
    (w : (∃ k1, (l4 + (1 : Int32)) = nI k1 ∧ k1 < L ∧ (∃ k2, (l4 + (2 : Int32)) = nI k2 ∧ k2 < L ∧ (∃ d2 P2 m2 n2, CT g d2 yL_tight (wsH yL_tight cL_tight 5 (some .int) [(0, 10, 13, 18), (0, 10, 17, 13)]) [.ref l1, .int ((xs k1)), .int ((xs k2)), .ref l3] h m2 n2 P2 noT ∧ ((d2 + 1 ≤ R.frames ∧ 60 * (d2 + 1) + 200 ≤ R.locals) ∧ kc + m2 ≤ R.cells ∧ ks + n2 ≤ R.slots) ∧ (∀ v h2, P2 v h2 → ∃ v4, v = some (.int v4) ∧ (∃ k5, (l4 + (1 : Int32)) = nI k5 ∧ k5 < L ∧ (∃ k6, (l4 + (2 : Int32)) = nI k6 ∧ k6 < L ∧ (∃ fs6, oF h2 l2 11 = some fs6 ∧ (∃ d6 P6 m6 n6, CT g d6 yX12_tight (wsC yX12_tight cX12_tight 8 (some (.int))) [.ref l2, .int ((xs k5)), .int ((xs k6))] h2 m6 n6 P6 noT ∧ ((d6 + 1 ≤ R.frames ∧ 60 * (d6 + 1) + 200 ≤ R.locals) ∧ (kc + m2) + m6 ≤ R.cells ∧ (ks + n2) + n6 ≤ R.slots) ∧ (∀ v h6, P6 v h6 → ∃ v8, v = some (.int v8) ∧ (∃ fs8, oF h6 l2 11 = some fs8 ∧ (∃ d8 P8 m8 n8, CT g d8 yX12_thrown (wsC yX12_thrown cX12_thrown 1 (some (.int))) [.ref l2] h6 m8 n8 P8 noT ∧ ((d8 + 1 ≤ R.frames ∧ 60 * (d8 + 1) + 200 ≤ R.locals) ∧ ((kc + m2) + m6) + m8 ≤ R.cells ∧ ((ks + n2) + n6) + n8 ≤ R.slots) ∧ (∀ v h8, P8 v h8 → ∃ v10, v = some (.int v10) ∧ ((v10 = v4 → ((¬ v4 = 0 → VV g p e R s m args below meth c 7 Q ((((kc + m2) + m6) + m8)) ((((ks + n2) + n6) + n8)) 1643 [some (.retAddr 100), some (.ref l1), some (.ref l2), some (.ref l3), some (.int l4), none, none] [] h8) ∧ (v4 = 0 → (∃ v11, aJ h8 l3 ((0 : Int32)) = some v11 ∧ (((lg_cmp v11 ((Int32.toInt64 v8))) = 0 → VV g p e R s m args below meth c 7 Q ((((kc + m2) + m6) + m8)) ((((ks + n2) + n6) + n8)) 1643 [some (.retAddr 100), some (.ref l1), some (.ref l2), some (.ref l3), some (.int l4), none, none] [] h8) ∧ (¬ (lg_cmp v11 ((Int32.toInt64 v8))) = 0 → VV g p e R s m args below meth c 7 Q ((((kc + m2) + m6) + m8)) ((((ks + n2) + n6) + n8)) 1642 [none, none, none, none, none, none, none] [.int ((0 : Int32))] h8)))))) ∧ (¬ v10 = v4 → VV g p e R s m args below meth c 7 Q ((((kc + m2) + m6) + m8)) ((((ks + n2) + n6) + n8)) 1625 [none, none, none, none, none, none, none] [.int ((0 : Int32))] h8))))))))))))))) : VV g p e R s m args below meth c 7 Q kc ks 1578 [some (.retAddr 100), some (.ref l1), some (.ref l2), some (.ref l3), some (.int l4), none, none] [] h := by
  refine r_aload_n X dL_law_1578 rfl ?_
  refine r_aload_nR X dL_law_1579 rfl ?_
  refine r_iload X dL_law_1580 rfl ?_
  refine r_iconst X dL_law_1582 (v := 1) (by decide) ?_
  refine r_iadd X dL_law_1583 ?_
  obtain ⟨k1, ek1, ik1, w⟩ := w
  refine r_sld X dL_law_1584 hX ek1 ik1 ?_
  refine r_aload_nR X dL_law_1585 rfl ?_
  refine r_iload X dL_law_1586 rfl ?_
  refine r_iconst X dL_law_1588 (v := 2) (by decide) ?_
  refine r_iadd X dL_law_1589 ?_
  obtain ⟨k2, ek2, ik2, w⟩ := w
  refine r_sld X dL_law_1590 hX ek2 ik2 ?_
  refine r_aload_n X dL_law_1591 rfl ?_
  obtain ⟨d2, P2, m2, n2, ct2, w⟩ := w
  obtain ⟨⟨x1, x2⟩, w⟩ := w
  refine r_callSH X (As := [.ref l1, .int ((xs k1)), .int ((xs k2)), .ref l3]) dL_law_1592 mh_L_tight ⟨ml_L_204, sm_L_tight⟩ rfl rfl (by simp [Value.category]) x1 x2 ct2 (fun v h2 w1 => ?_)
  have w := w v h2 w1
  obtain ⟨v4, rfl, w⟩ := w
  refine r_istore X dL_law_1595 (by decide) rfl ?_
  refine r_aload_n X dL_law_1597 rfl ?_
  refine r_aload_nR X dL_law_1598 rfl ?_
  refine r_iload X dL_law_1599 rfl ?_
  refine r_iconst X dL_law_1601 (v := 1) (by decide) ?_
  refine r_iadd X dL_law_1602 ?_
  obtain ⟨k5, ek5, ik5, w⟩ := w
  refine r_sld X dL_law_1603 hX ek5 ik5 ?_
  refine r_aload_nR X dL_law_1604 rfl ?_
  refine r_iload X dL_law_1605 rfl ?_
  refine r_iconst X dL_law_1607 (v := 2) (by decide) ?_
  refine r_iadd X dL_law_1608 ?_
  obtain ⟨k6, ek6, ik6, w⟩ := w
  refine r_sld X dL_law_1609 hX ek6 ik6 ?_
  obtain ⟨fs6, es6, w⟩ := w
  obtain ⟨d6, P6, m6, n6, ct6, w⟩ := w
  obtain ⟨⟨x1, x2⟩, w⟩ := w
  refine r_callVC X (As := [.int ((xs k5)), .int ((xs k6))]) dL_law_1610 mk_X12_tight ⟨ml_L_206, im_X12_tight, se_X12_tight⟩ (oF_s es6) (ci_X12).1 rfl rfl rfl (by simp [Value.category]) x1 x2 ct6 (fun _ _ z => z.elim) (fun v h6 w1 => ?_)
  have w := w v h6 w1
  obtain ⟨v8, rfl, w⟩ := w
  refine r_istore X dL_law_1613 (by decide) rfl ?_
  refine r_aload_n X dL_law_1615 rfl ?_
  obtain ⟨fs8, es8, w⟩ := w
  obtain ⟨d8, P8, m8, n8, ct8, w⟩ := w
  obtain ⟨⟨x1, x2⟩, w⟩ := w
  refine r_callVC X (As := []) dL_law_1616 mk_X12_thrown ⟨ml_L_127, im_X12_thrown, se_X12_thrown⟩ (oF_s es8) (ci_X12).1 rfl rfl rfl (by simp [Value.category]) x1 x2 ct8 (fun _ _ z => z.elim) (fun v h8 w1 => ?_)
  have w := w v h8 w1
  obtain ⟨v10, rfl, w⟩ := w
  refine r_iload X dL_law_1619 rfl ?_
  refine r_icmp_eq X dL_law_1621 (tgt := 1626) (by decide) (fun q => ?_) (fun q => ?_)
  · have w := w.1 q
    refine r_iload X dL_law_1626 rfl ?_
    refine r_if_ne X dL_law_1628 (tgt := 1643) (by decide) (fun q => ?_) (fun q => ?_)
    · have w := w.1 q
      refine VV_wk (ls' := [some (.retAddr 100), some (.ref l1), some (.ref l2), some (.ref l3), some (.int l4), none, none]) ?_ w
      exact (And.intro rfl (And.intro rfl (And.intro rfl (And.intro rfl (And.intro rfl trivial)))))
    · have w := w.2 q
      refine r_aload_n X dL_law_1631 rfl ?_
      refine r_iconst X dL_law_1632 (v := 0) (by decide) ?_
      obtain ⟨v11, ev11, w⟩ := w
      obtain ⟨nv11, fv11, cv11, iv11, qv11⟩ := aJ_s ev11
      refine r_lald X dL_law_1633 cv11 iv11 ?_
      rw [qv11]
      refine r_iload X dL_law_1634 rfl ?_
      refine r_i2l X dL_law_1636 ?_
      refine r_lcmp X dL_law_1637 ?_
      refine r_if_eq X dL_law_1638 (tgt := 1643) (by decide) (fun q => ?_) (fun q => ?_)
      · have w := w.1 q
        refine VV_wk (ls' := [some (.retAddr 100), some (.ref l1), some (.ref l2), some (.ref l3), some (.int l4), none, none]) ?_ w
        exact (And.intro rfl (And.intro rfl (And.intro rfl (And.intro rfl (And.intro rfl trivial)))))
      · have w := w.2 q
        refine r_iconst X dL_law_1641 (v := 0) (by decide) ?_
        exact VV_wk (ls' := [none, none, none, none, none, none, none]) trivial w
  · have w := w.2 q
    refine r_iconst X dL_law_1624 (v := 0) (by decide) ?_
    exact VV_wk (ls' := [none, none, none, none, none, none, none]) trivial w

set_option maxRecDepth 10000 in
theorem b_L_law_1643 {g : GG} {p : Program} {e : Env} {R : Room} {s : State} {m : MethodId} {args : Array Value} {below : List Frame} {meth : Method} {c : Code} {Q : State → Prop} {xt : List ExceptionTableEntry} {nm : String} {L : Nat} {xs : Nat → Int32} {kc ks : Nat} (hX : SX g L xs) (X : CX g p s m args meth c cL_law 7 ⟨RL, nm, "([I)Z"⟩ (some .boolean) xt) (l1 : Nat) (l2 : Nat) (l3 : Nat) (l4 : Int32) (h : Hp)
    (w : VV g p e R s m args below meth c 7 Q kc ks 2555 [some (.retAddr 100), some (.ref l1), some (.ref l2), some (.ref l3), some (.int l4), none, none] [] h) : VV g p e R s m args below meth c 7 Q kc ks 1643 [some (.retAddr 100), some (.ref l1), some (.ref l2), some (.ref l3), some (.int l4), none, none] [] h := by
  refine r_goto X dL_law_1643 (tgt := 2555) (by decide) ?_
  refine VV_wk (ls' := [some (.retAddr 100), some (.ref l1), some (.ref l2), some (.ref l3), some (.int l4), none, none]) ?_ w
  exact (And.intro rfl (And.intro rfl (And.intro rfl (And.intro rfl (And.intro rfl trivial)))))

set_option maxRecDepth 10000 in
theorem b_L_law_1646 {g : GG} {p : Program} {e : Env} {R : Room} {s : State} {m : MethodId} {args : Array Value} {below : List Frame} {meth : Method} {c : Code} {Q : State → Prop} {xt : List ExceptionTableEntry} {nm : String} {L : Nat} {xs : Nat → Int32} {kc ks : Nat} (hX : SX g L xs) (X : CX g p s m args meth c cL_law 7 ⟨RL, nm, "([I)Z"⟩ (some .boolean) xt) (l1 : Nat) (l2 : Nat) (l3 : Nat) (l4 : Int32) (h : Hp)
    (w : (∃ k1, (l4 + (1 : Int32)) = nI k1 ∧ k1 < L ∧ (∃ k2, (l4 + (2 : Int32)) = nI k2 ∧ k2 < L ∧ (∃ d2 P2 m2 n2, CT g d2 yL_readings (wsH yL_readings cL_readings 5 (some .int) [(0, 10, 13, 18), (0, 10, 17, 13)]) [.ref l1, .int ((xs k1)), .int ((xs k2)), .ref l3] h m2 n2 P2 noT ∧ ((d2 + 1 ≤ R.frames ∧ 60 * (d2 + 1) + 200 ≤ R.locals) ∧ kc + m2 ≤ R.cells ∧ ks + n2 ≤ R.slots) ∧ (∀ v h2, P2 v h2 → ∃ v4, v = some (.int v4) ∧ (∃ k5, (l4 + (1 : Int32)) = nI k5 ∧ k5 < L ∧ (∃ k6, (l4 + (2 : Int32)) = nI k6 ∧ k6 < L ∧ (∃ fs6, oF h2 l2 11 = some fs6 ∧ (∃ d6 P6 m6 n6, CT g d6 yX12_readings (wsC yX12_readings cX12_readings 7 (some (.int))) [.ref l2, .int ((xs k5)), .int ((xs k6))] h2 m6 n6 P6 noT ∧ ((d6 + 1 ≤ R.frames ∧ 60 * (d6 + 1) + 200 ≤ R.locals) ∧ (kc + m2) + m6 ≤ R.cells ∧ (ks + n2) + n6 ≤ R.slots) ∧ (∀ v h6, P6 v h6 → ∃ v8, v = some (.int v8) ∧ (∃ fs8, oF h6 l2 11 = some fs8 ∧ (∃ d8 P8 m8 n8, CT g d8 yX12_thrown (wsC yX12_thrown cX12_thrown 1 (some (.int))) [.ref l2] h6 m8 n8 P8 noT ∧ ((d8 + 1 ≤ R.frames ∧ 60 * (d8 + 1) + 200 ≤ R.locals) ∧ ((kc + m2) + m6) + m8 ≤ R.cells ∧ ((ks + n2) + n6) + n8 ≤ R.slots) ∧ (∀ v h8, P8 v h8 → ∃ v10, v = some (.int v10) ∧ ((v10 = v4 → ((¬ v4 = 0 → VV g p e R s m args below meth c 7 Q ((((kc + m2) + m6) + m8)) ((((ks + n2) + n6) + n8)) 1711 [some (.retAddr 100), some (.ref l1), some (.ref l2), some (.ref l3), some (.int l4), none, none] [] h8) ∧ (v4 = 0 → (∃ v11, aJ h8 l3 ((0 : Int32)) = some v11 ∧ (((lg_cmp v11 ((Int32.toInt64 v8))) = 0 → VV g p e R s m args below meth c 7 Q ((((kc + m2) + m6) + m8)) ((((ks + n2) + n6) + n8)) 1711 [some (.retAddr 100), some (.ref l1), some (.ref l2), some (.ref l3), some (.int l4), none, none] [] h8) ∧ (¬ (lg_cmp v11 ((Int32.toInt64 v8))) = 0 → VV g p e R s m args below meth c 7 Q ((((kc + m2) + m6) + m8)) ((((ks + n2) + n6) + n8)) 1710 [none, none, none, none, none, none, none] [.int ((0 : Int32))] h8)))))) ∧ (¬ v10 = v4 → VV g p e R s m args below meth c 7 Q ((((kc + m2) + m6) + m8)) ((((ks + n2) + n6) + n8)) 1693 [none, none, none, none, none, none, none] [.int ((0 : Int32))] h8))))))))))))))) : VV g p e R s m args below meth c 7 Q kc ks 1646 [some (.retAddr 100), some (.ref l1), some (.ref l2), some (.ref l3), some (.int l4), none, none] [] h := by
  refine r_aload_n X dL_law_1646 rfl ?_
  refine r_aload_nR X dL_law_1647 rfl ?_
  refine r_iload X dL_law_1648 rfl ?_
  refine r_iconst X dL_law_1650 (v := 1) (by decide) ?_
  refine r_iadd X dL_law_1651 ?_
  obtain ⟨k1, ek1, ik1, w⟩ := w
  refine r_sld X dL_law_1652 hX ek1 ik1 ?_
  refine r_aload_nR X dL_law_1653 rfl ?_
  refine r_iload X dL_law_1654 rfl ?_
  refine r_iconst X dL_law_1656 (v := 2) (by decide) ?_
  refine r_iadd X dL_law_1657 ?_
  obtain ⟨k2, ek2, ik2, w⟩ := w
  refine r_sld X dL_law_1658 hX ek2 ik2 ?_
  refine r_aload_n X dL_law_1659 rfl ?_
  obtain ⟨d2, P2, m2, n2, ct2, w⟩ := w
  obtain ⟨⟨x1, x2⟩, w⟩ := w
  refine r_callSH X (As := [.ref l1, .int ((xs k1)), .int ((xs k2)), .ref l3]) dL_law_1660 mh_L_readings ⟨ml_L_207, sm_L_readings⟩ rfl rfl (by simp [Value.category]) x1 x2 ct2 (fun v h2 w1 => ?_)
  have w := w v h2 w1
  obtain ⟨v4, rfl, w⟩ := w
  refine r_istore X dL_law_1663 (by decide) rfl ?_
  refine r_aload_n X dL_law_1665 rfl ?_
  refine r_aload_nR X dL_law_1666 rfl ?_
  refine r_iload X dL_law_1667 rfl ?_
  refine r_iconst X dL_law_1669 (v := 1) (by decide) ?_
  refine r_iadd X dL_law_1670 ?_
  obtain ⟨k5, ek5, ik5, w⟩ := w
  refine r_sld X dL_law_1671 hX ek5 ik5 ?_
  refine r_aload_nR X dL_law_1672 rfl ?_
  refine r_iload X dL_law_1673 rfl ?_
  refine r_iconst X dL_law_1675 (v := 2) (by decide) ?_
  refine r_iadd X dL_law_1676 ?_
  obtain ⟨k6, ek6, ik6, w⟩ := w
  refine r_sld X dL_law_1677 hX ek6 ik6 ?_
  obtain ⟨fs6, es6, w⟩ := w
  obtain ⟨d6, P6, m6, n6, ct6, w⟩ := w
  obtain ⟨⟨x1, x2⟩, w⟩ := w
  refine r_callVC X (As := [.int ((xs k5)), .int ((xs k6))]) dL_law_1678 mk_X12_readings ⟨ml_L_209, im_X12_readings, se_X12_readings⟩ (oF_s es6) (ci_X12).1 rfl rfl rfl (by simp [Value.category]) x1 x2 ct6 (fun _ _ z => z.elim) (fun v h6 w1 => ?_)
  have w := w v h6 w1
  obtain ⟨v8, rfl, w⟩ := w
  refine r_istore X dL_law_1681 (by decide) rfl ?_
  refine r_aload_n X dL_law_1683 rfl ?_
  obtain ⟨fs8, es8, w⟩ := w
  obtain ⟨d8, P8, m8, n8, ct8, w⟩ := w
  obtain ⟨⟨x1, x2⟩, w⟩ := w
  refine r_callVC X (As := []) dL_law_1684 mk_X12_thrown ⟨ml_L_127, im_X12_thrown, se_X12_thrown⟩ (oF_s es8) (ci_X12).1 rfl rfl rfl (by simp [Value.category]) x1 x2 ct8 (fun _ _ z => z.elim) (fun v h8 w1 => ?_)
  have w := w v h8 w1
  obtain ⟨v10, rfl, w⟩ := w
  refine r_iload X dL_law_1687 rfl ?_
  refine r_icmp_eq X dL_law_1689 (tgt := 1694) (by decide) (fun q => ?_) (fun q => ?_)
  · have w := w.1 q
    refine r_iload X dL_law_1694 rfl ?_
    refine r_if_ne X dL_law_1696 (tgt := 1711) (by decide) (fun q => ?_) (fun q => ?_)
    · have w := w.1 q
      refine VV_wk (ls' := [some (.retAddr 100), some (.ref l1), some (.ref l2), some (.ref l3), some (.int l4), none, none]) ?_ w
      exact (And.intro rfl (And.intro rfl (And.intro rfl (And.intro rfl (And.intro rfl trivial)))))
    · have w := w.2 q
      refine r_aload_n X dL_law_1699 rfl ?_
      refine r_iconst X dL_law_1700 (v := 0) (by decide) ?_
      obtain ⟨v11, ev11, w⟩ := w
      obtain ⟨nv11, fv11, cv11, iv11, qv11⟩ := aJ_s ev11
      refine r_lald X dL_law_1701 cv11 iv11 ?_
      rw [qv11]
      refine r_iload X dL_law_1702 rfl ?_
      refine r_i2l X dL_law_1704 ?_
      refine r_lcmp X dL_law_1705 ?_
      refine r_if_eq X dL_law_1706 (tgt := 1711) (by decide) (fun q => ?_) (fun q => ?_)
      · have w := w.1 q
        refine VV_wk (ls' := [some (.retAddr 100), some (.ref l1), some (.ref l2), some (.ref l3), some (.int l4), none, none]) ?_ w
        exact (And.intro rfl (And.intro rfl (And.intro rfl (And.intro rfl (And.intro rfl trivial)))))
      · have w := w.2 q
        refine r_iconst X dL_law_1709 (v := 0) (by decide) ?_
        exact VV_wk (ls' := [none, none, none, none, none, none, none]) trivial w
  · have w := w.2 q
    refine r_iconst X dL_law_1692 (v := 0) (by decide) ?_
    exact VV_wk (ls' := [none, none, none, none, none, none, none]) trivial w

set_option maxRecDepth 10000 in
theorem b_L_law_1711 {g : GG} {p : Program} {e : Env} {R : Room} {s : State} {m : MethodId} {args : Array Value} {below : List Frame} {meth : Method} {c : Code} {Q : State → Prop} {xt : List ExceptionTableEntry} {nm : String} {L : Nat} {xs : Nat → Int32} {kc ks : Nat} (hX : SX g L xs) (X : CX g p s m args meth c cL_law 7 ⟨RL, nm, "([I)Z"⟩ (some .boolean) xt) (l1 : Nat) (l2 : Nat) (l3 : Nat) (l4 : Int32) (h : Hp)
    (w : VV g p e R s m args below meth c 7 Q kc ks 2555 [some (.retAddr 100), some (.ref l1), some (.ref l2), some (.ref l3), some (.int l4), none, none] [] h) : VV g p e R s m args below meth c 7 Q kc ks 1711 [some (.retAddr 100), some (.ref l1), some (.ref l2), some (.ref l3), some (.int l4), none, none] [] h := by
  refine r_goto X dL_law_1711 (tgt := 2555) (by decide) ?_
  refine VV_wk (ls' := [some (.retAddr 100), some (.ref l1), some (.ref l2), some (.ref l3), some (.int l4), none, none]) ?_ w
  exact (And.intro rfl (And.intro rfl (And.intro rfl (And.intro rfl (And.intro rfl trivial)))))

set_option maxRecDepth 10000 in
theorem b_L_law_1714 {g : GG} {p : Program} {e : Env} {R : Room} {s : State} {m : MethodId} {args : Array Value} {below : List Frame} {meth : Method} {c : Code} {Q : State → Prop} {xt : List ExceptionTableEntry} {nm : String} {L : Nat} {xs : Nat → Int32} {kc ks : Nat} (hX : SX g L xs) (X : CX g p s m args meth c cL_law 7 ⟨RL, nm, "([I)Z"⟩ (some .boolean) xt) (l1 : Nat) (l2 : Nat) (l3 : Nat) (l4 : Int32) (h : Hp)
    (w : (∃ k1, (l4 + (1 : Int32)) = nI k1 ∧ k1 < L ∧ (∃ k2, (l4 + (2 : Int32)) = nI k2 ∧ k2 < L ∧ (∃ k3, (l4 + (3 : Int32)) = nI k3 ∧ k3 < L ∧ (∃ d3 P3 m3 n3, CT g d3 yL_see (wsH yL_see cL_see 6 (some .int) [(0, 12, 15, 18)]) [.ref l1, .int ((xs k1)), .int ((xs k2)), .int ((xs k3)), .ref l3] h m3 n3 P3 noT ∧ ((d3 + 1 ≤ R.frames ∧ 60 * (d3 + 1) + 200 ≤ R.locals) ∧ kc + m3 ≤ R.cells ∧ ks + n3 ≤ R.slots) ∧ (∀ v h3, P3 v h3 → ∃ v5, v = some (.int v5) ∧ (∃ k6, (l4 + (1 : Int32)) = nI k6 ∧ k6 < L ∧ (∃ k7, (l4 + (2 : Int32)) = nI k7 ∧ k7 < L ∧ (∃ k8, (l4 + (3 : Int32)) = nI k8 ∧ k8 < L ∧ (∃ fs8, oF h3 l2 11 = some fs8 ∧ (∃ d8 P8 m8 n8, CT g d8 yX12_see (wsC yX12_see cX12_see 4 (some (.int))) [.ref l2, .int ((xs k6)), .int ((xs k7)), .int ((xs k8))] h3 m8 n8 P8 noT ∧ ((d8 + 1 ≤ R.frames ∧ 60 * (d8 + 1) + 200 ≤ R.locals) ∧ (kc + m3) + m8 ≤ R.cells ∧ (ks + n3) + n8 ≤ R.slots) ∧ (∀ v h8, P8 v h8 → ∃ v10, v = some (.int v10) ∧ (∃ fs10, oF h8 l2 11 = some fs10 ∧ (∃ d10 P10 m10 n10, CT g d10 yX12_thrown (wsC yX12_thrown cX12_thrown 1 (some (.int))) [.ref l2] h8 m10 n10 P10 noT ∧ ((d10 + 1 ≤ R.frames ∧ 60 * (d10 + 1) + 200 ≤ R.locals) ∧ ((kc + m3) + m8) + m10 ≤ R.cells ∧ ((ks + n3) + n8) + n10 ≤ R.slots) ∧ (∀ v h10, P10 v h10 → ∃ v12, v = some (.int v12) ∧ ((v12 = v5 → ((¬ v5 = 0 → VV g p e R s m args below meth c 7 Q ((((kc + m3) + m8) + m10)) ((((ks + n3) + n8) + n10)) 1791 [some (.retAddr 100), some (.ref l1), some (.ref l2), some (.ref l3), some (.int l4), none, none] [] h10) ∧ (v5 = 0 → (∃ v13, aJ h10 l3 ((0 : Int32)) = some v13 ∧ (((lg_cmp v13 ((Int32.toInt64 v10))) = 0 → VV g p e R s m args below meth c 7 Q ((((kc + m3) + m8) + m10)) ((((ks + n3) + n8) + n10)) 1791 [some (.retAddr 100), some (.ref l1), some (.ref l2), some (.ref l3), some (.int l4), none, none] [] h10) ∧ (¬ (lg_cmp v13 ((Int32.toInt64 v10))) = 0 → VV g p e R s m args below meth c 7 Q ((((kc + m3) + m8) + m10)) ((((ks + n3) + n8) + n10)) 1790 [none, none, none, none, none, none, none] [.int ((0 : Int32))] h10)))))) ∧ (¬ v12 = v5 → VV g p e R s m args below meth c 7 Q ((((kc + m3) + m8) + m10)) ((((ks + n3) + n8) + n10)) 1773 [none, none, none, none, none, none, none] [.int ((0 : Int32))] h10))))))))))))))))) : VV g p e R s m args below meth c 7 Q kc ks 1714 [some (.retAddr 100), some (.ref l1), some (.ref l2), some (.ref l3), some (.int l4), none, none] [] h := by
  refine r_aload_n X dL_law_1714 rfl ?_
  refine r_aload_nR X dL_law_1715 rfl ?_
  refine r_iload X dL_law_1716 rfl ?_
  refine r_iconst X dL_law_1718 (v := 1) (by decide) ?_
  refine r_iadd X dL_law_1719 ?_
  obtain ⟨k1, ek1, ik1, w⟩ := w
  refine r_sld X dL_law_1720 hX ek1 ik1 ?_
  refine r_aload_nR X dL_law_1721 rfl ?_
  refine r_iload X dL_law_1722 rfl ?_
  refine r_iconst X dL_law_1724 (v := 2) (by decide) ?_
  refine r_iadd X dL_law_1725 ?_
  obtain ⟨k2, ek2, ik2, w⟩ := w
  refine r_sld X dL_law_1726 hX ek2 ik2 ?_
  refine r_aload_nR X dL_law_1727 rfl ?_
  refine r_iload X dL_law_1728 rfl ?_
  refine r_iconst X dL_law_1730 (v := 3) (by decide) ?_
  refine r_iadd X dL_law_1731 ?_
  obtain ⟨k3, ek3, ik3, w⟩ := w
  refine r_sld X dL_law_1732 hX ek3 ik3 ?_
  refine r_aload_n X dL_law_1733 rfl ?_
  obtain ⟨d3, P3, m3, n3, ct3, w⟩ := w
  obtain ⟨⟨x1, x2⟩, w⟩ := w
  refine r_callSH X (As := [.ref l1, .int ((xs k1)), .int ((xs k2)), .int ((xs k3)), .ref l3]) dL_law_1734 mh_L_see ⟨ml_L_210, sm_L_see⟩ rfl rfl (by simp [Value.category]) x1 x2 ct3 (fun v h3 w1 => ?_)
  have w := w v h3 w1
  obtain ⟨v5, rfl, w⟩ := w
  refine r_istore X dL_law_1737 (by decide) rfl ?_
  refine r_aload_n X dL_law_1739 rfl ?_
  refine r_aload_nR X dL_law_1740 rfl ?_
  refine r_iload X dL_law_1741 rfl ?_
  refine r_iconst X dL_law_1743 (v := 1) (by decide) ?_
  refine r_iadd X dL_law_1744 ?_
  obtain ⟨k6, ek6, ik6, w⟩ := w
  refine r_sld X dL_law_1745 hX ek6 ik6 ?_
  refine r_aload_nR X dL_law_1746 rfl ?_
  refine r_iload X dL_law_1747 rfl ?_
  refine r_iconst X dL_law_1749 (v := 2) (by decide) ?_
  refine r_iadd X dL_law_1750 ?_
  obtain ⟨k7, ek7, ik7, w⟩ := w
  refine r_sld X dL_law_1751 hX ek7 ik7 ?_
  refine r_aload_nR X dL_law_1752 rfl ?_
  refine r_iload X dL_law_1753 rfl ?_
  refine r_iconst X dL_law_1755 (v := 3) (by decide) ?_
  refine r_iadd X dL_law_1756 ?_
  obtain ⟨k8, ek8, ik8, w⟩ := w
  refine r_sld X dL_law_1757 hX ek8 ik8 ?_
  obtain ⟨fs8, es8, w⟩ := w
  obtain ⟨d8, P8, m8, n8, ct8, w⟩ := w
  obtain ⟨⟨x1, x2⟩, w⟩ := w
  refine r_callVC X (As := [.int ((xs k6)), .int ((xs k7)), .int ((xs k8))]) dL_law_1758 mk_X12_see ⟨ml_L_212, im_X12_see, se_X12_see⟩ (oF_s es8) (ci_X12).1 rfl rfl rfl (by simp [Value.category]) x1 x2 ct8 (fun _ _ z => z.elim) (fun v h8 w1 => ?_)
  have w := w v h8 w1
  obtain ⟨v10, rfl, w⟩ := w
  refine r_istore X dL_law_1761 (by decide) rfl ?_
  refine r_aload_n X dL_law_1763 rfl ?_
  obtain ⟨fs10, es10, w⟩ := w
  obtain ⟨d10, P10, m10, n10, ct10, w⟩ := w
  obtain ⟨⟨x1, x2⟩, w⟩ := w
  refine r_callVC X (As := []) dL_law_1764 mk_X12_thrown ⟨ml_L_127, im_X12_thrown, se_X12_thrown⟩ (oF_s es10) (ci_X12).1 rfl rfl rfl (by simp [Value.category]) x1 x2 ct10 (fun _ _ z => z.elim) (fun v h10 w1 => ?_)
  have w := w v h10 w1
  obtain ⟨v12, rfl, w⟩ := w
  refine r_iload X dL_law_1767 rfl ?_
  refine r_icmp_eq X dL_law_1769 (tgt := 1774) (by decide) (fun q => ?_) (fun q => ?_)
  · have w := w.1 q
    refine r_iload X dL_law_1774 rfl ?_
    refine r_if_ne X dL_law_1776 (tgt := 1791) (by decide) (fun q => ?_) (fun q => ?_)
    · have w := w.1 q
      refine VV_wk (ls' := [some (.retAddr 100), some (.ref l1), some (.ref l2), some (.ref l3), some (.int l4), none, none]) ?_ w
      exact (And.intro rfl (And.intro rfl (And.intro rfl (And.intro rfl (And.intro rfl trivial)))))
    · have w := w.2 q
      refine r_aload_n X dL_law_1779 rfl ?_
      refine r_iconst X dL_law_1780 (v := 0) (by decide) ?_
      obtain ⟨v13, ev13, w⟩ := w
      obtain ⟨nv13, fv13, cv13, iv13, qv13⟩ := aJ_s ev13
      refine r_lald X dL_law_1781 cv13 iv13 ?_
      rw [qv13]
      refine r_iload X dL_law_1782 rfl ?_
      refine r_i2l X dL_law_1784 ?_
      refine r_lcmp X dL_law_1785 ?_
      refine r_if_eq X dL_law_1786 (tgt := 1791) (by decide) (fun q => ?_) (fun q => ?_)
      · have w := w.1 q
        refine VV_wk (ls' := [some (.retAddr 100), some (.ref l1), some (.ref l2), some (.ref l3), some (.int l4), none, none]) ?_ w
        exact (And.intro rfl (And.intro rfl (And.intro rfl (And.intro rfl (And.intro rfl trivial)))))
      · have w := w.2 q
        refine r_iconst X dL_law_1789 (v := 0) (by decide) ?_
        exact VV_wk (ls' := [none, none, none, none, none, none, none]) trivial w
  · have w := w.2 q
    refine r_iconst X dL_law_1772 (v := 0) (by decide) ?_
    exact VV_wk (ls' := [none, none, none, none, none, none, none]) trivial w

set_option maxRecDepth 10000 in
theorem b_L_law_1791 {g : GG} {p : Program} {e : Env} {R : Room} {s : State} {m : MethodId} {args : Array Value} {below : List Frame} {meth : Method} {c : Code} {Q : State → Prop} {xt : List ExceptionTableEntry} {nm : String} {L : Nat} {xs : Nat → Int32} {kc ks : Nat} (hX : SX g L xs) (X : CX g p s m args meth c cL_law 7 ⟨RL, nm, "([I)Z"⟩ (some .boolean) xt) (l1 : Nat) (l2 : Nat) (l3 : Nat) (l4 : Int32) (h : Hp)
    (w : VV g p e R s m args below meth c 7 Q kc ks 2555 [some (.retAddr 100), some (.ref l1), some (.ref l2), some (.ref l3), some (.int l4), none, none] [] h) : VV g p e R s m args below meth c 7 Q kc ks 1791 [some (.retAddr 100), some (.ref l1), some (.ref l2), some (.ref l3), some (.int l4), none, none] [] h := by
  refine r_goto X dL_law_1791 (tgt := 2555) (by decide) ?_
  refine VV_wk (ls' := [some (.retAddr 100), some (.ref l1), some (.ref l2), some (.ref l3), some (.int l4), none, none]) ?_ w
  exact (And.intro rfl (And.intro rfl (And.intro rfl (And.intro rfl (And.intro rfl trivial)))))

set_option maxRecDepth 10000 in
theorem b_L_law_1794 {g : GG} {p : Program} {e : Env} {R : Room} {s : State} {m : MethodId} {args : Array Value} {below : List Frame} {meth : Method} {c : Code} {Q : State → Prop} {xt : List ExceptionTableEntry} {nm : String} {L : Nat} {xs : Nat → Int32} {kc ks : Nat} (hX : SX g L xs) (X : CX g p s m args meth c cL_law 7 ⟨RL, nm, "([I)Z"⟩ (some .boolean) xt) (l1 : Nat) (l2 : Nat) (l3 : Nat) (l4 : Int32) (h : Hp)
    (w : (∃ fs0, oF h l1 10 = some fs0 ∧ (∃ d0 P0 m0 n0, CT g d0 yX11_forget (wsC yX11_forget cX11_forget 1 none) [.ref l1] h m0 n0 P0 noT ∧ ((d0 + 1 ≤ R.frames ∧ 60 * (d0 + 1) + 200 ≤ R.locals) ∧ kc + m0 ≤ R.cells ∧ ks + n0 ≤ R.slots) ∧ (∀ v h0, P0 v h0 → v = none ∧ (∃ fs1, oF h0 l2 11 = some fs1 ∧ (∃ d1 P1 m1 n1, CT g d1 yX12_forget (wsC yX12_forget cX12_forget 1 none) [.ref l2] h0 m1 n1 P1 noT ∧ ((d1 + 1 ≤ R.frames ∧ 60 * (d1 + 1) + 200 ≤ R.locals) ∧ (kc + m0) + m1 ≤ R.cells ∧ (ks + n0) + n1 ≤ R.slots) ∧ (∀ v h1, P1 v h1 → v = none ∧ VV g p e R s m args below meth c 7 Q (((kc + m0) + m1)) (((ks + n0) + n1)) 2555 [some (.retAddr 100), some (.ref l1), some (.ref l2), some (.ref l3), some (.int l4), none, none] [] h1))))))) : VV g p e R s m args below meth c 7 Q kc ks 1794 [some (.retAddr 100), some (.ref l1), some (.ref l2), some (.ref l3), some (.int l4), none, none] [] h := by
  refine r_aload_n X dL_law_1794 rfl ?_
  obtain ⟨fs0, es0, w⟩ := w
  obtain ⟨d0, P0, m0, n0, ct0, w⟩ := w
  obtain ⟨⟨x1, x2⟩, w⟩ := w
  refine r_callVC X (As := []) dL_law_1795 mk_X11_forget ⟨ml_L_213, im_X11_forget, se_X11_forget⟩ (oF_s es0) (ci_X11).1 rfl rfl rfl (by simp [Value.category]) x1 x2 ct0 (fun _ _ z => z.elim) (fun v h0 w1 => ?_)
  have w := w v h0 w1
  obtain ⟨rfl, w⟩ := w
  refine r_aload_n X dL_law_1798 rfl ?_
  obtain ⟨fs1, es1, w⟩ := w
  obtain ⟨d1, P1, m1, n1, ct1, w⟩ := w
  obtain ⟨⟨x1, x2⟩, w⟩ := w
  refine r_callVC X (As := []) dL_law_1799 mk_X12_forget ⟨ml_L_216, im_X12_forget, se_X12_forget⟩ (oF_s es1) (ci_X12).1 rfl rfl rfl (by simp [Value.category]) x1 x2 ct1 (fun _ _ z => z.elim) (fun v h1 w1 => ?_)
  have w := w v h1 w1
  obtain ⟨rfl, w⟩ := w
  refine r_goto X dL_law_1802 (tgt := 2555) (by decide) ?_
  refine VV_wk (ls' := [some (.retAddr 100), some (.ref l1), some (.ref l2), some (.ref l3), some (.int l4), none, none]) ?_ w
  exact (And.intro rfl (And.intro rfl (And.intro rfl (And.intro rfl (And.intro rfl trivial)))))

set_option maxRecDepth 10000 in
theorem b_L_law_1805 {g : GG} {p : Program} {e : Env} {R : Room} {s : State} {m : MethodId} {args : Array Value} {below : List Frame} {meth : Method} {c : Code} {Q : State → Prop} {xt : List ExceptionTableEntry} {nm : String} {L : Nat} {xs : Nat → Int32} {kc ks : Nat} (hX : SX g L xs) (X : CX g p s m args meth c cL_law 7 ⟨RL, nm, "([I)Z"⟩ (some .boolean) xt) (l1 : Nat) (l2 : Nat) (l3 : Nat) (l4 : Int32) (h : Hp)
    (w : (∃ k1, (l4 + (1 : Int32)) = nI k1 ∧ k1 < L ∧ (∃ d1 P1 m1 n1, CT g d1 yL_torn (wsH yL_torn cL_torn 4 (some .int) [(0, 9, 12, 18)]) [.ref l1, .int ((xs k1)), .ref l3] h m1 n1 P1 noT ∧ ((d1 + 1 ≤ R.frames ∧ 60 * (d1 + 1) + 200 ≤ R.locals) ∧ kc + m1 ≤ R.cells ∧ ks + n1 ≤ R.slots) ∧ (∀ v h1, P1 v h1 → ∃ v3, v = some (.int v3) ∧ (∃ k4, (l4 + (1 : Int32)) = nI k4 ∧ k4 < L ∧ (∃ fs4, oF h1 l2 11 = some fs4 ∧ (∃ d4 P4 m4 n4, CT g d4 yX12_torn (wsC yX12_torn cX12_torn 5 (some (.int))) [.ref l2, .int ((xs k4))] h1 m4 n4 P4 noT ∧ ((d4 + 1 ≤ R.frames ∧ 60 * (d4 + 1) + 200 ≤ R.locals) ∧ (kc + m1) + m4 ≤ R.cells ∧ (ks + n1) + n4 ≤ R.slots) ∧ (∀ v h4, P4 v h4 → ∃ v6, v = some (.int v6) ∧ (∃ fs6, oF h4 l2 11 = some fs6 ∧ (∃ d6 P6 m6 n6, CT g d6 yX12_thrown (wsC yX12_thrown cX12_thrown 1 (some (.int))) [.ref l2] h4 m6 n6 P6 noT ∧ ((d6 + 1 ≤ R.frames ∧ 60 * (d6 + 1) + 200 ≤ R.locals) ∧ ((kc + m1) + m4) + m6 ≤ R.cells ∧ ((ks + n1) + n4) + n6 ≤ R.slots) ∧ (∀ v h6, P6 v h6 → ∃ v8, v = some (.int v8) ∧ ((v8 = v3 → ((¬ v3 = 0 → VV g p e R s m args below meth c 7 Q ((((kc + m1) + m4) + m6)) ((((ks + n1) + n4) + n6)) 1858 [some (.retAddr 100), some (.ref l1), some (.ref l2), some (.ref l3), some (.int l4), none, none] [] h6) ∧ (v3 = 0 → (∃ v9, aJ h6 l3 ((0 : Int32)) = some v9 ∧ (((lg_cmp v9 ((Int32.toInt64 v6))) = 0 → VV g p e R s m args below meth c 7 Q ((((kc + m1) + m4) + m6)) ((((ks + n1) + n4) + n6)) 1858 [some (.retAddr 100), some (.ref l1), some (.ref l2), some (.ref l3), some (.int l4), none, none] [] h6) ∧ (¬ (lg_cmp v9 ((Int32.toInt64 v6))) = 0 → VV g p e R s m args below meth c 7 Q ((((kc + m1) + m4) + m6)) ((((ks + n1) + n4) + n6)) 1857 [none, none, none, none, none, none, none] [.int ((0 : Int32))] h6)))))) ∧ (¬ v8 = v3 → VV g p e R s m args below meth c 7 Q ((((kc + m1) + m4) + m6)) ((((ks + n1) + n4) + n6)) 1840 [none, none, none, none, none, none, none] [.int ((0 : Int32))] h6))))))))))))) : VV g p e R s m args below meth c 7 Q kc ks 1805 [some (.retAddr 100), some (.ref l1), some (.ref l2), some (.ref l3), some (.int l4), none, none] [] h := by
  refine r_aload_n X dL_law_1805 rfl ?_
  refine r_aload_nR X dL_law_1806 rfl ?_
  refine r_iload X dL_law_1807 rfl ?_
  refine r_iconst X dL_law_1809 (v := 1) (by decide) ?_
  refine r_iadd X dL_law_1810 ?_
  obtain ⟨k1, ek1, ik1, w⟩ := w
  refine r_sld X dL_law_1811 hX ek1 ik1 ?_
  refine r_aload_n X dL_law_1812 rfl ?_
  obtain ⟨d1, P1, m1, n1, ct1, w⟩ := w
  obtain ⟨⟨x1, x2⟩, w⟩ := w
  refine r_callSH X (As := [.ref l1, .int ((xs k1)), .ref l3]) dL_law_1813 mh_L_torn ⟨ml_L_217, sm_L_torn⟩ rfl rfl (by simp [Value.category]) x1 x2 ct1 (fun v h1 w1 => ?_)
  have w := w v h1 w1
  obtain ⟨v3, rfl, w⟩ := w
  refine r_istore X dL_law_1816 (by decide) rfl ?_
  refine r_aload_n X dL_law_1818 rfl ?_
  refine r_aload_nR X dL_law_1819 rfl ?_
  refine r_iload X dL_law_1820 rfl ?_
  refine r_iconst X dL_law_1822 (v := 1) (by decide) ?_
  refine r_iadd X dL_law_1823 ?_
  obtain ⟨k4, ek4, ik4, w⟩ := w
  refine r_sld X dL_law_1824 hX ek4 ik4 ?_
  obtain ⟨fs4, es4, w⟩ := w
  obtain ⟨d4, P4, m4, n4, ct4, w⟩ := w
  obtain ⟨⟨x1, x2⟩, w⟩ := w
  refine r_callVC X (As := [.int ((xs k4))]) dL_law_1825 mk_X12_torn ⟨ml_L_219, im_X12_torn, se_X12_torn⟩ (oF_s es4) (ci_X12).1 rfl rfl rfl (by simp [Value.category]) x1 x2 ct4 (fun _ _ z => z.elim) (fun v h4 w1 => ?_)
  have w := w v h4 w1
  obtain ⟨v6, rfl, w⟩ := w
  refine r_istore X dL_law_1828 (by decide) rfl ?_
  refine r_aload_n X dL_law_1830 rfl ?_
  obtain ⟨fs6, es6, w⟩ := w
  obtain ⟨d6, P6, m6, n6, ct6, w⟩ := w
  obtain ⟨⟨x1, x2⟩, w⟩ := w
  refine r_callVC X (As := []) dL_law_1831 mk_X12_thrown ⟨ml_L_127, im_X12_thrown, se_X12_thrown⟩ (oF_s es6) (ci_X12).1 rfl rfl rfl (by simp [Value.category]) x1 x2 ct6 (fun _ _ z => z.elim) (fun v h6 w1 => ?_)
  have w := w v h6 w1
  obtain ⟨v8, rfl, w⟩ := w
  refine r_iload X dL_law_1834 rfl ?_
  refine r_icmp_eq X dL_law_1836 (tgt := 1841) (by decide) (fun q => ?_) (fun q => ?_)
  · have w := w.1 q
    refine r_iload X dL_law_1841 rfl ?_
    refine r_if_ne X dL_law_1843 (tgt := 1858) (by decide) (fun q => ?_) (fun q => ?_)
    · have w := w.1 q
      refine VV_wk (ls' := [some (.retAddr 100), some (.ref l1), some (.ref l2), some (.ref l3), some (.int l4), none, none]) ?_ w
      exact (And.intro rfl (And.intro rfl (And.intro rfl (And.intro rfl (And.intro rfl trivial)))))
    · have w := w.2 q
      refine r_aload_n X dL_law_1846 rfl ?_
      refine r_iconst X dL_law_1847 (v := 0) (by decide) ?_
      obtain ⟨v9, ev9, w⟩ := w
      obtain ⟨nv9, fv9, cv9, iv9, qv9⟩ := aJ_s ev9
      refine r_lald X dL_law_1848 cv9 iv9 ?_
      rw [qv9]
      refine r_iload X dL_law_1849 rfl ?_
      refine r_i2l X dL_law_1851 ?_
      refine r_lcmp X dL_law_1852 ?_
      refine r_if_eq X dL_law_1853 (tgt := 1858) (by decide) (fun q => ?_) (fun q => ?_)
      · have w := w.1 q
        refine VV_wk (ls' := [some (.retAddr 100), some (.ref l1), some (.ref l2), some (.ref l3), some (.int l4), none, none]) ?_ w
        exact (And.intro rfl (And.intro rfl (And.intro rfl (And.intro rfl (And.intro rfl trivial)))))
      · have w := w.2 q
        refine r_iconst X dL_law_1856 (v := 0) (by decide) ?_
        exact VV_wk (ls' := [none, none, none, none, none, none, none]) trivial w
  · have w := w.2 q
    refine r_iconst X dL_law_1839 (v := 0) (by decide) ?_
    exact VV_wk (ls' := [none, none, none, none, none, none, none]) trivial w

set_option maxRecDepth 10000 in
theorem b_L_law_1858 {g : GG} {p : Program} {e : Env} {R : Room} {s : State} {m : MethodId} {args : Array Value} {below : List Frame} {meth : Method} {c : Code} {Q : State → Prop} {xt : List ExceptionTableEntry} {nm : String} {L : Nat} {xs : Nat → Int32} {kc ks : Nat} (hX : SX g L xs) (X : CX g p s m args meth c cL_law 7 ⟨RL, nm, "([I)Z"⟩ (some .boolean) xt) (l1 : Nat) (l2 : Nat) (l3 : Nat) (l4 : Int32) (h : Hp)
    (w : VV g p e R s m args below meth c 7 Q kc ks 2555 [some (.retAddr 100), some (.ref l1), some (.ref l2), some (.ref l3), some (.int l4), none, none] [] h) : VV g p e R s m args below meth c 7 Q kc ks 1858 [some (.retAddr 100), some (.ref l1), some (.ref l2), some (.ref l3), some (.int l4), none, none] [] h := by
  refine r_goto X dL_law_1858 (tgt := 2555) (by decide) ?_
  refine VV_wk (ls' := [some (.retAddr 100), some (.ref l1), some (.ref l2), some (.ref l3), some (.int l4), none, none]) ?_ w
  exact (And.intro rfl (And.intro rfl (And.intro rfl (And.intro rfl (And.intro rfl trivial)))))

set_option maxRecDepth 10000 in
theorem b_L_law_1861 {g : GG} {p : Program} {e : Env} {R : Room} {s : State} {m : MethodId} {args : Array Value} {below : List Frame} {meth : Method} {c : Code} {Q : State → Prop} {xt : List ExceptionTableEntry} {nm : String} {L : Nat} {xs : Nat → Int32} {kc ks : Nat} (hX : SX g L xs) (X : CX g p s m args meth c cL_law 7 ⟨RL, nm, "([I)Z"⟩ (some .boolean) xt) (l1 : Nat) (l2 : Nat) (l3 : Nat) (l4 : Int32) (h : Hp)
    (w : (∃ k1, (l4 + (1 : Int32)) = nI k1 ∧ k1 < L ∧ (∃ d1 P1 m1 n1, CT g d1 yL_look (wsH yL_look cL_look 4 (some .int) [(0, 9, 12, 18)]) [.ref l1, .int ((xs k1)), .ref l3] h m1 n1 P1 noT ∧ ((d1 + 1 ≤ R.frames ∧ 60 * (d1 + 1) + 200 ≤ R.locals) ∧ kc + m1 ≤ R.cells ∧ ks + n1 ≤ R.slots) ∧ (∀ v h1, P1 v h1 → ∃ v3, v = some (.int v3) ∧ (∃ k4, (l4 + (1 : Int32)) = nI k4 ∧ k4 < L ∧ (∃ fs4, oF h1 l2 11 = some fs4 ∧ (∃ d4 P4 m4 n4, CT g d4 yX12_look (wsC yX12_look cX12_look 10 (some (.int))) [.ref l2, .int ((xs k4))] h1 m4 n4 P4 noT ∧ ((d4 + 1 ≤ R.frames ∧ 60 * (d4 + 1) + 200 ≤ R.locals) ∧ (kc + m1) + m4 ≤ R.cells ∧ (ks + n1) + n4 ≤ R.slots) ∧ (∀ v h4, P4 v h4 → ∃ v6, v = some (.int v6) ∧ (∃ fs6, oF h4 l2 11 = some fs6 ∧ (∃ d6 P6 m6 n6, CT g d6 yX12_thrown (wsC yX12_thrown cX12_thrown 1 (some (.int))) [.ref l2] h4 m6 n6 P6 noT ∧ ((d6 + 1 ≤ R.frames ∧ 60 * (d6 + 1) + 200 ≤ R.locals) ∧ ((kc + m1) + m4) + m6 ≤ R.cells ∧ ((ks + n1) + n4) + n6 ≤ R.slots) ∧ (∀ v h6, P6 v h6 → ∃ v8, v = some (.int v8) ∧ ((v8 = v3 → ((¬ v3 = 0 → VV g p e R s m args below meth c 7 Q ((((kc + m1) + m4) + m6)) ((((ks + n1) + n4) + n6)) 1914 [some (.retAddr 100), some (.ref l1), some (.ref l2), some (.ref l3), some (.int l4), none, none] [] h6) ∧ (v3 = 0 → (∃ v9, aJ h6 l3 ((0 : Int32)) = some v9 ∧ (((lg_cmp v9 ((Int32.toInt64 v6))) = 0 → VV g p e R s m args below meth c 7 Q ((((kc + m1) + m4) + m6)) ((((ks + n1) + n4) + n6)) 1914 [some (.retAddr 100), some (.ref l1), some (.ref l2), some (.ref l3), some (.int l4), none, none] [] h6) ∧ (¬ (lg_cmp v9 ((Int32.toInt64 v6))) = 0 → VV g p e R s m args below meth c 7 Q ((((kc + m1) + m4) + m6)) ((((ks + n1) + n4) + n6)) 1913 [none, none, none, none, none, none, none] [.int ((0 : Int32))] h6)))))) ∧ (¬ v8 = v3 → VV g p e R s m args below meth c 7 Q ((((kc + m1) + m4) + m6)) ((((ks + n1) + n4) + n6)) 1896 [none, none, none, none, none, none, none] [.int ((0 : Int32))] h6))))))))))))) : VV g p e R s m args below meth c 7 Q kc ks 1861 [some (.retAddr 100), some (.ref l1), some (.ref l2), some (.ref l3), some (.int l4), none, none] [] h := by
  refine r_aload_n X dL_law_1861 rfl ?_
  refine r_aload_nR X dL_law_1862 rfl ?_
  refine r_iload X dL_law_1863 rfl ?_
  refine r_iconst X dL_law_1865 (v := 1) (by decide) ?_
  refine r_iadd X dL_law_1866 ?_
  obtain ⟨k1, ek1, ik1, w⟩ := w
  refine r_sld X dL_law_1867 hX ek1 ik1 ?_
  refine r_aload_n X dL_law_1868 rfl ?_
  obtain ⟨d1, P1, m1, n1, ct1, w⟩ := w
  obtain ⟨⟨x1, x2⟩, w⟩ := w
  refine r_callSH X (As := [.ref l1, .int ((xs k1)), .ref l3]) dL_law_1869 mh_L_look ⟨ml_L_220, sm_L_look⟩ rfl rfl (by simp [Value.category]) x1 x2 ct1 (fun v h1 w1 => ?_)
  have w := w v h1 w1
  obtain ⟨v3, rfl, w⟩ := w
  refine r_istore X dL_law_1872 (by decide) rfl ?_
  refine r_aload_n X dL_law_1874 rfl ?_
  refine r_aload_nR X dL_law_1875 rfl ?_
  refine r_iload X dL_law_1876 rfl ?_
  refine r_iconst X dL_law_1878 (v := 1) (by decide) ?_
  refine r_iadd X dL_law_1879 ?_
  obtain ⟨k4, ek4, ik4, w⟩ := w
  refine r_sld X dL_law_1880 hX ek4 ik4 ?_
  obtain ⟨fs4, es4, w⟩ := w
  obtain ⟨d4, P4, m4, n4, ct4, w⟩ := w
  obtain ⟨⟨x1, x2⟩, w⟩ := w
  refine r_callVC X (As := [.int ((xs k4))]) dL_law_1881 mk_X12_look ⟨ml_L_222, im_X12_look, se_X12_look⟩ (oF_s es4) (ci_X12).1 rfl rfl rfl (by simp [Value.category]) x1 x2 ct4 (fun _ _ z => z.elim) (fun v h4 w1 => ?_)
  have w := w v h4 w1
  obtain ⟨v6, rfl, w⟩ := w
  refine r_istore X dL_law_1884 (by decide) rfl ?_
  refine r_aload_n X dL_law_1886 rfl ?_
  obtain ⟨fs6, es6, w⟩ := w
  obtain ⟨d6, P6, m6, n6, ct6, w⟩ := w
  obtain ⟨⟨x1, x2⟩, w⟩ := w
  refine r_callVC X (As := []) dL_law_1887 mk_X12_thrown ⟨ml_L_127, im_X12_thrown, se_X12_thrown⟩ (oF_s es6) (ci_X12).1 rfl rfl rfl (by simp [Value.category]) x1 x2 ct6 (fun _ _ z => z.elim) (fun v h6 w1 => ?_)
  have w := w v h6 w1
  obtain ⟨v8, rfl, w⟩ := w
  refine r_iload X dL_law_1890 rfl ?_
  refine r_icmp_eq X dL_law_1892 (tgt := 1897) (by decide) (fun q => ?_) (fun q => ?_)
  · have w := w.1 q
    refine r_iload X dL_law_1897 rfl ?_
    refine r_if_ne X dL_law_1899 (tgt := 1914) (by decide) (fun q => ?_) (fun q => ?_)
    · have w := w.1 q
      refine VV_wk (ls' := [some (.retAddr 100), some (.ref l1), some (.ref l2), some (.ref l3), some (.int l4), none, none]) ?_ w
      exact (And.intro rfl (And.intro rfl (And.intro rfl (And.intro rfl (And.intro rfl trivial)))))
    · have w := w.2 q
      refine r_aload_n X dL_law_1902 rfl ?_
      refine r_iconst X dL_law_1903 (v := 0) (by decide) ?_
      obtain ⟨v9, ev9, w⟩ := w
      obtain ⟨nv9, fv9, cv9, iv9, qv9⟩ := aJ_s ev9
      refine r_lald X dL_law_1904 cv9 iv9 ?_
      rw [qv9]
      refine r_iload X dL_law_1905 rfl ?_
      refine r_i2l X dL_law_1907 ?_
      refine r_lcmp X dL_law_1908 ?_
      refine r_if_eq X dL_law_1909 (tgt := 1914) (by decide) (fun q => ?_) (fun q => ?_)
      · have w := w.1 q
        refine VV_wk (ls' := [some (.retAddr 100), some (.ref l1), some (.ref l2), some (.ref l3), some (.int l4), none, none]) ?_ w
        exact (And.intro rfl (And.intro rfl (And.intro rfl (And.intro rfl (And.intro rfl trivial)))))
      · have w := w.2 q
        refine r_iconst X dL_law_1912 (v := 0) (by decide) ?_
        exact VV_wk (ls' := [none, none, none, none, none, none, none]) trivial w
  · have w := w.2 q
    refine r_iconst X dL_law_1895 (v := 0) (by decide) ?_
    exact VV_wk (ls' := [none, none, none, none, none, none, none]) trivial w

set_option maxRecDepth 10000 in
theorem b_L_law_1914 {g : GG} {p : Program} {e : Env} {R : Room} {s : State} {m : MethodId} {args : Array Value} {below : List Frame} {meth : Method} {c : Code} {Q : State → Prop} {xt : List ExceptionTableEntry} {nm : String} {L : Nat} {xs : Nat → Int32} {kc ks : Nat} (hX : SX g L xs) (X : CX g p s m args meth c cL_law 7 ⟨RL, nm, "([I)Z"⟩ (some .boolean) xt) (l1 : Nat) (l2 : Nat) (l3 : Nat) (l4 : Int32) (h : Hp)
    (w : VV g p e R s m args below meth c 7 Q kc ks 2555 [some (.retAddr 100), some (.ref l1), some (.ref l2), some (.ref l3), some (.int l4), none, none] [] h) : VV g p e R s m args below meth c 7 Q kc ks 1914 [some (.retAddr 100), some (.ref l1), some (.ref l2), some (.ref l3), some (.int l4), none, none] [] h := by
  refine r_goto X dL_law_1914 (tgt := 2555) (by decide) ?_
  refine VV_wk (ls' := [some (.retAddr 100), some (.ref l1), some (.ref l2), some (.ref l3), some (.int l4), none, none]) ?_ w
  exact (And.intro rfl (And.intro rfl (And.intro rfl (And.intro rfl (And.intro rfl trivial)))))

set_option maxRecDepth 10000 in
theorem b_L_law_1917 {g : GG} {p : Program} {e : Env} {R : Room} {s : State} {m : MethodId} {args : Array Value} {below : List Frame} {meth : Method} {c : Code} {Q : State → Prop} {xt : List ExceptionTableEntry} {nm : String} {L : Nat} {xs : Nat → Int32} {kc ks : Nat} (hX : SX g L xs) (X : CX g p s m args meth c cL_law 7 ⟨RL, nm, "([I)Z"⟩ (some .boolean) xt) (l1 : Nat) (l2 : Nat) (l3 : Nat) (l4 : Int32) (h : Hp)
    (w : (∃ k1, (l4 + (1 : Int32)) = nI k1 ∧ k1 < L ∧ (∃ k2, (l4 + (2 : Int32)) = nI k2 ∧ k2 < L ∧ (∃ d2 P2 m2 n2, CT g d2 yL_gales (wsH yL_gales cL_gales 5 (some .int) [(0, 10, 13, 13)]) [.ref l1, .int ((xs k1)), .int ((xs k2)), .ref l3] h m2 n2 P2 noT ∧ ((d2 + 1 ≤ R.frames ∧ 60 * (d2 + 1) + 200 ≤ R.locals) ∧ kc + m2 ≤ R.cells ∧ ks + n2 ≤ R.slots) ∧ (∀ v h2, P2 v h2 → ∃ v4, v = some (.int v4) ∧ (∃ k5, (l4 + (1 : Int32)) = nI k5 ∧ k5 < L ∧ (∃ k6, (l4 + (2 : Int32)) = nI k6 ∧ k6 < L ∧ (∃ fs6, oF h2 l2 11 = some fs6 ∧ (∃ d6 P6 m6 n6, CT g d6 yX12_gales (wsC yX12_gales cX12_gales 9 (some (.int))) [.ref l2, .int ((xs k5)), .int ((xs k6))] h2 m6 n6 P6 noT ∧ ((d6 + 1 ≤ R.frames ∧ 60 * (d6 + 1) + 200 ≤ R.locals) ∧ (kc + m2) + m6 ≤ R.cells ∧ (ks + n2) + n6 ≤ R.slots) ∧ (∀ v h6, P6 v h6 → ∃ v8, v = some (.int v8) ∧ (∃ fs8, oF h6 l2 11 = some fs8 ∧ (∃ d8 P8 m8 n8, CT g d8 yX12_thrown (wsC yX12_thrown cX12_thrown 1 (some (.int))) [.ref l2] h6 m8 n8 P8 noT ∧ ((d8 + 1 ≤ R.frames ∧ 60 * (d8 + 1) + 200 ≤ R.locals) ∧ ((kc + m2) + m6) + m8 ≤ R.cells ∧ ((ks + n2) + n6) + n8 ≤ R.slots) ∧ (∀ v h8, P8 v h8 → ∃ v10, v = some (.int v10) ∧ ((v10 = v4 → ((¬ v4 = 0 → VV g p e R s m args below meth c 7 Q ((((kc + m2) + m6) + m8)) ((((ks + n2) + n6) + n8)) 1982 [some (.retAddr 100), some (.ref l1), some (.ref l2), some (.ref l3), some (.int l4), none, none] [] h8) ∧ (v4 = 0 → (∃ v11, aJ h8 l3 ((0 : Int32)) = some v11 ∧ (((lg_cmp v11 ((Int32.toInt64 v8))) = 0 → VV g p e R s m args below meth c 7 Q ((((kc + m2) + m6) + m8)) ((((ks + n2) + n6) + n8)) 1982 [some (.retAddr 100), some (.ref l1), some (.ref l2), some (.ref l3), some (.int l4), none, none] [] h8) ∧ (¬ (lg_cmp v11 ((Int32.toInt64 v8))) = 0 → VV g p e R s m args below meth c 7 Q ((((kc + m2) + m6) + m8)) ((((ks + n2) + n6) + n8)) 1981 [none, none, none, none, none, none, none] [.int ((0 : Int32))] h8)))))) ∧ (¬ v10 = v4 → VV g p e R s m args below meth c 7 Q ((((kc + m2) + m6) + m8)) ((((ks + n2) + n6) + n8)) 1964 [none, none, none, none, none, none, none] [.int ((0 : Int32))] h8))))))))))))))) : VV g p e R s m args below meth c 7 Q kc ks 1917 [some (.retAddr 100), some (.ref l1), some (.ref l2), some (.ref l3), some (.int l4), none, none] [] h := by
  refine r_aload_n X dL_law_1917 rfl ?_
  refine r_aload_nR X dL_law_1918 rfl ?_
  refine r_iload X dL_law_1919 rfl ?_
  refine r_iconst X dL_law_1921 (v := 1) (by decide) ?_
  refine r_iadd X dL_law_1922 ?_
  obtain ⟨k1, ek1, ik1, w⟩ := w
  refine r_sld X dL_law_1923 hX ek1 ik1 ?_
  refine r_aload_nR X dL_law_1924 rfl ?_
  refine r_iload X dL_law_1925 rfl ?_
  refine r_iconst X dL_law_1927 (v := 2) (by decide) ?_
  refine r_iadd X dL_law_1928 ?_
  obtain ⟨k2, ek2, ik2, w⟩ := w
  refine r_sld X dL_law_1929 hX ek2 ik2 ?_
  refine r_aload_n X dL_law_1930 rfl ?_
  obtain ⟨d2, P2, m2, n2, ct2, w⟩ := w
  obtain ⟨⟨x1, x2⟩, w⟩ := w
  refine r_callSH X (As := [.ref l1, .int ((xs k1)), .int ((xs k2)), .ref l3]) dL_law_1931 mh_L_gales ⟨ml_L_223, sm_L_gales⟩ rfl rfl (by simp [Value.category]) x1 x2 ct2 (fun v h2 w1 => ?_)
  have w := w v h2 w1
  obtain ⟨v4, rfl, w⟩ := w
  refine r_istore X dL_law_1934 (by decide) rfl ?_
  refine r_aload_n X dL_law_1936 rfl ?_
  refine r_aload_nR X dL_law_1937 rfl ?_
  refine r_iload X dL_law_1938 rfl ?_
  refine r_iconst X dL_law_1940 (v := 1) (by decide) ?_
  refine r_iadd X dL_law_1941 ?_
  obtain ⟨k5, ek5, ik5, w⟩ := w
  refine r_sld X dL_law_1942 hX ek5 ik5 ?_
  refine r_aload_nR X dL_law_1943 rfl ?_
  refine r_iload X dL_law_1944 rfl ?_
  refine r_iconst X dL_law_1946 (v := 2) (by decide) ?_
  refine r_iadd X dL_law_1947 ?_
  obtain ⟨k6, ek6, ik6, w⟩ := w
  refine r_sld X dL_law_1948 hX ek6 ik6 ?_
  obtain ⟨fs6, es6, w⟩ := w
  obtain ⟨d6, P6, m6, n6, ct6, w⟩ := w
  obtain ⟨⟨x1, x2⟩, w⟩ := w
  refine r_callVC X (As := [.int ((xs k5)), .int ((xs k6))]) dL_law_1949 mk_X12_gales ⟨ml_L_225, im_X12_gales, se_X12_gales⟩ (oF_s es6) (ci_X12).1 rfl rfl rfl (by simp [Value.category]) x1 x2 ct6 (fun _ _ z => z.elim) (fun v h6 w1 => ?_)
  have w := w v h6 w1
  obtain ⟨v8, rfl, w⟩ := w
  refine r_istore X dL_law_1952 (by decide) rfl ?_
  refine r_aload_n X dL_law_1954 rfl ?_
  obtain ⟨fs8, es8, w⟩ := w
  obtain ⟨d8, P8, m8, n8, ct8, w⟩ := w
  obtain ⟨⟨x1, x2⟩, w⟩ := w
  refine r_callVC X (As := []) dL_law_1955 mk_X12_thrown ⟨ml_L_127, im_X12_thrown, se_X12_thrown⟩ (oF_s es8) (ci_X12).1 rfl rfl rfl (by simp [Value.category]) x1 x2 ct8 (fun _ _ z => z.elim) (fun v h8 w1 => ?_)
  have w := w v h8 w1
  obtain ⟨v10, rfl, w⟩ := w
  refine r_iload X dL_law_1958 rfl ?_
  refine r_icmp_eq X dL_law_1960 (tgt := 1965) (by decide) (fun q => ?_) (fun q => ?_)
  · have w := w.1 q
    refine r_iload X dL_law_1965 rfl ?_
    refine r_if_ne X dL_law_1967 (tgt := 1982) (by decide) (fun q => ?_) (fun q => ?_)
    · have w := w.1 q
      refine VV_wk (ls' := [some (.retAddr 100), some (.ref l1), some (.ref l2), some (.ref l3), some (.int l4), none, none]) ?_ w
      exact (And.intro rfl (And.intro rfl (And.intro rfl (And.intro rfl (And.intro rfl trivial)))))
    · have w := w.2 q
      refine r_aload_n X dL_law_1970 rfl ?_
      refine r_iconst X dL_law_1971 (v := 0) (by decide) ?_
      obtain ⟨v11, ev11, w⟩ := w
      obtain ⟨nv11, fv11, cv11, iv11, qv11⟩ := aJ_s ev11
      refine r_lald X dL_law_1972 cv11 iv11 ?_
      rw [qv11]
      refine r_iload X dL_law_1973 rfl ?_
      refine r_i2l X dL_law_1975 ?_
      refine r_lcmp X dL_law_1976 ?_
      refine r_if_eq X dL_law_1977 (tgt := 1982) (by decide) (fun q => ?_) (fun q => ?_)
      · have w := w.1 q
        refine VV_wk (ls' := [some (.retAddr 100), some (.ref l1), some (.ref l2), some (.ref l3), some (.int l4), none, none]) ?_ w
        exact (And.intro rfl (And.intro rfl (And.intro rfl (And.intro rfl (And.intro rfl trivial)))))
      · have w := w.2 q
        refine r_iconst X dL_law_1980 (v := 0) (by decide) ?_
        exact VV_wk (ls' := [none, none, none, none, none, none, none]) trivial w
  · have w := w.2 q
    refine r_iconst X dL_law_1963 (v := 0) (by decide) ?_
    exact VV_wk (ls' := [none, none, none, none, none, none, none]) trivial w

set_option maxRecDepth 10000 in
theorem b_L_law_1982 {g : GG} {p : Program} {e : Env} {R : Room} {s : State} {m : MethodId} {args : Array Value} {below : List Frame} {meth : Method} {c : Code} {Q : State → Prop} {xt : List ExceptionTableEntry} {nm : String} {L : Nat} {xs : Nat → Int32} {kc ks : Nat} (hX : SX g L xs) (X : CX g p s m args meth c cL_law 7 ⟨RL, nm, "([I)Z"⟩ (some .boolean) xt) (l1 : Nat) (l2 : Nat) (l3 : Nat) (l4 : Int32) (h : Hp)
    (w : VV g p e R s m args below meth c 7 Q kc ks 2555 [some (.retAddr 100), some (.ref l1), some (.ref l2), some (.ref l3), some (.int l4), none, none] [] h) : VV g p e R s m args below meth c 7 Q kc ks 1982 [some (.retAddr 100), some (.ref l1), some (.ref l2), some (.ref l3), some (.int l4), none, none] [] h := by
  refine r_goto X dL_law_1982 (tgt := 2555) (by decide) ?_
  refine VV_wk (ls' := [some (.retAddr 100), some (.ref l1), some (.ref l2), some (.ref l3), some (.int l4), none, none]) ?_ w
  exact (And.intro rfl (And.intro rfl (And.intro rfl (And.intro rfl (And.intro rfl trivial)))))

set_option maxRecDepth 10000 in
theorem b_L_law_1985 {g : GG} {p : Program} {e : Env} {R : Room} {s : State} {m : MethodId} {args : Array Value} {below : List Frame} {meth : Method} {c : Code} {Q : State → Prop} {xt : List ExceptionTableEntry} {nm : String} {L : Nat} {xs : Nat → Int32} {kc ks : Nat} (hX : SX g L xs) (X : CX g p s m args meth c cL_law 7 ⟨RL, nm, "([I)Z"⟩ (some .boolean) xt) (l1 : Nat) (l2 : Nat) (l3 : Nat) (l4 : Int32) (h : Hp)
    (w : (∃ k1, (l4 + (1 : Int32)) = nI k1 ∧ k1 < L ∧ (∃ k2, (l4 + (2 : Int32)) = nI k2 ∧ k2 < L ∧ (∃ k3, (l4 + (3 : Int32)) = nI k3 ∧ k3 < L ∧ (∃ d3 P3 m3 n3, CT g d3 yL_game (wsH yL_game cL_game 6 (some .int) [(0, 12, 15, 18), (0, 12, 19, 13)]) [.ref l1, .int ((xs k1)), .int ((xs k2)), .int ((xs k3)), .ref l3] h m3 n3 P3 noT ∧ ((d3 + 1 ≤ R.frames ∧ 60 * (d3 + 1) + 200 ≤ R.locals) ∧ kc + m3 ≤ R.cells ∧ ks + n3 ≤ R.slots) ∧ (∀ v h3, P3 v h3 → ∃ v5, v = some (.int v5) ∧ (∃ k6, (l4 + (1 : Int32)) = nI k6 ∧ k6 < L ∧ (∃ k7, (l4 + (2 : Int32)) = nI k7 ∧ k7 < L ∧ (∃ k8, (l4 + (3 : Int32)) = nI k8 ∧ k8 < L ∧ (∃ fs8, oF h3 l2 11 = some fs8 ∧ (∃ d8 P8 m8 n8, CT g d8 yX12_game (wsC yX12_game cX12_game 9 (some (.int))) [.ref l2, .int ((xs k6)), .int ((xs k7)), .int ((xs k8))] h3 m8 n8 P8 noT ∧ ((d8 + 1 ≤ R.frames ∧ 60 * (d8 + 1) + 200 ≤ R.locals) ∧ (kc + m3) + m8 ≤ R.cells ∧ (ks + n3) + n8 ≤ R.slots) ∧ (∀ v h8, P8 v h8 → ∃ v10, v = some (.int v10) ∧ (∃ fs10, oF h8 l2 11 = some fs10 ∧ (∃ d10 P10 m10 n10, CT g d10 yX12_thrown (wsC yX12_thrown cX12_thrown 1 (some (.int))) [.ref l2] h8 m10 n10 P10 noT ∧ ((d10 + 1 ≤ R.frames ∧ 60 * (d10 + 1) + 200 ≤ R.locals) ∧ ((kc + m3) + m8) + m10 ≤ R.cells ∧ ((ks + n3) + n8) + n10 ≤ R.slots) ∧ (∀ v h10, P10 v h10 → ∃ v12, v = some (.int v12) ∧ ((v12 = v5 → ((¬ v5 = 0 → VV g p e R s m args below meth c 7 Q ((((kc + m3) + m8) + m10)) ((((ks + n3) + n8) + n10)) 2062 [some (.retAddr 100), some (.ref l1), some (.ref l2), some (.ref l3), some (.int l4), none, none] [] h10) ∧ (v5 = 0 → (∃ v13, aJ h10 l3 ((0 : Int32)) = some v13 ∧ (((lg_cmp v13 ((Int32.toInt64 v10))) = 0 → VV g p e R s m args below meth c 7 Q ((((kc + m3) + m8) + m10)) ((((ks + n3) + n8) + n10)) 2062 [some (.retAddr 100), some (.ref l1), some (.ref l2), some (.ref l3), some (.int l4), none, none] [] h10) ∧ (¬ (lg_cmp v13 ((Int32.toInt64 v10))) = 0 → VV g p e R s m args below meth c 7 Q ((((kc + m3) + m8) + m10)) ((((ks + n3) + n8) + n10)) 2061 [none, none, none, none, none, none, none] [.int ((0 : Int32))] h10)))))) ∧ (¬ v12 = v5 → VV g p e R s m args below meth c 7 Q ((((kc + m3) + m8) + m10)) ((((ks + n3) + n8) + n10)) 2044 [none, none, none, none, none, none, none] [.int ((0 : Int32))] h10))))))))))))))))) : VV g p e R s m args below meth c 7 Q kc ks 1985 [some (.retAddr 100), some (.ref l1), some (.ref l2), some (.ref l3), some (.int l4), none, none] [] h := by
  refine r_aload_n X dL_law_1985 rfl ?_
  refine r_aload_nR X dL_law_1986 rfl ?_
  refine r_iload X dL_law_1987 rfl ?_
  refine r_iconst X dL_law_1989 (v := 1) (by decide) ?_
  refine r_iadd X dL_law_1990 ?_
  obtain ⟨k1, ek1, ik1, w⟩ := w
  refine r_sld X dL_law_1991 hX ek1 ik1 ?_
  refine r_aload_nR X dL_law_1992 rfl ?_
  refine r_iload X dL_law_1993 rfl ?_
  refine r_iconst X dL_law_1995 (v := 2) (by decide) ?_
  refine r_iadd X dL_law_1996 ?_
  obtain ⟨k2, ek2, ik2, w⟩ := w
  refine r_sld X dL_law_1997 hX ek2 ik2 ?_
  refine r_aload_nR X dL_law_1998 rfl ?_
  refine r_iload X dL_law_1999 rfl ?_
  refine r_iconst X dL_law_2001 (v := 3) (by decide) ?_
  refine r_iadd X dL_law_2002 ?_
  obtain ⟨k3, ek3, ik3, w⟩ := w
  refine r_sld X dL_law_2003 hX ek3 ik3 ?_
  refine r_aload_n X dL_law_2004 rfl ?_
  obtain ⟨d3, P3, m3, n3, ct3, w⟩ := w
  obtain ⟨⟨x1, x2⟩, w⟩ := w
  refine r_callSH X (As := [.ref l1, .int ((xs k1)), .int ((xs k2)), .int ((xs k3)), .ref l3]) dL_law_2005 mh_L_game ⟨ml_L_226, sm_L_game⟩ rfl rfl (by simp [Value.category]) x1 x2 ct3 (fun v h3 w1 => ?_)
  have w := w v h3 w1
  obtain ⟨v5, rfl, w⟩ := w
  refine r_istore X dL_law_2008 (by decide) rfl ?_
  refine r_aload_n X dL_law_2010 rfl ?_
  refine r_aload_nR X dL_law_2011 rfl ?_
  refine r_iload X dL_law_2012 rfl ?_
  refine r_iconst X dL_law_2014 (v := 1) (by decide) ?_
  refine r_iadd X dL_law_2015 ?_
  obtain ⟨k6, ek6, ik6, w⟩ := w
  refine r_sld X dL_law_2016 hX ek6 ik6 ?_
  refine r_aload_nR X dL_law_2017 rfl ?_
  refine r_iload X dL_law_2018 rfl ?_
  refine r_iconst X dL_law_2020 (v := 2) (by decide) ?_
  refine r_iadd X dL_law_2021 ?_
  obtain ⟨k7, ek7, ik7, w⟩ := w
  refine r_sld X dL_law_2022 hX ek7 ik7 ?_
  refine r_aload_nR X dL_law_2023 rfl ?_
  refine r_iload X dL_law_2024 rfl ?_
  refine r_iconst X dL_law_2026 (v := 3) (by decide) ?_
  refine r_iadd X dL_law_2027 ?_
  obtain ⟨k8, ek8, ik8, w⟩ := w
  refine r_sld X dL_law_2028 hX ek8 ik8 ?_
  obtain ⟨fs8, es8, w⟩ := w
  obtain ⟨d8, P8, m8, n8, ct8, w⟩ := w
  obtain ⟨⟨x1, x2⟩, w⟩ := w
  refine r_callVC X (As := [.int ((xs k6)), .int ((xs k7)), .int ((xs k8))]) dL_law_2029 mk_X12_game ⟨ml_L_228, im_X12_game, se_X12_game⟩ (oF_s es8) (ci_X12).1 rfl rfl rfl (by simp [Value.category]) x1 x2 ct8 (fun _ _ z => z.elim) (fun v h8 w1 => ?_)
  have w := w v h8 w1
  obtain ⟨v10, rfl, w⟩ := w
  refine r_istore X dL_law_2032 (by decide) rfl ?_
  refine r_aload_n X dL_law_2034 rfl ?_
  obtain ⟨fs10, es10, w⟩ := w
  obtain ⟨d10, P10, m10, n10, ct10, w⟩ := w
  obtain ⟨⟨x1, x2⟩, w⟩ := w
  refine r_callVC X (As := []) dL_law_2035 mk_X12_thrown ⟨ml_L_127, im_X12_thrown, se_X12_thrown⟩ (oF_s es10) (ci_X12).1 rfl rfl rfl (by simp [Value.category]) x1 x2 ct10 (fun _ _ z => z.elim) (fun v h10 w1 => ?_)
  have w := w v h10 w1
  obtain ⟨v12, rfl, w⟩ := w
  refine r_iload X dL_law_2038 rfl ?_
  refine r_icmp_eq X dL_law_2040 (tgt := 2045) (by decide) (fun q => ?_) (fun q => ?_)
  · have w := w.1 q
    refine r_iload X dL_law_2045 rfl ?_
    refine r_if_ne X dL_law_2047 (tgt := 2062) (by decide) (fun q => ?_) (fun q => ?_)
    · have w := w.1 q
      refine VV_wk (ls' := [some (.retAddr 100), some (.ref l1), some (.ref l2), some (.ref l3), some (.int l4), none, none]) ?_ w
      exact (And.intro rfl (And.intro rfl (And.intro rfl (And.intro rfl (And.intro rfl trivial)))))
    · have w := w.2 q
      refine r_aload_n X dL_law_2050 rfl ?_
      refine r_iconst X dL_law_2051 (v := 0) (by decide) ?_
      obtain ⟨v13, ev13, w⟩ := w
      obtain ⟨nv13, fv13, cv13, iv13, qv13⟩ := aJ_s ev13
      refine r_lald X dL_law_2052 cv13 iv13 ?_
      rw [qv13]
      refine r_iload X dL_law_2053 rfl ?_
      refine r_i2l X dL_law_2055 ?_
      refine r_lcmp X dL_law_2056 ?_
      refine r_if_eq X dL_law_2057 (tgt := 2062) (by decide) (fun q => ?_) (fun q => ?_)
      · have w := w.1 q
        refine VV_wk (ls' := [some (.retAddr 100), some (.ref l1), some (.ref l2), some (.ref l3), some (.int l4), none, none]) ?_ w
        exact (And.intro rfl (And.intro rfl (And.intro rfl (And.intro rfl (And.intro rfl trivial)))))
      · have w := w.2 q
        refine r_iconst X dL_law_2060 (v := 0) (by decide) ?_
        exact VV_wk (ls' := [none, none, none, none, none, none, none]) trivial w
  · have w := w.2 q
    refine r_iconst X dL_law_2043 (v := 0) (by decide) ?_
    exact VV_wk (ls' := [none, none, none, none, none, none, none]) trivial w

set_option maxRecDepth 10000 in
theorem b_L_law_2062 {g : GG} {p : Program} {e : Env} {R : Room} {s : State} {m : MethodId} {args : Array Value} {below : List Frame} {meth : Method} {c : Code} {Q : State → Prop} {xt : List ExceptionTableEntry} {nm : String} {L : Nat} {xs : Nat → Int32} {kc ks : Nat} (hX : SX g L xs) (X : CX g p s m args meth c cL_law 7 ⟨RL, nm, "([I)Z"⟩ (some .boolean) xt) (l1 : Nat) (l2 : Nat) (l3 : Nat) (l4 : Int32) (h : Hp)
    (w : VV g p e R s m args below meth c 7 Q kc ks 2555 [some (.retAddr 100), some (.ref l1), some (.ref l2), some (.ref l3), some (.int l4), none, none] [] h) : VV g p e R s m args below meth c 7 Q kc ks 2062 [some (.retAddr 100), some (.ref l1), some (.ref l2), some (.ref l3), some (.int l4), none, none] [] h := by
  refine r_goto X dL_law_2062 (tgt := 2555) (by decide) ?_
  refine VV_wk (ls' := [some (.retAddr 100), some (.ref l1), some (.ref l2), some (.ref l3), some (.int l4), none, none]) ?_ w
  exact (And.intro rfl (And.intro rfl (And.intro rfl (And.intro rfl (And.intro rfl trivial)))))

set_option maxRecDepth 10000 in
theorem b_L_law_2065 {g : GG} {p : Program} {e : Env} {R : Room} {s : State} {m : MethodId} {args : Array Value} {below : List Frame} {meth : Method} {c : Code} {Q : State → Prop} {xt : List ExceptionTableEntry} {nm : String} {L : Nat} {xs : Nat → Int32} {kc ks : Nat} (hX : SX g L xs) (X : CX g p s m args meth c cL_law 7 ⟨RL, nm, "([I)Z"⟩ (some .boolean) xt) (l1 : Nat) (l2 : Nat) (l3 : Nat) (l4 : Int32) (h : Hp)
    (w : (∃ k1, (l4 + (1 : Int32)) = nI k1 ∧ k1 < L ∧ (∃ k2, (l4 + (2 : Int32)) = nI k2 ∧ k2 < L ∧ (∃ k3, (l4 + (3 : Int32)) = nI k3 ∧ k3 < L ∧ (∃ d3 P3 m3 n3, CT g d3 yL_years (wsH yL_years cL_years 6 (some .int) [(0, 12, 15, 18), (0, 12, 19, 13)]) [.ref l1, .int ((xs k1)), .int ((xs k2)), .int ((xs k3)), .ref l3] h m3 n3 P3 noT ∧ ((d3 + 1 ≤ R.frames ∧ 60 * (d3 + 1) + 200 ≤ R.locals) ∧ kc + m3 ≤ R.cells ∧ ks + n3 ≤ R.slots) ∧ (∀ v h3, P3 v h3 → ∃ v5, v = some (.int v5) ∧ (∃ k6, (l4 + (1 : Int32)) = nI k6 ∧ k6 < L ∧ (∃ k7, (l4 + (2 : Int32)) = nI k7 ∧ k7 < L ∧ (∃ k8, (l4 + (3 : Int32)) = nI k8 ∧ k8 < L ∧ (∃ fs8, oF h3 l2 11 = some fs8 ∧ (∃ d8 P8 m8 n8, CT g d8 yX12_years (wsC yX12_years cX12_years 5 (some (.int))) [.ref l2, .int ((xs k6)), .int ((xs k7)), .int ((xs k8))] h3 m8 n8 P8 noT ∧ ((d8 + 1 ≤ R.frames ∧ 60 * (d8 + 1) + 200 ≤ R.locals) ∧ (kc + m3) + m8 ≤ R.cells ∧ (ks + n3) + n8 ≤ R.slots) ∧ (∀ v h8, P8 v h8 → ∃ v10, v = some (.int v10) ∧ (∃ fs10, oF h8 l2 11 = some fs10 ∧ (∃ d10 P10 m10 n10, CT g d10 yX12_thrown (wsC yX12_thrown cX12_thrown 1 (some (.int))) [.ref l2] h8 m10 n10 P10 noT ∧ ((d10 + 1 ≤ R.frames ∧ 60 * (d10 + 1) + 200 ≤ R.locals) ∧ ((kc + m3) + m8) + m10 ≤ R.cells ∧ ((ks + n3) + n8) + n10 ≤ R.slots) ∧ (∀ v h10, P10 v h10 → ∃ v12, v = some (.int v12) ∧ ((v12 = v5 → ((¬ v5 = 0 → VV g p e R s m args below meth c 7 Q ((((kc + m3) + m8) + m10)) ((((ks + n3) + n8) + n10)) 2142 [some (.retAddr 100), some (.ref l1), some (.ref l2), some (.ref l3), some (.int l4), none, none] [] h10) ∧ (v5 = 0 → (∃ v13, aJ h10 l3 ((0 : Int32)) = some v13 ∧ (((lg_cmp v13 ((Int32.toInt64 v10))) = 0 → VV g p e R s m args below meth c 7 Q ((((kc + m3) + m8) + m10)) ((((ks + n3) + n8) + n10)) 2142 [some (.retAddr 100), some (.ref l1), some (.ref l2), some (.ref l3), some (.int l4), none, none] [] h10) ∧ (¬ (lg_cmp v13 ((Int32.toInt64 v10))) = 0 → VV g p e R s m args below meth c 7 Q ((((kc + m3) + m8) + m10)) ((((ks + n3) + n8) + n10)) 2141 [none, none, none, none, none, none, none] [.int ((0 : Int32))] h10)))))) ∧ (¬ v12 = v5 → VV g p e R s m args below meth c 7 Q ((((kc + m3) + m8) + m10)) ((((ks + n3) + n8) + n10)) 2124 [none, none, none, none, none, none, none] [.int ((0 : Int32))] h10))))))))))))))))) : VV g p e R s m args below meth c 7 Q kc ks 2065 [some (.retAddr 100), some (.ref l1), some (.ref l2), some (.ref l3), some (.int l4), none, none] [] h := by
  refine r_aload_n X dL_law_2065 rfl ?_
  refine r_aload_nR X dL_law_2066 rfl ?_
  refine r_iload X dL_law_2067 rfl ?_
  refine r_iconst X dL_law_2069 (v := 1) (by decide) ?_
  refine r_iadd X dL_law_2070 ?_
  obtain ⟨k1, ek1, ik1, w⟩ := w
  refine r_sld X dL_law_2071 hX ek1 ik1 ?_
  refine r_aload_nR X dL_law_2072 rfl ?_
  refine r_iload X dL_law_2073 rfl ?_
  refine r_iconst X dL_law_2075 (v := 2) (by decide) ?_
  refine r_iadd X dL_law_2076 ?_
  obtain ⟨k2, ek2, ik2, w⟩ := w
  refine r_sld X dL_law_2077 hX ek2 ik2 ?_
  refine r_aload_nR X dL_law_2078 rfl ?_
  refine r_iload X dL_law_2079 rfl ?_
  refine r_iconst X dL_law_2081 (v := 3) (by decide) ?_
  refine r_iadd X dL_law_2082 ?_
  obtain ⟨k3, ek3, ik3, w⟩ := w
  refine r_sld X dL_law_2083 hX ek3 ik3 ?_
  refine r_aload_n X dL_law_2084 rfl ?_
  obtain ⟨d3, P3, m3, n3, ct3, w⟩ := w
  obtain ⟨⟨x1, x2⟩, w⟩ := w
  refine r_callSH X (As := [.ref l1, .int ((xs k1)), .int ((xs k2)), .int ((xs k3)), .ref l3]) dL_law_2085 mh_L_years ⟨ml_L_229, sm_L_years⟩ rfl rfl (by simp [Value.category]) x1 x2 ct3 (fun v h3 w1 => ?_)
  have w := w v h3 w1
  obtain ⟨v5, rfl, w⟩ := w
  refine r_istore X dL_law_2088 (by decide) rfl ?_
  refine r_aload_n X dL_law_2090 rfl ?_
  refine r_aload_nR X dL_law_2091 rfl ?_
  refine r_iload X dL_law_2092 rfl ?_
  refine r_iconst X dL_law_2094 (v := 1) (by decide) ?_
  refine r_iadd X dL_law_2095 ?_
  obtain ⟨k6, ek6, ik6, w⟩ := w
  refine r_sld X dL_law_2096 hX ek6 ik6 ?_
  refine r_aload_nR X dL_law_2097 rfl ?_
  refine r_iload X dL_law_2098 rfl ?_
  refine r_iconst X dL_law_2100 (v := 2) (by decide) ?_
  refine r_iadd X dL_law_2101 ?_
  obtain ⟨k7, ek7, ik7, w⟩ := w
  refine r_sld X dL_law_2102 hX ek7 ik7 ?_
  refine r_aload_nR X dL_law_2103 rfl ?_
  refine r_iload X dL_law_2104 rfl ?_
  refine r_iconst X dL_law_2106 (v := 3) (by decide) ?_
  refine r_iadd X dL_law_2107 ?_
  obtain ⟨k8, ek8, ik8, w⟩ := w
  refine r_sld X dL_law_2108 hX ek8 ik8 ?_
  obtain ⟨fs8, es8, w⟩ := w
  obtain ⟨d8, P8, m8, n8, ct8, w⟩ := w
  obtain ⟨⟨x1, x2⟩, w⟩ := w
  refine r_callVC X (As := [.int ((xs k6)), .int ((xs k7)), .int ((xs k8))]) dL_law_2109 mk_X12_years ⟨ml_L_231, im_X12_years, se_X12_years⟩ (oF_s es8) (ci_X12).1 rfl rfl rfl (by simp [Value.category]) x1 x2 ct8 (fun _ _ z => z.elim) (fun v h8 w1 => ?_)
  have w := w v h8 w1
  obtain ⟨v10, rfl, w⟩ := w
  refine r_istore X dL_law_2112 (by decide) rfl ?_
  refine r_aload_n X dL_law_2114 rfl ?_
  obtain ⟨fs10, es10, w⟩ := w
  obtain ⟨d10, P10, m10, n10, ct10, w⟩ := w
  obtain ⟨⟨x1, x2⟩, w⟩ := w
  refine r_callVC X (As := []) dL_law_2115 mk_X12_thrown ⟨ml_L_127, im_X12_thrown, se_X12_thrown⟩ (oF_s es10) (ci_X12).1 rfl rfl rfl (by simp [Value.category]) x1 x2 ct10 (fun _ _ z => z.elim) (fun v h10 w1 => ?_)
  have w := w v h10 w1
  obtain ⟨v12, rfl, w⟩ := w
  refine r_iload X dL_law_2118 rfl ?_
  refine r_icmp_eq X dL_law_2120 (tgt := 2125) (by decide) (fun q => ?_) (fun q => ?_)
  · have w := w.1 q
    refine r_iload X dL_law_2125 rfl ?_
    refine r_if_ne X dL_law_2127 (tgt := 2142) (by decide) (fun q => ?_) (fun q => ?_)
    · have w := w.1 q
      refine VV_wk (ls' := [some (.retAddr 100), some (.ref l1), some (.ref l2), some (.ref l3), some (.int l4), none, none]) ?_ w
      exact (And.intro rfl (And.intro rfl (And.intro rfl (And.intro rfl (And.intro rfl trivial)))))
    · have w := w.2 q
      refine r_aload_n X dL_law_2130 rfl ?_
      refine r_iconst X dL_law_2131 (v := 0) (by decide) ?_
      obtain ⟨v13, ev13, w⟩ := w
      obtain ⟨nv13, fv13, cv13, iv13, qv13⟩ := aJ_s ev13
      refine r_lald X dL_law_2132 cv13 iv13 ?_
      rw [qv13]
      refine r_iload X dL_law_2133 rfl ?_
      refine r_i2l X dL_law_2135 ?_
      refine r_lcmp X dL_law_2136 ?_
      refine r_if_eq X dL_law_2137 (tgt := 2142) (by decide) (fun q => ?_) (fun q => ?_)
      · have w := w.1 q
        refine VV_wk (ls' := [some (.retAddr 100), some (.ref l1), some (.ref l2), some (.ref l3), some (.int l4), none, none]) ?_ w
        exact (And.intro rfl (And.intro rfl (And.intro rfl (And.intro rfl (And.intro rfl trivial)))))
      · have w := w.2 q
        refine r_iconst X dL_law_2140 (v := 0) (by decide) ?_
        exact VV_wk (ls' := [none, none, none, none, none, none, none]) trivial w
  · have w := w.2 q
    refine r_iconst X dL_law_2123 (v := 0) (by decide) ?_
    exact VV_wk (ls' := [none, none, none, none, none, none, none]) trivial w

set_option maxRecDepth 10000 in
theorem b_L_law_2142 {g : GG} {p : Program} {e : Env} {R : Room} {s : State} {m : MethodId} {args : Array Value} {below : List Frame} {meth : Method} {c : Code} {Q : State → Prop} {xt : List ExceptionTableEntry} {nm : String} {L : Nat} {xs : Nat → Int32} {kc ks : Nat} (hX : SX g L xs) (X : CX g p s m args meth c cL_law 7 ⟨RL, nm, "([I)Z"⟩ (some .boolean) xt) (l1 : Nat) (l2 : Nat) (l3 : Nat) (l4 : Int32) (h : Hp)
    (w : VV g p e R s m args below meth c 7 Q kc ks 2555 [some (.retAddr 100), some (.ref l1), some (.ref l2), some (.ref l3), some (.int l4), none, none] [] h) : VV g p e R s m args below meth c 7 Q kc ks 2142 [some (.retAddr 100), some (.ref l1), some (.ref l2), some (.ref l3), some (.int l4), none, none] [] h := by
  refine r_goto X dL_law_2142 (tgt := 2555) (by decide) ?_
  refine VV_wk (ls' := [some (.retAddr 100), some (.ref l1), some (.ref l2), some (.ref l3), some (.int l4), none, none]) ?_ w
  exact (And.intro rfl (And.intro rfl (And.intro rfl (And.intro rfl (And.intro rfl trivial)))))

set_option maxRecDepth 10000 in
theorem b_L_law_2145 {g : GG} {p : Program} {e : Env} {R : Room} {s : State} {m : MethodId} {args : Array Value} {below : List Frame} {meth : Method} {c : Code} {Q : State → Prop} {xt : List ExceptionTableEntry} {nm : String} {L : Nat} {xs : Nat → Int32} {kc ks : Nat} (hX : SX g L xs) (X : CX g p s m args meth c cL_law 7 ⟨RL, nm, "([I)Z"⟩ (some .boolean) xt) (l1 : Nat) (l2 : Nat) (l3 : Nat) (l4 : Int32) (h : Hp)
    (w : (∃ fs0, oF h l1 10 = some fs0 ∧ (∃ d0 P0 m0 n0, CT g d0 yX11_steady (wsC yX11_steady cX11_steady 2 (some (.int))) [.ref l1] h m0 n0 P0 noT ∧ ((d0 + 1 ≤ R.frames ∧ 60 * (d0 + 1) + 200 ≤ R.locals) ∧ kc + m0 ≤ R.cells ∧ ks + n0 ≤ R.slots) ∧ (∀ v h0, P0 v h0 → ∃ v2, v = some (.int v2) ∧ (∃ fs2, oF h0 l2 11 = some fs2 ∧ (∃ d2 P2 m2 n2, CT g d2 yX12_steady (wsC yX12_steady cX12_steady 4 (some (.int))) [.ref l2] h0 m2 n2 P2 noT ∧ ((d2 + 1 ≤ R.frames ∧ 60 * (d2 + 1) + 200 ≤ R.locals) ∧ (kc + m0) + m2 ≤ R.cells ∧ (ks + n0) + n2 ≤ R.slots) ∧ (∀ v h2, P2 v h2 → ∃ v4, v = some (.int v4) ∧ ((v2 = v4 → VV g p e R s m args below meth c 7 Q (((kc + m0) + m2)) (((ks + n0) + n2)) 2555 [some (.retAddr 100), some (.ref l1), some (.ref l2), some (.ref l3), some (.int l4), none, none] [] h2) ∧ (¬ v2 = v4 → VV g p e R s m args below meth c 7 Q (((kc + m0) + m2)) (((ks + n0) + n2)) 2157 [none, none, none, none, none, none, none] [.int ((0 : Int32))] h2))))))))) : VV g p e R s m args below meth c 7 Q kc ks 2145 [some (.retAddr 100), some (.ref l1), some (.ref l2), some (.ref l3), some (.int l4), none, none] [] h := by
  refine r_aload_n X dL_law_2145 rfl ?_
  obtain ⟨fs0, es0, w⟩ := w
  obtain ⟨d0, P0, m0, n0, ct0, w⟩ := w
  obtain ⟨⟨x1, x2⟩, w⟩ := w
  refine r_callVC X (As := []) dL_law_2146 mk_X11_steady ⟨ml_L_232, im_X11_steady, se_X11_steady⟩ (oF_s es0) (ci_X11).1 rfl rfl rfl (by simp [Value.category]) x1 x2 ct0 (fun _ _ z => z.elim) (fun v h0 w1 => ?_)
  have w := w v h0 w1
  obtain ⟨v2, rfl, w⟩ := w
  refine r_aload_n X dL_law_2149 rfl ?_
  obtain ⟨fs2, es2, w⟩ := w
  obtain ⟨d2, P2, m2, n2, ct2, w⟩ := w
  obtain ⟨⟨x1, x2⟩, w⟩ := w
  refine r_callVC X (As := []) dL_law_2150 mk_X12_steady ⟨ml_L_235, im_X12_steady, se_X12_steady⟩ (oF_s es2) (ci_X12).1 rfl rfl rfl (by simp [Value.category]) x1 x2 ct2 (fun _ _ z => z.elim) (fun v h2 w1 => ?_)
  have w := w v h2 w1
  obtain ⟨v4, rfl, w⟩ := w
  refine r_icmp_eq X dL_law_2153 (tgt := 2555) (by decide) (fun q => ?_) (fun q => ?_)
  · have w := w.1 q
    refine VV_wk (ls' := [some (.retAddr 100), some (.ref l1), some (.ref l2), some (.ref l3), some (.int l4), none, none]) ?_ w
    exact (And.intro rfl (And.intro rfl (And.intro rfl (And.intro rfl (And.intro rfl trivial)))))
  · have w := w.2 q
    refine r_iconst X dL_law_2156 (v := 0) (by decide) ?_
    exact VV_wk (ls' := [none, none, none, none, none, none, none]) trivial w

set_option maxRecDepth 10000 in
theorem b_L_law_2158 {g : GG} {p : Program} {e : Env} {R : Room} {s : State} {m : MethodId} {args : Array Value} {below : List Frame} {meth : Method} {c : Code} {Q : State → Prop} {xt : List ExceptionTableEntry} {nm : String} {L : Nat} {xs : Nat → Int32} {kc ks : Nat} (hX : SX g L xs) (X : CX g p s m args meth c cL_law 7 ⟨RL, nm, "([I)Z"⟩ (some .boolean) xt) (l1 : Nat) (l2 : Nat) (l3 : Nat) (l4 : Int32) (h : Hp)
    (w : (∃ k1, (l4 + (1 : Int32)) = nI k1 ∧ k1 < L ∧ (∃ d1 P1 m1 n1, CT g d1 yL_nearest (wsH yL_nearest cL_nearest 4 (some .int) [(0, 9, 12, 18)]) [.ref l1, .int ((xs k1)), .ref l3] h m1 n1 P1 noT ∧ ((d1 + 1 ≤ R.frames ∧ 60 * (d1 + 1) + 200 ≤ R.locals) ∧ kc + m1 ≤ R.cells ∧ ks + n1 ≤ R.slots) ∧ (∀ v h1, P1 v h1 → ∃ v3, v = some (.int v3) ∧ (∃ k4, (l4 + (1 : Int32)) = nI k4 ∧ k4 < L ∧ (∃ fs4, oF h1 l2 11 = some fs4 ∧ (∃ d4 P4 m4 n4, CT g d4 yX12_nearest (wsC yX12_nearest cX12_nearest 4 (some (.int))) [.ref l2, .int ((xs k4))] h1 m4 n4 P4 noT ∧ ((d4 + 1 ≤ R.frames ∧ 60 * (d4 + 1) + 200 ≤ R.locals) ∧ (kc + m1) + m4 ≤ R.cells ∧ (ks + n1) + n4 ≤ R.slots) ∧ (∀ v h4, P4 v h4 → ∃ v6, v = some (.int v6) ∧ (∃ fs6, oF h4 l2 11 = some fs6 ∧ (∃ d6 P6 m6 n6, CT g d6 yX12_thrown (wsC yX12_thrown cX12_thrown 1 (some (.int))) [.ref l2] h4 m6 n6 P6 noT ∧ ((d6 + 1 ≤ R.frames ∧ 60 * (d6 + 1) + 200 ≤ R.locals) ∧ ((kc + m1) + m4) + m6 ≤ R.cells ∧ ((ks + n1) + n4) + n6 ≤ R.slots) ∧ (∀ v h6, P6 v h6 → ∃ v8, v = some (.int v8) ∧ ((v8 = v3 → ((¬ v3 = 0 → VV g p e R s m args below meth c 7 Q ((((kc + m1) + m4) + m6)) ((((ks + n1) + n4) + n6)) 2211 [some (.retAddr 100), some (.ref l1), some (.ref l2), some (.ref l3), some (.int l4), none, none] [] h6) ∧ (v3 = 0 → (∃ v9, aJ h6 l3 ((0 : Int32)) = some v9 ∧ (((lg_cmp v9 ((Int32.toInt64 v6))) = 0 → VV g p e R s m args below meth c 7 Q ((((kc + m1) + m4) + m6)) ((((ks + n1) + n4) + n6)) 2211 [some (.retAddr 100), some (.ref l1), some (.ref l2), some (.ref l3), some (.int l4), none, none] [] h6) ∧ (¬ (lg_cmp v9 ((Int32.toInt64 v6))) = 0 → VV g p e R s m args below meth c 7 Q ((((kc + m1) + m4) + m6)) ((((ks + n1) + n4) + n6)) 2210 [none, none, none, none, none, none, none] [.int ((0 : Int32))] h6)))))) ∧ (¬ v8 = v3 → VV g p e R s m args below meth c 7 Q ((((kc + m1) + m4) + m6)) ((((ks + n1) + n4) + n6)) 2193 [none, none, none, none, none, none, none] [.int ((0 : Int32))] h6))))))))))))) : VV g p e R s m args below meth c 7 Q kc ks 2158 [some (.retAddr 100), some (.ref l1), some (.ref l2), some (.ref l3), some (.int l4), none, none] [] h := by
  refine r_aload_n X dL_law_2158 rfl ?_
  refine r_aload_nR X dL_law_2159 rfl ?_
  refine r_iload X dL_law_2160 rfl ?_
  refine r_iconst X dL_law_2162 (v := 1) (by decide) ?_
  refine r_iadd X dL_law_2163 ?_
  obtain ⟨k1, ek1, ik1, w⟩ := w
  refine r_sld X dL_law_2164 hX ek1 ik1 ?_
  refine r_aload_n X dL_law_2165 rfl ?_
  obtain ⟨d1, P1, m1, n1, ct1, w⟩ := w
  obtain ⟨⟨x1, x2⟩, w⟩ := w
  refine r_callSH X (As := [.ref l1, .int ((xs k1)), .ref l3]) dL_law_2166 mh_L_nearest ⟨ml_L_236, sm_L_nearest⟩ rfl rfl (by simp [Value.category]) x1 x2 ct1 (fun v h1 w1 => ?_)
  have w := w v h1 w1
  obtain ⟨v3, rfl, w⟩ := w
  refine r_istore X dL_law_2169 (by decide) rfl ?_
  refine r_aload_n X dL_law_2171 rfl ?_
  refine r_aload_nR X dL_law_2172 rfl ?_
  refine r_iload X dL_law_2173 rfl ?_
  refine r_iconst X dL_law_2175 (v := 1) (by decide) ?_
  refine r_iadd X dL_law_2176 ?_
  obtain ⟨k4, ek4, ik4, w⟩ := w
  refine r_sld X dL_law_2177 hX ek4 ik4 ?_
  obtain ⟨fs4, es4, w⟩ := w
  obtain ⟨d4, P4, m4, n4, ct4, w⟩ := w
  obtain ⟨⟨x1, x2⟩, w⟩ := w
  refine r_callVC X (As := [.int ((xs k4))]) dL_law_2178 mk_X12_nearest ⟨ml_L_238, im_X12_nearest, se_X12_nearest⟩ (oF_s es4) (ci_X12).1 rfl rfl rfl (by simp [Value.category]) x1 x2 ct4 (fun _ _ z => z.elim) (fun v h4 w1 => ?_)
  have w := w v h4 w1
  obtain ⟨v6, rfl, w⟩ := w
  refine r_istore X dL_law_2181 (by decide) rfl ?_
  refine r_aload_n X dL_law_2183 rfl ?_
  obtain ⟨fs6, es6, w⟩ := w
  obtain ⟨d6, P6, m6, n6, ct6, w⟩ := w
  obtain ⟨⟨x1, x2⟩, w⟩ := w
  refine r_callVC X (As := []) dL_law_2184 mk_X12_thrown ⟨ml_L_127, im_X12_thrown, se_X12_thrown⟩ (oF_s es6) (ci_X12).1 rfl rfl rfl (by simp [Value.category]) x1 x2 ct6 (fun _ _ z => z.elim) (fun v h6 w1 => ?_)
  have w := w v h6 w1
  obtain ⟨v8, rfl, w⟩ := w
  refine r_iload X dL_law_2187 rfl ?_
  refine r_icmp_eq X dL_law_2189 (tgt := 2194) (by decide) (fun q => ?_) (fun q => ?_)
  · have w := w.1 q
    refine r_iload X dL_law_2194 rfl ?_
    refine r_if_ne X dL_law_2196 (tgt := 2211) (by decide) (fun q => ?_) (fun q => ?_)
    · have w := w.1 q
      refine VV_wk (ls' := [some (.retAddr 100), some (.ref l1), some (.ref l2), some (.ref l3), some (.int l4), none, none]) ?_ w
      exact (And.intro rfl (And.intro rfl (And.intro rfl (And.intro rfl (And.intro rfl trivial)))))
    · have w := w.2 q
      refine r_aload_n X dL_law_2199 rfl ?_
      refine r_iconst X dL_law_2200 (v := 0) (by decide) ?_
      obtain ⟨v9, ev9, w⟩ := w
      obtain ⟨nv9, fv9, cv9, iv9, qv9⟩ := aJ_s ev9
      refine r_lald X dL_law_2201 cv9 iv9 ?_
      rw [qv9]
      refine r_iload X dL_law_2202 rfl ?_
      refine r_i2l X dL_law_2204 ?_
      refine r_lcmp X dL_law_2205 ?_
      refine r_if_eq X dL_law_2206 (tgt := 2211) (by decide) (fun q => ?_) (fun q => ?_)
      · have w := w.1 q
        refine VV_wk (ls' := [some (.retAddr 100), some (.ref l1), some (.ref l2), some (.ref l3), some (.int l4), none, none]) ?_ w
        exact (And.intro rfl (And.intro rfl (And.intro rfl (And.intro rfl (And.intro rfl trivial)))))
      · have w := w.2 q
        refine r_iconst X dL_law_2209 (v := 0) (by decide) ?_
        exact VV_wk (ls' := [none, none, none, none, none, none, none]) trivial w
  · have w := w.2 q
    refine r_iconst X dL_law_2192 (v := 0) (by decide) ?_
    exact VV_wk (ls' := [none, none, none, none, none, none, none]) trivial w

set_option maxRecDepth 10000 in
theorem b_L_law_2211 {g : GG} {p : Program} {e : Env} {R : Room} {s : State} {m : MethodId} {args : Array Value} {below : List Frame} {meth : Method} {c : Code} {Q : State → Prop} {xt : List ExceptionTableEntry} {nm : String} {L : Nat} {xs : Nat → Int32} {kc ks : Nat} (hX : SX g L xs) (X : CX g p s m args meth c cL_law 7 ⟨RL, nm, "([I)Z"⟩ (some .boolean) xt) (l1 : Nat) (l2 : Nat) (l3 : Nat) (l4 : Int32) (h : Hp)
    (w : VV g p e R s m args below meth c 7 Q kc ks 2555 [some (.retAddr 100), some (.ref l1), some (.ref l2), some (.ref l3), some (.int l4), none, none] [] h) : VV g p e R s m args below meth c 7 Q kc ks 2211 [some (.retAddr 100), some (.ref l1), some (.ref l2), some (.ref l3), some (.int l4), none, none] [] h := by
  refine r_goto X dL_law_2211 (tgt := 2555) (by decide) ?_
  refine VV_wk (ls' := [some (.retAddr 100), some (.ref l1), some (.ref l2), some (.ref l3), some (.int l4), none, none]) ?_ w
  exact (And.intro rfl (And.intro rfl (And.intro rfl (And.intro rfl (And.intro rfl trivial)))))

set_option maxRecDepth 10000 in
theorem b_L_law_2214 {g : GG} {p : Program} {e : Env} {R : Room} {s : State} {m : MethodId} {args : Array Value} {below : List Frame} {meth : Method} {c : Code} {Q : State → Prop} {xt : List ExceptionTableEntry} {nm : String} {L : Nat} {xs : Nat → Int32} {kc ks : Nat} (hX : SX g L xs) (X : CX g p s m args meth c cL_law 7 ⟨RL, nm, "([I)Z"⟩ (some .boolean) xt) (l1 : Nat) (l2 : Nat) (l3 : Nat) (l4 : Int32) (h : Hp)
    (w : (∃ k1, (l4 + (1 : Int32)) = nI k1 ∧ k1 < L ∧ (∃ k2, (l4 + (2 : Int32)) = nI k2 ∧ k2 < L ∧ (∃ d2 P2 m2 n2, CT g d2 yL_far (wsH yL_far cL_far 5 (some .int) [(0, 10, 13, 18)]) [.ref l1, .int ((xs k1)), .int ((xs k2)), .ref l3] h m2 n2 P2 noT ∧ ((d2 + 1 ≤ R.frames ∧ 60 * (d2 + 1) + 200 ≤ R.locals) ∧ kc + m2 ≤ R.cells ∧ ks + n2 ≤ R.slots) ∧ (∀ v h2, P2 v h2 → ∃ v4, v = some (.int v4) ∧ (∃ k5, (l4 + (1 : Int32)) = nI k5 ∧ k5 < L ∧ (∃ k6, (l4 + (2 : Int32)) = nI k6 ∧ k6 < L ∧ (∃ fs6, oF h2 l2 11 = some fs6 ∧ (∃ d6 P6 m6 n6, CT g d6 yX12_far (wsC yX12_far cX12_far 3 (some (.int))) [.ref l2, .int ((xs k5)), .int ((xs k6))] h2 m6 n6 P6 noT ∧ ((d6 + 1 ≤ R.frames ∧ 60 * (d6 + 1) + 200 ≤ R.locals) ∧ (kc + m2) + m6 ≤ R.cells ∧ (ks + n2) + n6 ≤ R.slots) ∧ (∀ v h6, P6 v h6 → ∃ v8, v = some (.int v8) ∧ (∃ fs8, oF h6 l2 11 = some fs8 ∧ (∃ d8 P8 m8 n8, CT g d8 yX12_thrown (wsC yX12_thrown cX12_thrown 1 (some (.int))) [.ref l2] h6 m8 n8 P8 noT ∧ ((d8 + 1 ≤ R.frames ∧ 60 * (d8 + 1) + 200 ≤ R.locals) ∧ ((kc + m2) + m6) + m8 ≤ R.cells ∧ ((ks + n2) + n6) + n8 ≤ R.slots) ∧ (∀ v h8, P8 v h8 → ∃ v10, v = some (.int v10) ∧ ((v10 = v4 → ((¬ v4 = 0 → VV g p e R s m args below meth c 7 Q ((((kc + m2) + m6) + m8)) ((((ks + n2) + n6) + n8)) 2279 [some (.retAddr 100), some (.ref l1), some (.ref l2), some (.ref l3), some (.int l4), none, none] [] h8) ∧ (v4 = 0 → (∃ v11, aJ h8 l3 ((0 : Int32)) = some v11 ∧ (((lg_cmp v11 ((Int32.toInt64 v8))) = 0 → VV g p e R s m args below meth c 7 Q ((((kc + m2) + m6) + m8)) ((((ks + n2) + n6) + n8)) 2279 [some (.retAddr 100), some (.ref l1), some (.ref l2), some (.ref l3), some (.int l4), none, none] [] h8) ∧ (¬ (lg_cmp v11 ((Int32.toInt64 v8))) = 0 → VV g p e R s m args below meth c 7 Q ((((kc + m2) + m6) + m8)) ((((ks + n2) + n6) + n8)) 2278 [none, none, none, none, none, none, none] [.int ((0 : Int32))] h8)))))) ∧ (¬ v10 = v4 → VV g p e R s m args below meth c 7 Q ((((kc + m2) + m6) + m8)) ((((ks + n2) + n6) + n8)) 2261 [none, none, none, none, none, none, none] [.int ((0 : Int32))] h8))))))))))))))) : VV g p e R s m args below meth c 7 Q kc ks 2214 [some (.retAddr 100), some (.ref l1), some (.ref l2), some (.ref l3), some (.int l4), none, none] [] h := by
  refine r_aload_n X dL_law_2214 rfl ?_
  refine r_aload_nR X dL_law_2215 rfl ?_
  refine r_iload X dL_law_2216 rfl ?_
  refine r_iconst X dL_law_2218 (v := 1) (by decide) ?_
  refine r_iadd X dL_law_2219 ?_
  obtain ⟨k1, ek1, ik1, w⟩ := w
  refine r_sld X dL_law_2220 hX ek1 ik1 ?_
  refine r_aload_nR X dL_law_2221 rfl ?_
  refine r_iload X dL_law_2222 rfl ?_
  refine r_iconst X dL_law_2224 (v := 2) (by decide) ?_
  refine r_iadd X dL_law_2225 ?_
  obtain ⟨k2, ek2, ik2, w⟩ := w
  refine r_sld X dL_law_2226 hX ek2 ik2 ?_
  refine r_aload_n X dL_law_2227 rfl ?_
  obtain ⟨d2, P2, m2, n2, ct2, w⟩ := w
  obtain ⟨⟨x1, x2⟩, w⟩ := w
  refine r_callSH X (As := [.ref l1, .int ((xs k1)), .int ((xs k2)), .ref l3]) dL_law_2228 mh_L_far ⟨ml_L_239, sm_L_far⟩ rfl rfl (by simp [Value.category]) x1 x2 ct2 (fun v h2 w1 => ?_)
  have w := w v h2 w1
  obtain ⟨v4, rfl, w⟩ := w
  refine r_istore X dL_law_2231 (by decide) rfl ?_
  refine r_aload_n X dL_law_2233 rfl ?_
  refine r_aload_nR X dL_law_2234 rfl ?_
  refine r_iload X dL_law_2235 rfl ?_
  refine r_iconst X dL_law_2237 (v := 1) (by decide) ?_
  refine r_iadd X dL_law_2238 ?_
  obtain ⟨k5, ek5, ik5, w⟩ := w
  refine r_sld X dL_law_2239 hX ek5 ik5 ?_
  refine r_aload_nR X dL_law_2240 rfl ?_
  refine r_iload X dL_law_2241 rfl ?_
  refine r_iconst X dL_law_2243 (v := 2) (by decide) ?_
  refine r_iadd X dL_law_2244 ?_
  obtain ⟨k6, ek6, ik6, w⟩ := w
  refine r_sld X dL_law_2245 hX ek6 ik6 ?_
  obtain ⟨fs6, es6, w⟩ := w
  obtain ⟨d6, P6, m6, n6, ct6, w⟩ := w
  obtain ⟨⟨x1, x2⟩, w⟩ := w
  refine r_callVC X (As := [.int ((xs k5)), .int ((xs k6))]) dL_law_2246 mk_X12_far ⟨ml_L_241, im_X12_far, se_X12_far⟩ (oF_s es6) (ci_X12).1 rfl rfl rfl (by simp [Value.category]) x1 x2 ct6 (fun _ _ z => z.elim) (fun v h6 w1 => ?_)
  have w := w v h6 w1
  obtain ⟨v8, rfl, w⟩ := w
  refine r_istore X dL_law_2249 (by decide) rfl ?_
  refine r_aload_n X dL_law_2251 rfl ?_
  obtain ⟨fs8, es8, w⟩ := w
  obtain ⟨d8, P8, m8, n8, ct8, w⟩ := w
  obtain ⟨⟨x1, x2⟩, w⟩ := w
  refine r_callVC X (As := []) dL_law_2252 mk_X12_thrown ⟨ml_L_127, im_X12_thrown, se_X12_thrown⟩ (oF_s es8) (ci_X12).1 rfl rfl rfl (by simp [Value.category]) x1 x2 ct8 (fun _ _ z => z.elim) (fun v h8 w1 => ?_)
  have w := w v h8 w1
  obtain ⟨v10, rfl, w⟩ := w
  refine r_iload X dL_law_2255 rfl ?_
  refine r_icmp_eq X dL_law_2257 (tgt := 2262) (by decide) (fun q => ?_) (fun q => ?_)
  · have w := w.1 q
    refine r_iload X dL_law_2262 rfl ?_
    refine r_if_ne X dL_law_2264 (tgt := 2279) (by decide) (fun q => ?_) (fun q => ?_)
    · have w := w.1 q
      refine VV_wk (ls' := [some (.retAddr 100), some (.ref l1), some (.ref l2), some (.ref l3), some (.int l4), none, none]) ?_ w
      exact (And.intro rfl (And.intro rfl (And.intro rfl (And.intro rfl (And.intro rfl trivial)))))
    · have w := w.2 q
      refine r_aload_n X dL_law_2267 rfl ?_
      refine r_iconst X dL_law_2268 (v := 0) (by decide) ?_
      obtain ⟨v11, ev11, w⟩ := w
      obtain ⟨nv11, fv11, cv11, iv11, qv11⟩ := aJ_s ev11
      refine r_lald X dL_law_2269 cv11 iv11 ?_
      rw [qv11]
      refine r_iload X dL_law_2270 rfl ?_
      refine r_i2l X dL_law_2272 ?_
      refine r_lcmp X dL_law_2273 ?_
      refine r_if_eq X dL_law_2274 (tgt := 2279) (by decide) (fun q => ?_) (fun q => ?_)
      · have w := w.1 q
        refine VV_wk (ls' := [some (.retAddr 100), some (.ref l1), some (.ref l2), some (.ref l3), some (.int l4), none, none]) ?_ w
        exact (And.intro rfl (And.intro rfl (And.intro rfl (And.intro rfl (And.intro rfl trivial)))))
      · have w := w.2 q
        refine r_iconst X dL_law_2277 (v := 0) (by decide) ?_
        exact VV_wk (ls' := [none, none, none, none, none, none, none]) trivial w
  · have w := w.2 q
    refine r_iconst X dL_law_2260 (v := 0) (by decide) ?_
    exact VV_wk (ls' := [none, none, none, none, none, none, none]) trivial w

set_option maxRecDepth 10000 in
theorem b_L_law_2279 {g : GG} {p : Program} {e : Env} {R : Room} {s : State} {m : MethodId} {args : Array Value} {below : List Frame} {meth : Method} {c : Code} {Q : State → Prop} {xt : List ExceptionTableEntry} {nm : String} {L : Nat} {xs : Nat → Int32} {kc ks : Nat} (hX : SX g L xs) (X : CX g p s m args meth c cL_law 7 ⟨RL, nm, "([I)Z"⟩ (some .boolean) xt) (l1 : Nat) (l2 : Nat) (l3 : Nat) (l4 : Int32) (h : Hp)
    (w : VV g p e R s m args below meth c 7 Q kc ks 2555 [some (.retAddr 100), some (.ref l1), some (.ref l2), some (.ref l3), some (.int l4), none, none] [] h) : VV g p e R s m args below meth c 7 Q kc ks 2279 [some (.retAddr 100), some (.ref l1), some (.ref l2), some (.ref l3), some (.int l4), none, none] [] h := by
  refine r_goto X dL_law_2279 (tgt := 2555) (by decide) ?_
  refine VV_wk (ls' := [some (.retAddr 100), some (.ref l1), some (.ref l2), some (.ref l3), some (.int l4), none, none]) ?_ w
  exact (And.intro rfl (And.intro rfl (And.intro rfl (And.intro rfl (And.intro rfl trivial)))))

set_option maxRecDepth 10000 in
theorem b_L_law_2282 {g : GG} {p : Program} {e : Env} {R : Room} {s : State} {m : MethodId} {args : Array Value} {below : List Frame} {meth : Method} {c : Code} {Q : State → Prop} {xt : List ExceptionTableEntry} {nm : String} {L : Nat} {xs : Nat → Int32} {kc ks : Nat} (hX : SX g L xs) (X : CX g p s m args meth c cL_law 7 ⟨RL, nm, "([I)Z"⟩ (some .boolean) xt) (l1 : Nat) (l2 : Nat) (l3 : Nat) (l4 : Int32) (h : Hp)
    (w : (∃ fs0, oF h l1 10 = some fs0 ∧ (∃ d0 P0 m0 n0, CT g d0 yX11_gaps (wsC yX11_gaps cX11_gaps 1 (some (.int))) [.ref l1] h m0 n0 P0 noT ∧ ((d0 + 1 ≤ R.frames ∧ 60 * (d0 + 1) + 200 ≤ R.locals) ∧ kc + m0 ≤ R.cells ∧ ks + n0 ≤ R.slots) ∧ (∀ v h0, P0 v h0 → ∃ v2, v = some (.int v2) ∧ (∃ fs2, oF h0 l2 11 = some fs2 ∧ (∃ d2 P2 m2 n2, CT g d2 yX12_gaps (wsC yX12_gaps cX12_gaps 3 (some (.int))) [.ref l2] h0 m2 n2 P2 noT ∧ ((d2 + 1 ≤ R.frames ∧ 60 * (d2 + 1) + 200 ≤ R.locals) ∧ (kc + m0) + m2 ≤ R.cells ∧ (ks + n0) + n2 ≤ R.slots) ∧ (∀ v h2, P2 v h2 → ∃ v4, v = some (.int v4) ∧ ((v2 = v4 → VV g p e R s m args below meth c 7 Q (((kc + m0) + m2)) (((ks + n0) + n2)) 2555 [some (.retAddr 100), some (.ref l1), some (.ref l2), some (.ref l3), some (.int l4), none, none] [] h2) ∧ (¬ v2 = v4 → VV g p e R s m args below meth c 7 Q (((kc + m0) + m2)) (((ks + n0) + n2)) 2294 [none, none, none, none, none, none, none] [.int ((0 : Int32))] h2))))))))) : VV g p e R s m args below meth c 7 Q kc ks 2282 [some (.retAddr 100), some (.ref l1), some (.ref l2), some (.ref l3), some (.int l4), none, none] [] h := by
  refine r_aload_n X dL_law_2282 rfl ?_
  obtain ⟨fs0, es0, w⟩ := w
  obtain ⟨d0, P0, m0, n0, ct0, w⟩ := w
  obtain ⟨⟨x1, x2⟩, w⟩ := w
  refine r_callVC X (As := []) dL_law_2283 mk_X11_gaps ⟨ml_L_242, im_X11_gaps, se_X11_gaps⟩ (oF_s es0) (ci_X11).1 rfl rfl rfl (by simp [Value.category]) x1 x2 ct0 (fun _ _ z => z.elim) (fun v h0 w1 => ?_)
  have w := w v h0 w1
  obtain ⟨v2, rfl, w⟩ := w
  refine r_aload_n X dL_law_2286 rfl ?_
  obtain ⟨fs2, es2, w⟩ := w
  obtain ⟨d2, P2, m2, n2, ct2, w⟩ := w
  obtain ⟨⟨x1, x2⟩, w⟩ := w
  refine r_callVC X (As := []) dL_law_2287 mk_X12_gaps ⟨ml_L_245, im_X12_gaps, se_X12_gaps⟩ (oF_s es2) (ci_X12).1 rfl rfl rfl (by simp [Value.category]) x1 x2 ct2 (fun _ _ z => z.elim) (fun v h2 w1 => ?_)
  have w := w v h2 w1
  obtain ⟨v4, rfl, w⟩ := w
  refine r_icmp_eq X dL_law_2290 (tgt := 2555) (by decide) (fun q => ?_) (fun q => ?_)
  · have w := w.1 q
    refine VV_wk (ls' := [some (.retAddr 100), some (.ref l1), some (.ref l2), some (.ref l3), some (.int l4), none, none]) ?_ w
    exact (And.intro rfl (And.intro rfl (And.intro rfl (And.intro rfl (And.intro rfl trivial)))))
  · have w := w.2 q
    refine r_iconst X dL_law_2293 (v := 0) (by decide) ?_
    exact VV_wk (ls' := [none, none, none, none, none, none, none]) trivial w

set_option maxRecDepth 10000 in
theorem b_L_law_2295 {g : GG} {p : Program} {e : Env} {R : Room} {s : State} {m : MethodId} {args : Array Value} {below : List Frame} {meth : Method} {c : Code} {Q : State → Prop} {xt : List ExceptionTableEntry} {nm : String} {L : Nat} {xs : Nat → Int32} {kc ks : Nat} (hX : SX g L xs) (X : CX g p s m args meth c cL_law 7 ⟨RL, nm, "([I)Z"⟩ (some .boolean) xt) (l1 : Nat) (l2 : Nat) (l3 : Nat) (l4 : Int32) (h : Hp)
    (w : (∃ k1, (l4 + (1 : Int32)) = nI k1 ∧ k1 < L ∧ (∃ d1 P1 m1 n1, CT g d1 yL_worst (wsH yL_worst cL_worst 4 (some .int) [(0, 9, 12, 13)]) [.ref l1, .int ((xs k1)), .ref l3] h m1 n1 P1 noT ∧ ((d1 + 1 ≤ R.frames ∧ 60 * (d1 + 1) + 200 ≤ R.locals) ∧ kc + m1 ≤ R.cells ∧ ks + n1 ≤ R.slots) ∧ (∀ v h1, P1 v h1 → ∃ v3, v = some (.int v3) ∧ (∃ k4, (l4 + (1 : Int32)) = nI k4 ∧ k4 < L ∧ (∃ fs4, oF h1 l2 11 = some fs4 ∧ (∃ d4 P4 m4 n4, CT g d4 yX12_worst (wsC yX12_worst cX12_worst 6 (some (.int))) [.ref l2, .int ((xs k4))] h1 m4 n4 P4 noT ∧ ((d4 + 1 ≤ R.frames ∧ 60 * (d4 + 1) + 200 ≤ R.locals) ∧ (kc + m1) + m4 ≤ R.cells ∧ (ks + n1) + n4 ≤ R.slots) ∧ (∀ v h4, P4 v h4 → ∃ v6, v = some (.int v6) ∧ (∃ fs6, oF h4 l2 11 = some fs6 ∧ (∃ d6 P6 m6 n6, CT g d6 yX12_thrown (wsC yX12_thrown cX12_thrown 1 (some (.int))) [.ref l2] h4 m6 n6 P6 noT ∧ ((d6 + 1 ≤ R.frames ∧ 60 * (d6 + 1) + 200 ≤ R.locals) ∧ ((kc + m1) + m4) + m6 ≤ R.cells ∧ ((ks + n1) + n4) + n6 ≤ R.slots) ∧ (∀ v h6, P6 v h6 → ∃ v8, v = some (.int v8) ∧ ((v8 = v3 → ((¬ v3 = 0 → VV g p e R s m args below meth c 7 Q ((((kc + m1) + m4) + m6)) ((((ks + n1) + n4) + n6)) 2348 [some (.retAddr 100), some (.ref l1), some (.ref l2), some (.ref l3), some (.int l4), none, none] [] h6) ∧ (v3 = 0 → (∃ v9, aJ h6 l3 ((0 : Int32)) = some v9 ∧ (((lg_cmp v9 ((Int32.toInt64 v6))) = 0 → VV g p e R s m args below meth c 7 Q ((((kc + m1) + m4) + m6)) ((((ks + n1) + n4) + n6)) 2348 [some (.retAddr 100), some (.ref l1), some (.ref l2), some (.ref l3), some (.int l4), none, none] [] h6) ∧ (¬ (lg_cmp v9 ((Int32.toInt64 v6))) = 0 → VV g p e R s m args below meth c 7 Q ((((kc + m1) + m4) + m6)) ((((ks + n1) + n4) + n6)) 2347 [none, none, none, none, none, none, none] [.int ((0 : Int32))] h6)))))) ∧ (¬ v8 = v3 → VV g p e R s m args below meth c 7 Q ((((kc + m1) + m4) + m6)) ((((ks + n1) + n4) + n6)) 2330 [none, none, none, none, none, none, none] [.int ((0 : Int32))] h6))))))))))))) : VV g p e R s m args below meth c 7 Q kc ks 2295 [some (.retAddr 100), some (.ref l1), some (.ref l2), some (.ref l3), some (.int l4), none, none] [] h := by
  refine r_aload_n X dL_law_2295 rfl ?_
  refine r_aload_nR X dL_law_2296 rfl ?_
  refine r_iload X dL_law_2297 rfl ?_
  refine r_iconst X dL_law_2299 (v := 1) (by decide) ?_
  refine r_iadd X dL_law_2300 ?_
  obtain ⟨k1, ek1, ik1, w⟩ := w
  refine r_sld X dL_law_2301 hX ek1 ik1 ?_
  refine r_aload_n X dL_law_2302 rfl ?_
  obtain ⟨d1, P1, m1, n1, ct1, w⟩ := w
  obtain ⟨⟨x1, x2⟩, w⟩ := w
  refine r_callSH X (As := [.ref l1, .int ((xs k1)), .ref l3]) dL_law_2303 mh_L_worst ⟨ml_L_246, sm_L_worst⟩ rfl rfl (by simp [Value.category]) x1 x2 ct1 (fun v h1 w1 => ?_)
  have w := w v h1 w1
  obtain ⟨v3, rfl, w⟩ := w
  refine r_istore X dL_law_2306 (by decide) rfl ?_
  refine r_aload_n X dL_law_2308 rfl ?_
  refine r_aload_nR X dL_law_2309 rfl ?_
  refine r_iload X dL_law_2310 rfl ?_
  refine r_iconst X dL_law_2312 (v := 1) (by decide) ?_
  refine r_iadd X dL_law_2313 ?_
  obtain ⟨k4, ek4, ik4, w⟩ := w
  refine r_sld X dL_law_2314 hX ek4 ik4 ?_
  obtain ⟨fs4, es4, w⟩ := w
  obtain ⟨d4, P4, m4, n4, ct4, w⟩ := w
  obtain ⟨⟨x1, x2⟩, w⟩ := w
  refine r_callVC X (As := [.int ((xs k4))]) dL_law_2315 mk_X12_worst ⟨ml_L_248, im_X12_worst, se_X12_worst⟩ (oF_s es4) (ci_X12).1 rfl rfl rfl (by simp [Value.category]) x1 x2 ct4 (fun _ _ z => z.elim) (fun v h4 w1 => ?_)
  have w := w v h4 w1
  obtain ⟨v6, rfl, w⟩ := w
  refine r_istore X dL_law_2318 (by decide) rfl ?_
  refine r_aload_n X dL_law_2320 rfl ?_
  obtain ⟨fs6, es6, w⟩ := w
  obtain ⟨d6, P6, m6, n6, ct6, w⟩ := w
  obtain ⟨⟨x1, x2⟩, w⟩ := w
  refine r_callVC X (As := []) dL_law_2321 mk_X12_thrown ⟨ml_L_127, im_X12_thrown, se_X12_thrown⟩ (oF_s es6) (ci_X12).1 rfl rfl rfl (by simp [Value.category]) x1 x2 ct6 (fun _ _ z => z.elim) (fun v h6 w1 => ?_)
  have w := w v h6 w1
  obtain ⟨v8, rfl, w⟩ := w
  refine r_iload X dL_law_2324 rfl ?_
  refine r_icmp_eq X dL_law_2326 (tgt := 2331) (by decide) (fun q => ?_) (fun q => ?_)
  · have w := w.1 q
    refine r_iload X dL_law_2331 rfl ?_
    refine r_if_ne X dL_law_2333 (tgt := 2348) (by decide) (fun q => ?_) (fun q => ?_)
    · have w := w.1 q
      refine VV_wk (ls' := [some (.retAddr 100), some (.ref l1), some (.ref l2), some (.ref l3), some (.int l4), none, none]) ?_ w
      exact (And.intro rfl (And.intro rfl (And.intro rfl (And.intro rfl (And.intro rfl trivial)))))
    · have w := w.2 q
      refine r_aload_n X dL_law_2336 rfl ?_
      refine r_iconst X dL_law_2337 (v := 0) (by decide) ?_
      obtain ⟨v9, ev9, w⟩ := w
      obtain ⟨nv9, fv9, cv9, iv9, qv9⟩ := aJ_s ev9
      refine r_lald X dL_law_2338 cv9 iv9 ?_
      rw [qv9]
      refine r_iload X dL_law_2339 rfl ?_
      refine r_i2l X dL_law_2341 ?_
      refine r_lcmp X dL_law_2342 ?_
      refine r_if_eq X dL_law_2343 (tgt := 2348) (by decide) (fun q => ?_) (fun q => ?_)
      · have w := w.1 q
        refine VV_wk (ls' := [some (.retAddr 100), some (.ref l1), some (.ref l2), some (.ref l3), some (.int l4), none, none]) ?_ w
        exact (And.intro rfl (And.intro rfl (And.intro rfl (And.intro rfl (And.intro rfl trivial)))))
      · have w := w.2 q
        refine r_iconst X dL_law_2346 (v := 0) (by decide) ?_
        exact VV_wk (ls' := [none, none, none, none, none, none, none]) trivial w
  · have w := w.2 q
    refine r_iconst X dL_law_2329 (v := 0) (by decide) ?_
    exact VV_wk (ls' := [none, none, none, none, none, none, none]) trivial w

set_option maxRecDepth 10000 in
theorem b_L_law_2348 {g : GG} {p : Program} {e : Env} {R : Room} {s : State} {m : MethodId} {args : Array Value} {below : List Frame} {meth : Method} {c : Code} {Q : State → Prop} {xt : List ExceptionTableEntry} {nm : String} {L : Nat} {xs : Nat → Int32} {kc ks : Nat} (hX : SX g L xs) (X : CX g p s m args meth c cL_law 7 ⟨RL, nm, "([I)Z"⟩ (some .boolean) xt) (l1 : Nat) (l2 : Nat) (l3 : Nat) (l4 : Int32) (h : Hp)
    (w : VV g p e R s m args below meth c 7 Q kc ks 2555 [some (.retAddr 100), some (.ref l1), some (.ref l2), some (.ref l3), some (.int l4), none, none] [] h) : VV g p e R s m args below meth c 7 Q kc ks 2348 [some (.retAddr 100), some (.ref l1), some (.ref l2), some (.ref l3), some (.int l4), none, none] [] h := by
  refine r_goto X dL_law_2348 (tgt := 2555) (by decide) ?_
  refine VV_wk (ls' := [some (.retAddr 100), some (.ref l1), some (.ref l2), some (.ref l3), some (.int l4), none, none]) ?_ w
  exact (And.intro rfl (And.intro rfl (And.intro rfl (And.intro rfl (And.intro rfl trivial)))))

set_option maxRecDepth 10000 in
theorem b_L_law_2351 {g : GG} {p : Program} {e : Env} {R : Room} {s : State} {m : MethodId} {args : Array Value} {below : List Frame} {meth : Method} {c : Code} {Q : State → Prop} {xt : List ExceptionTableEntry} {nm : String} {L : Nat} {xs : Nat → Int32} {kc ks : Nat} (hX : SX g L xs) (X : CX g p s m args meth c cL_law 7 ⟨RL, nm, "([I)Z"⟩ (some .boolean) xt) (l1 : Nat) (l2 : Nat) (l3 : Nat) (l4 : Int32) (h : Hp)
    (w : (∃ k1, (l4 + (1 : Int32)) = nI k1 ∧ k1 < L ∧ (∃ k2, (l4 + (2 : Int32)) = nI k2 ∧ k2 < L ∧ (∃ d2 P2 m2 n2, CT g d2 yL_meet (wsH yL_meet cL_meet 5 (some .int) [(0, 10, 13, 18)]) [.ref l1, .int ((xs k1)), .int ((xs k2)), .ref l3] h m2 n2 P2 noT ∧ ((d2 + 1 ≤ R.frames ∧ 60 * (d2 + 1) + 200 ≤ R.locals) ∧ kc + m2 ≤ R.cells ∧ ks + n2 ≤ R.slots) ∧ (∀ v h2, P2 v h2 → ∃ v4, v = some (.int v4) ∧ (∃ k5, (l4 + (1 : Int32)) = nI k5 ∧ k5 < L ∧ (∃ k6, (l4 + (2 : Int32)) = nI k6 ∧ k6 < L ∧ (∃ fs6, oF h2 l2 11 = some fs6 ∧ (∃ d6 P6 m6 n6, CT g d6 yX12_meet (wsC yX12_meet cX12_meet 4 (some (.int))) [.ref l2, .int ((xs k5)), .int ((xs k6))] h2 m6 n6 P6 noT ∧ ((d6 + 1 ≤ R.frames ∧ 60 * (d6 + 1) + 200 ≤ R.locals) ∧ (kc + m2) + m6 ≤ R.cells ∧ (ks + n2) + n6 ≤ R.slots) ∧ (∀ v h6, P6 v h6 → ∃ v8, v = some (.int v8) ∧ (∃ fs8, oF h6 l2 11 = some fs8 ∧ (∃ d8 P8 m8 n8, CT g d8 yX12_thrown (wsC yX12_thrown cX12_thrown 1 (some (.int))) [.ref l2] h6 m8 n8 P8 noT ∧ ((d8 + 1 ≤ R.frames ∧ 60 * (d8 + 1) + 200 ≤ R.locals) ∧ ((kc + m2) + m6) + m8 ≤ R.cells ∧ ((ks + n2) + n6) + n8 ≤ R.slots) ∧ (∀ v h8, P8 v h8 → ∃ v10, v = some (.int v10) ∧ ((v10 = v4 → ((¬ v4 = 0 → VV g p e R s m args below meth c 7 Q ((((kc + m2) + m6) + m8)) ((((ks + n2) + n6) + n8)) 2416 [some (.retAddr 100), some (.ref l1), some (.ref l2), some (.ref l3), some (.int l4), none, none] [] h8) ∧ (v4 = 0 → (∃ v11, aJ h8 l3 ((0 : Int32)) = some v11 ∧ (((lg_cmp v11 ((Int32.toInt64 v8))) = 0 → VV g p e R s m args below meth c 7 Q ((((kc + m2) + m6) + m8)) ((((ks + n2) + n6) + n8)) 2416 [some (.retAddr 100), some (.ref l1), some (.ref l2), some (.ref l3), some (.int l4), none, none] [] h8) ∧ (¬ (lg_cmp v11 ((Int32.toInt64 v8))) = 0 → VV g p e R s m args below meth c 7 Q ((((kc + m2) + m6) + m8)) ((((ks + n2) + n6) + n8)) 2415 [none, none, none, none, none, none, none] [.int ((0 : Int32))] h8)))))) ∧ (¬ v10 = v4 → VV g p e R s m args below meth c 7 Q ((((kc + m2) + m6) + m8)) ((((ks + n2) + n6) + n8)) 2398 [none, none, none, none, none, none, none] [.int ((0 : Int32))] h8))))))))))))))) : VV g p e R s m args below meth c 7 Q kc ks 2351 [some (.retAddr 100), some (.ref l1), some (.ref l2), some (.ref l3), some (.int l4), none, none] [] h := by
  refine r_aload_n X dL_law_2351 rfl ?_
  refine r_aload_nR X dL_law_2352 rfl ?_
  refine r_iload X dL_law_2353 rfl ?_
  refine r_iconst X dL_law_2355 (v := 1) (by decide) ?_
  refine r_iadd X dL_law_2356 ?_
  obtain ⟨k1, ek1, ik1, w⟩ := w
  refine r_sld X dL_law_2357 hX ek1 ik1 ?_
  refine r_aload_nR X dL_law_2358 rfl ?_
  refine r_iload X dL_law_2359 rfl ?_
  refine r_iconst X dL_law_2361 (v := 2) (by decide) ?_
  refine r_iadd X dL_law_2362 ?_
  obtain ⟨k2, ek2, ik2, w⟩ := w
  refine r_sld X dL_law_2363 hX ek2 ik2 ?_
  refine r_aload_n X dL_law_2364 rfl ?_
  obtain ⟨d2, P2, m2, n2, ct2, w⟩ := w
  obtain ⟨⟨x1, x2⟩, w⟩ := w
  refine r_callSH X (As := [.ref l1, .int ((xs k1)), .int ((xs k2)), .ref l3]) dL_law_2365 mh_L_meet ⟨ml_L_249, sm_L_meet⟩ rfl rfl (by simp [Value.category]) x1 x2 ct2 (fun v h2 w1 => ?_)
  have w := w v h2 w1
  obtain ⟨v4, rfl, w⟩ := w
  refine r_istore X dL_law_2368 (by decide) rfl ?_
  refine r_aload_n X dL_law_2370 rfl ?_
  refine r_aload_nR X dL_law_2371 rfl ?_
  refine r_iload X dL_law_2372 rfl ?_
  refine r_iconst X dL_law_2374 (v := 1) (by decide) ?_
  refine r_iadd X dL_law_2375 ?_
  obtain ⟨k5, ek5, ik5, w⟩ := w
  refine r_sld X dL_law_2376 hX ek5 ik5 ?_
  refine r_aload_nR X dL_law_2377 rfl ?_
  refine r_iload X dL_law_2378 rfl ?_
  refine r_iconst X dL_law_2380 (v := 2) (by decide) ?_
  refine r_iadd X dL_law_2381 ?_
  obtain ⟨k6, ek6, ik6, w⟩ := w
  refine r_sld X dL_law_2382 hX ek6 ik6 ?_
  obtain ⟨fs6, es6, w⟩ := w
  obtain ⟨d6, P6, m6, n6, ct6, w⟩ := w
  obtain ⟨⟨x1, x2⟩, w⟩ := w
  refine r_callVC X (As := [.int ((xs k5)), .int ((xs k6))]) dL_law_2383 mk_X12_meet ⟨ml_L_251, im_X12_meet, se_X12_meet⟩ (oF_s es6) (ci_X12).1 rfl rfl rfl (by simp [Value.category]) x1 x2 ct6 (fun _ _ z => z.elim) (fun v h6 w1 => ?_)
  have w := w v h6 w1
  obtain ⟨v8, rfl, w⟩ := w
  refine r_istore X dL_law_2386 (by decide) rfl ?_
  refine r_aload_n X dL_law_2388 rfl ?_
  obtain ⟨fs8, es8, w⟩ := w
  obtain ⟨d8, P8, m8, n8, ct8, w⟩ := w
  obtain ⟨⟨x1, x2⟩, w⟩ := w
  refine r_callVC X (As := []) dL_law_2389 mk_X12_thrown ⟨ml_L_127, im_X12_thrown, se_X12_thrown⟩ (oF_s es8) (ci_X12).1 rfl rfl rfl (by simp [Value.category]) x1 x2 ct8 (fun _ _ z => z.elim) (fun v h8 w1 => ?_)
  have w := w v h8 w1
  obtain ⟨v10, rfl, w⟩ := w
  refine r_iload X dL_law_2392 rfl ?_
  refine r_icmp_eq X dL_law_2394 (tgt := 2399) (by decide) (fun q => ?_) (fun q => ?_)
  · have w := w.1 q
    refine r_iload X dL_law_2399 rfl ?_
    refine r_if_ne X dL_law_2401 (tgt := 2416) (by decide) (fun q => ?_) (fun q => ?_)
    · have w := w.1 q
      refine VV_wk (ls' := [some (.retAddr 100), some (.ref l1), some (.ref l2), some (.ref l3), some (.int l4), none, none]) ?_ w
      exact (And.intro rfl (And.intro rfl (And.intro rfl (And.intro rfl (And.intro rfl trivial)))))
    · have w := w.2 q
      refine r_aload_n X dL_law_2404 rfl ?_
      refine r_iconst X dL_law_2405 (v := 0) (by decide) ?_
      obtain ⟨v11, ev11, w⟩ := w
      obtain ⟨nv11, fv11, cv11, iv11, qv11⟩ := aJ_s ev11
      refine r_lald X dL_law_2406 cv11 iv11 ?_
      rw [qv11]
      refine r_iload X dL_law_2407 rfl ?_
      refine r_i2l X dL_law_2409 ?_
      refine r_lcmp X dL_law_2410 ?_
      refine r_if_eq X dL_law_2411 (tgt := 2416) (by decide) (fun q => ?_) (fun q => ?_)
      · have w := w.1 q
        refine VV_wk (ls' := [some (.retAddr 100), some (.ref l1), some (.ref l2), some (.ref l3), some (.int l4), none, none]) ?_ w
        exact (And.intro rfl (And.intro rfl (And.intro rfl (And.intro rfl (And.intro rfl trivial)))))
      · have w := w.2 q
        refine r_iconst X dL_law_2414 (v := 0) (by decide) ?_
        exact VV_wk (ls' := [none, none, none, none, none, none, none]) trivial w
  · have w := w.2 q
    refine r_iconst X dL_law_2397 (v := 0) (by decide) ?_
    exact VV_wk (ls' := [none, none, none, none, none, none, none]) trivial w

set_option maxRecDepth 10000 in
theorem b_L_law_2416 {g : GG} {p : Program} {e : Env} {R : Room} {s : State} {m : MethodId} {args : Array Value} {below : List Frame} {meth : Method} {c : Code} {Q : State → Prop} {xt : List ExceptionTableEntry} {nm : String} {L : Nat} {xs : Nat → Int32} {kc ks : Nat} (hX : SX g L xs) (X : CX g p s m args meth c cL_law 7 ⟨RL, nm, "([I)Z"⟩ (some .boolean) xt) (l1 : Nat) (l2 : Nat) (l3 : Nat) (l4 : Int32) (h : Hp)
    (w : VV g p e R s m args below meth c 7 Q kc ks 2555 [some (.retAddr 100), some (.ref l1), some (.ref l2), some (.ref l3), some (.int l4), none, none] [] h) : VV g p e R s m args below meth c 7 Q kc ks 2416 [some (.retAddr 100), some (.ref l1), some (.ref l2), some (.ref l3), some (.int l4), none, none] [] h := by
  refine r_goto X dL_law_2416 (tgt := 2555) (by decide) ?_
  refine VV_wk (ls' := [some (.retAddr 100), some (.ref l1), some (.ref l2), some (.ref l3), some (.int l4), none, none]) ?_ w
  exact (And.intro rfl (And.intro rfl (And.intro rfl (And.intro rfl (And.intro rfl trivial)))))

set_option maxRecDepth 10000 in
theorem b_L_law_2419 {g : GG} {p : Program} {e : Env} {R : Room} {s : State} {m : MethodId} {args : Array Value} {below : List Frame} {meth : Method} {c : Code} {Q : State → Prop} {xt : List ExceptionTableEntry} {nm : String} {L : Nat} {xs : Nat → Int32} {kc ks : Nat} (hX : SX g L xs) (X : CX g p s m args meth c cL_law 7 ⟨RL, nm, "([I)Z"⟩ (some .boolean) xt) (l1 : Nat) (l2 : Nat) (l3 : Nat) (l4 : Int32) (h : Hp)
    (w : (∃ k1, (l4 + (1 : Int32)) = nI k1 ∧ k1 < L ∧ (∃ d1 P1 m1 n1, CT g d1 yL_bare (wsH yL_bare cL_bare 4 (some .int) [(0, 9, 12, 13)]) [.ref l1, .int ((xs k1)), .ref l3] h m1 n1 P1 noT ∧ ((d1 + 1 ≤ R.frames ∧ 60 * (d1 + 1) + 200 ≤ R.locals) ∧ kc + m1 ≤ R.cells ∧ ks + n1 ≤ R.slots) ∧ (∀ v h1, P1 v h1 → ∃ v3, v = some (.int v3) ∧ (∃ k4, (l4 + (1 : Int32)) = nI k4 ∧ k4 < L ∧ (∃ fs4, oF h1 l2 11 = some fs4 ∧ (∃ d4 P4 m4 n4, CT g d4 yX12_bare (wsC yX12_bare cX12_bare 4 (some (.int))) [.ref l2, .int ((xs k4))] h1 m4 n4 P4 noT ∧ ((d4 + 1 ≤ R.frames ∧ 60 * (d4 + 1) + 200 ≤ R.locals) ∧ (kc + m1) + m4 ≤ R.cells ∧ (ks + n1) + n4 ≤ R.slots) ∧ (∀ v h4, P4 v h4 → ∃ v6, v = some (.int v6) ∧ (∃ fs6, oF h4 l2 11 = some fs6 ∧ (∃ d6 P6 m6 n6, CT g d6 yX12_thrown (wsC yX12_thrown cX12_thrown 1 (some (.int))) [.ref l2] h4 m6 n6 P6 noT ∧ ((d6 + 1 ≤ R.frames ∧ 60 * (d6 + 1) + 200 ≤ R.locals) ∧ ((kc + m1) + m4) + m6 ≤ R.cells ∧ ((ks + n1) + n4) + n6 ≤ R.slots) ∧ (∀ v h6, P6 v h6 → ∃ v8, v = some (.int v8) ∧ ((v8 = v3 → ((¬ v3 = 0 → VV g p e R s m args below meth c 7 Q ((((kc + m1) + m4) + m6)) ((((ks + n1) + n4) + n6)) 2472 [some (.retAddr 100), some (.ref l1), some (.ref l2), some (.ref l3), some (.int l4), none, none] [] h6) ∧ (v3 = 0 → (∃ v9, aJ h6 l3 ((0 : Int32)) = some v9 ∧ (((lg_cmp v9 ((Int32.toInt64 v6))) = 0 → VV g p e R s m args below meth c 7 Q ((((kc + m1) + m4) + m6)) ((((ks + n1) + n4) + n6)) 2472 [some (.retAddr 100), some (.ref l1), some (.ref l2), some (.ref l3), some (.int l4), none, none] [] h6) ∧ (¬ (lg_cmp v9 ((Int32.toInt64 v6))) = 0 → VV g p e R s m args below meth c 7 Q ((((kc + m1) + m4) + m6)) ((((ks + n1) + n4) + n6)) 2471 [none, none, none, none, none, none, none] [.int ((0 : Int32))] h6)))))) ∧ (¬ v8 = v3 → VV g p e R s m args below meth c 7 Q ((((kc + m1) + m4) + m6)) ((((ks + n1) + n4) + n6)) 2454 [none, none, none, none, none, none, none] [.int ((0 : Int32))] h6))))))))))))) : VV g p e R s m args below meth c 7 Q kc ks 2419 [some (.retAddr 100), some (.ref l1), some (.ref l2), some (.ref l3), some (.int l4), none, none] [] h := by
  refine r_aload_n X dL_law_2419 rfl ?_
  refine r_aload_nR X dL_law_2420 rfl ?_
  refine r_iload X dL_law_2421 rfl ?_
  refine r_iconst X dL_law_2423 (v := 1) (by decide) ?_
  refine r_iadd X dL_law_2424 ?_
  obtain ⟨k1, ek1, ik1, w⟩ := w
  refine r_sld X dL_law_2425 hX ek1 ik1 ?_
  refine r_aload_n X dL_law_2426 rfl ?_
  obtain ⟨d1, P1, m1, n1, ct1, w⟩ := w
  obtain ⟨⟨x1, x2⟩, w⟩ := w
  refine r_callSH X (As := [.ref l1, .int ((xs k1)), .ref l3]) dL_law_2427 mh_L_bare ⟨ml_L_252, sm_L_bare⟩ rfl rfl (by simp [Value.category]) x1 x2 ct1 (fun v h1 w1 => ?_)
  have w := w v h1 w1
  obtain ⟨v3, rfl, w⟩ := w
  refine r_istore X dL_law_2430 (by decide) rfl ?_
  refine r_aload_n X dL_law_2432 rfl ?_
  refine r_aload_nR X dL_law_2433 rfl ?_
  refine r_iload X dL_law_2434 rfl ?_
  refine r_iconst X dL_law_2436 (v := 1) (by decide) ?_
  refine r_iadd X dL_law_2437 ?_
  obtain ⟨k4, ek4, ik4, w⟩ := w
  refine r_sld X dL_law_2438 hX ek4 ik4 ?_
  obtain ⟨fs4, es4, w⟩ := w
  obtain ⟨d4, P4, m4, n4, ct4, w⟩ := w
  obtain ⟨⟨x1, x2⟩, w⟩ := w
  refine r_callVC X (As := [.int ((xs k4))]) dL_law_2439 mk_X12_bare ⟨ml_L_254, im_X12_bare, se_X12_bare⟩ (oF_s es4) (ci_X12).1 rfl rfl rfl (by simp [Value.category]) x1 x2 ct4 (fun _ _ z => z.elim) (fun v h4 w1 => ?_)
  have w := w v h4 w1
  obtain ⟨v6, rfl, w⟩ := w
  refine r_istore X dL_law_2442 (by decide) rfl ?_
  refine r_aload_n X dL_law_2444 rfl ?_
  obtain ⟨fs6, es6, w⟩ := w
  obtain ⟨d6, P6, m6, n6, ct6, w⟩ := w
  obtain ⟨⟨x1, x2⟩, w⟩ := w
  refine r_callVC X (As := []) dL_law_2445 mk_X12_thrown ⟨ml_L_127, im_X12_thrown, se_X12_thrown⟩ (oF_s es6) (ci_X12).1 rfl rfl rfl (by simp [Value.category]) x1 x2 ct6 (fun _ _ z => z.elim) (fun v h6 w1 => ?_)
  have w := w v h6 w1
  obtain ⟨v8, rfl, w⟩ := w
  refine r_iload X dL_law_2448 rfl ?_
  refine r_icmp_eq X dL_law_2450 (tgt := 2455) (by decide) (fun q => ?_) (fun q => ?_)
  · have w := w.1 q
    refine r_iload X dL_law_2455 rfl ?_
    refine r_if_ne X dL_law_2457 (tgt := 2472) (by decide) (fun q => ?_) (fun q => ?_)
    · have w := w.1 q
      refine VV_wk (ls' := [some (.retAddr 100), some (.ref l1), some (.ref l2), some (.ref l3), some (.int l4), none, none]) ?_ w
      exact (And.intro rfl (And.intro rfl (And.intro rfl (And.intro rfl (And.intro rfl trivial)))))
    · have w := w.2 q
      refine r_aload_n X dL_law_2460 rfl ?_
      refine r_iconst X dL_law_2461 (v := 0) (by decide) ?_
      obtain ⟨v9, ev9, w⟩ := w
      obtain ⟨nv9, fv9, cv9, iv9, qv9⟩ := aJ_s ev9
      refine r_lald X dL_law_2462 cv9 iv9 ?_
      rw [qv9]
      refine r_iload X dL_law_2463 rfl ?_
      refine r_i2l X dL_law_2465 ?_
      refine r_lcmp X dL_law_2466 ?_
      refine r_if_eq X dL_law_2467 (tgt := 2472) (by decide) (fun q => ?_) (fun q => ?_)
      · have w := w.1 q
        refine VV_wk (ls' := [some (.retAddr 100), some (.ref l1), some (.ref l2), some (.ref l3), some (.int l4), none, none]) ?_ w
        exact (And.intro rfl (And.intro rfl (And.intro rfl (And.intro rfl (And.intro rfl trivial)))))
      · have w := w.2 q
        refine r_iconst X dL_law_2470 (v := 0) (by decide) ?_
        exact VV_wk (ls' := [none, none, none, none, none, none, none]) trivial w
  · have w := w.2 q
    refine r_iconst X dL_law_2453 (v := 0) (by decide) ?_
    exact VV_wk (ls' := [none, none, none, none, none, none, none]) trivial w

set_option maxRecDepth 10000 in
theorem b_L_law_2472 {g : GG} {p : Program} {e : Env} {R : Room} {s : State} {m : MethodId} {args : Array Value} {below : List Frame} {meth : Method} {c : Code} {Q : State → Prop} {xt : List ExceptionTableEntry} {nm : String} {L : Nat} {xs : Nat → Int32} {kc ks : Nat} (hX : SX g L xs) (X : CX g p s m args meth c cL_law 7 ⟨RL, nm, "([I)Z"⟩ (some .boolean) xt) (l1 : Nat) (l2 : Nat) (l3 : Nat) (l4 : Int32) (h : Hp)
    (w : VV g p e R s m args below meth c 7 Q kc ks 2555 [some (.retAddr 100), some (.ref l1), some (.ref l2), some (.ref l3), some (.int l4), none, none] [] h) : VV g p e R s m args below meth c 7 Q kc ks 2472 [some (.retAddr 100), some (.ref l1), some (.ref l2), some (.ref l3), some (.int l4), none, none] [] h := by
  refine r_goto X dL_law_2472 (tgt := 2555) (by decide) ?_
  refine VV_wk (ls' := [some (.retAddr 100), some (.ref l1), some (.ref l2), some (.ref l3), some (.int l4), none, none]) ?_ w
  exact (And.intro rfl (And.intro rfl (And.intro rfl (And.intro rfl (And.intro rfl trivial)))))

set_option maxRecDepth 10000 in
theorem b_L_law_2475 {g : GG} {p : Program} {e : Env} {R : Room} {s : State} {m : MethodId} {args : Array Value} {below : List Frame} {meth : Method} {c : Code} {Q : State → Prop} {xt : List ExceptionTableEntry} {nm : String} {L : Nat} {xs : Nat → Int32} {kc ks : Nat} (hX : SX g L xs) (X : CX g p s m args meth c cL_law 7 ⟨RL, nm, "([I)Z"⟩ (some .boolean) xt) (l1 : Nat) (l2 : Nat) (l3 : Nat) (l4 : Int32) (h : Hp)
    (w : (∃ k1, (l4 + (1 : Int32)) = nI k1 ∧ k1 < L ∧ (∃ d1 P1 m1 n1, CT g d1 yL_load (wsH yL_load cL_load 4 (some .int) [(0, 9, 12, 13)]) [.ref l1, .int ((xs k1)), .ref l3] h m1 n1 P1 noT ∧ ((d1 + 1 ≤ R.frames ∧ 60 * (d1 + 1) + 200 ≤ R.locals) ∧ kc + m1 ≤ R.cells ∧ ks + n1 ≤ R.slots) ∧ (∀ v h1, P1 v h1 → ∃ v3, v = some (.int v3) ∧ (∃ k4, (l4 + (1 : Int32)) = nI k4 ∧ k4 < L ∧ (∃ fs4, oF h1 l2 11 = some fs4 ∧ (∃ d4 P4 m4 n4, CT g d4 yX12_load (wsC yX12_load cX12_load 4 (some (.int))) [.ref l2, .int ((xs k4))] h1 m4 n4 P4 noT ∧ ((d4 + 1 ≤ R.frames ∧ 60 * (d4 + 1) + 200 ≤ R.locals) ∧ (kc + m1) + m4 ≤ R.cells ∧ (ks + n1) + n4 ≤ R.slots) ∧ (∀ v h4, P4 v h4 → ∃ v6, v = some (.int v6) ∧ (∃ fs6, oF h4 l2 11 = some fs6 ∧ (∃ d6 P6 m6 n6, CT g d6 yX12_thrown (wsC yX12_thrown cX12_thrown 1 (some (.int))) [.ref l2] h4 m6 n6 P6 noT ∧ ((d6 + 1 ≤ R.frames ∧ 60 * (d6 + 1) + 200 ≤ R.locals) ∧ ((kc + m1) + m4) + m6 ≤ R.cells ∧ ((ks + n1) + n4) + n6 ≤ R.slots) ∧ (∀ v h6, P6 v h6 → ∃ v8, v = some (.int v8) ∧ ((v8 = v3 → ((¬ v3 = 0 → VV g p e R s m args below meth c 7 Q ((((kc + m1) + m4) + m6)) ((((ks + n1) + n4) + n6)) 2528 [some (.retAddr 100), some (.ref l1), some (.ref l2), some (.ref l3), some (.int l4), none, none] [] h6) ∧ (v3 = 0 → (∃ v9, aJ h6 l3 ((0 : Int32)) = some v9 ∧ (((lg_cmp v9 ((Int32.toInt64 v6))) = 0 → VV g p e R s m args below meth c 7 Q ((((kc + m1) + m4) + m6)) ((((ks + n1) + n4) + n6)) 2528 [some (.retAddr 100), some (.ref l1), some (.ref l2), some (.ref l3), some (.int l4), none, none] [] h6) ∧ (¬ (lg_cmp v9 ((Int32.toInt64 v6))) = 0 → VV g p e R s m args below meth c 7 Q ((((kc + m1) + m4) + m6)) ((((ks + n1) + n4) + n6)) 2527 [none, none, none, none, none, none, none] [.int ((0 : Int32))] h6)))))) ∧ (¬ v8 = v3 → VV g p e R s m args below meth c 7 Q ((((kc + m1) + m4) + m6)) ((((ks + n1) + n4) + n6)) 2510 [none, none, none, none, none, none, none] [.int ((0 : Int32))] h6))))))))))))) : VV g p e R s m args below meth c 7 Q kc ks 2475 [some (.retAddr 100), some (.ref l1), some (.ref l2), some (.ref l3), some (.int l4), none, none] [] h := by
  refine r_aload_n X dL_law_2475 rfl ?_
  refine r_aload_nR X dL_law_2476 rfl ?_
  refine r_iload X dL_law_2477 rfl ?_
  refine r_iconst X dL_law_2479 (v := 1) (by decide) ?_
  refine r_iadd X dL_law_2480 ?_
  obtain ⟨k1, ek1, ik1, w⟩ := w
  refine r_sld X dL_law_2481 hX ek1 ik1 ?_
  refine r_aload_n X dL_law_2482 rfl ?_
  obtain ⟨d1, P1, m1, n1, ct1, w⟩ := w
  obtain ⟨⟨x1, x2⟩, w⟩ := w
  refine r_callSH X (As := [.ref l1, .int ((xs k1)), .ref l3]) dL_law_2483 mh_L_load ⟨ml_L_255, sm_L_load⟩ rfl rfl (by simp [Value.category]) x1 x2 ct1 (fun v h1 w1 => ?_)
  have w := w v h1 w1
  obtain ⟨v3, rfl, w⟩ := w
  refine r_istore X dL_law_2486 (by decide) rfl ?_
  refine r_aload_n X dL_law_2488 rfl ?_
  refine r_aload_nR X dL_law_2489 rfl ?_
  refine r_iload X dL_law_2490 rfl ?_
  refine r_iconst X dL_law_2492 (v := 1) (by decide) ?_
  refine r_iadd X dL_law_2493 ?_
  obtain ⟨k4, ek4, ik4, w⟩ := w
  refine r_sld X dL_law_2494 hX ek4 ik4 ?_
  obtain ⟨fs4, es4, w⟩ := w
  obtain ⟨d4, P4, m4, n4, ct4, w⟩ := w
  obtain ⟨⟨x1, x2⟩, w⟩ := w
  refine r_callVC X (As := [.int ((xs k4))]) dL_law_2495 mk_X12_load ⟨ml_L_257, im_X12_load, se_X12_load⟩ (oF_s es4) (ci_X12).1 rfl rfl rfl (by simp [Value.category]) x1 x2 ct4 (fun _ _ z => z.elim) (fun v h4 w1 => ?_)
  have w := w v h4 w1
  obtain ⟨v6, rfl, w⟩ := w
  refine r_istore X dL_law_2498 (by decide) rfl ?_
  refine r_aload_n X dL_law_2500 rfl ?_
  obtain ⟨fs6, es6, w⟩ := w
  obtain ⟨d6, P6, m6, n6, ct6, w⟩ := w
  obtain ⟨⟨x1, x2⟩, w⟩ := w
  refine r_callVC X (As := []) dL_law_2501 mk_X12_thrown ⟨ml_L_127, im_X12_thrown, se_X12_thrown⟩ (oF_s es6) (ci_X12).1 rfl rfl rfl (by simp [Value.category]) x1 x2 ct6 (fun _ _ z => z.elim) (fun v h6 w1 => ?_)
  have w := w v h6 w1
  obtain ⟨v8, rfl, w⟩ := w
  refine r_iload X dL_law_2504 rfl ?_
  refine r_icmp_eq X dL_law_2506 (tgt := 2511) (by decide) (fun q => ?_) (fun q => ?_)
  · have w := w.1 q
    refine r_iload X dL_law_2511 rfl ?_
    refine r_if_ne X dL_law_2513 (tgt := 2528) (by decide) (fun q => ?_) (fun q => ?_)
    · have w := w.1 q
      refine VV_wk (ls' := [some (.retAddr 100), some (.ref l1), some (.ref l2), some (.ref l3), some (.int l4), none, none]) ?_ w
      exact (And.intro rfl (And.intro rfl (And.intro rfl (And.intro rfl (And.intro rfl trivial)))))
    · have w := w.2 q
      refine r_aload_n X dL_law_2516 rfl ?_
      refine r_iconst X dL_law_2517 (v := 0) (by decide) ?_
      obtain ⟨v9, ev9, w⟩ := w
      obtain ⟨nv9, fv9, cv9, iv9, qv9⟩ := aJ_s ev9
      refine r_lald X dL_law_2518 cv9 iv9 ?_
      rw [qv9]
      refine r_iload X dL_law_2519 rfl ?_
      refine r_i2l X dL_law_2521 ?_
      refine r_lcmp X dL_law_2522 ?_
      refine r_if_eq X dL_law_2523 (tgt := 2528) (by decide) (fun q => ?_) (fun q => ?_)
      · have w := w.1 q
        refine VV_wk (ls' := [some (.retAddr 100), some (.ref l1), some (.ref l2), some (.ref l3), some (.int l4), none, none]) ?_ w
        exact (And.intro rfl (And.intro rfl (And.intro rfl (And.intro rfl (And.intro rfl trivial)))))
      · have w := w.2 q
        refine r_iconst X dL_law_2526 (v := 0) (by decide) ?_
        exact VV_wk (ls' := [none, none, none, none, none, none, none]) trivial w
  · have w := w.2 q
    refine r_iconst X dL_law_2509 (v := 0) (by decide) ?_
    exact VV_wk (ls' := [none, none, none, none, none, none, none]) trivial w

set_option maxRecDepth 10000 in
theorem b_L_law_2528 {g : GG} {p : Program} {e : Env} {R : Room} {s : State} {m : MethodId} {args : Array Value} {below : List Frame} {meth : Method} {c : Code} {Q : State → Prop} {xt : List ExceptionTableEntry} {nm : String} {L : Nat} {xs : Nat → Int32} {kc ks : Nat} (hX : SX g L xs) (X : CX g p s m args meth c cL_law 7 ⟨RL, nm, "([I)Z"⟩ (some .boolean) xt) (l1 : Nat) (l2 : Nat) (l3 : Nat) (l4 : Int32) (h : Hp)
    (w : VV g p e R s m args below meth c 7 Q kc ks 2555 [some (.retAddr 100), some (.ref l1), some (.ref l2), some (.ref l3), some (.int l4), none, none] [] h) : VV g p e R s m args below meth c 7 Q kc ks 2528 [some (.retAddr 100), some (.ref l1), some (.ref l2), some (.ref l3), some (.int l4), none, none] [] h := by
  refine r_goto X dL_law_2528 (tgt := 2555) (by decide) ?_
  refine VV_wk (ls' := [some (.retAddr 100), some (.ref l1), some (.ref l2), some (.ref l3), some (.int l4), none, none]) ?_ w
  exact (And.intro rfl (And.intro rfl (And.intro rfl (And.intro rfl (And.intro rfl trivial)))))

set_option maxRecDepth 10000 in
theorem b_L_law_2531 {g : GG} {p : Program} {e : Env} {R : Room} {s : State} {m : MethodId} {args : Array Value} {below : List Frame} {meth : Method} {c : Code} {Q : State → Prop} {xt : List ExceptionTableEntry} {nm : String} {L : Nat} {xs : Nat → Int32} {kc ks : Nat} (hX : SX g L xs) (X : CX g p s m args meth c cL_law 7 ⟨RL, nm, "([I)Z"⟩ (some .boolean) xt) (l1 : Nat) (l2 : Nat) (l3 : Nat) (l4 : Int32) (h : Hp)
    (w : (∃ fs0, oF h l1 10 = some fs0 ∧ (∃ d0 P0 m0 n0, CT g d0 yX11_image (wsC yX11_image cX11_image 1 none) [.ref l1] h m0 n0 P0 noT ∧ ((d0 + 1 ≤ R.frames ∧ 60 * (d0 + 1) + 200 ≤ R.locals) ∧ kc + m0 ≤ R.cells ∧ ks + n0 ≤ R.slots) ∧ (∀ v h0, P0 v h0 → v = none ∧ (∃ fs1, oF h0 l2 11 = some fs1 ∧ (∃ d1 P1 m1 n1, CT g d1 yX12_image (wsC yX12_image cX12_image 2 none) [.ref l2] h0 m1 n1 P1 noT ∧ ((d1 + 1 ≤ R.frames ∧ 60 * (d1 + 1) + 200 ≤ R.locals) ∧ (kc + m0) + m1 ≤ R.cells ∧ (ks + n0) + n1 ≤ R.slots) ∧ (∀ v h1, P1 v h1 → v = none ∧ VV g p e R s m args below meth c 7 Q (((kc + m0) + m1)) (((ks + n0) + n1)) 2555 [some (.retAddr 100), some (.ref l1), some (.ref l2), some (.ref l3), some (.int l4), none, none] [] h1))))))) : VV g p e R s m args below meth c 7 Q kc ks 2531 [some (.retAddr 100), some (.ref l1), some (.ref l2), some (.ref l3), some (.int l4), none, none] [] h := by
  refine r_aload_n X dL_law_2531 rfl ?_
  obtain ⟨fs0, es0, w⟩ := w
  obtain ⟨d0, P0, m0, n0, ct0, w⟩ := w
  obtain ⟨⟨x1, x2⟩, w⟩ := w
  refine r_callVC X (As := []) dL_law_2532 mk_X11_image ⟨ml_L_258, im_X11_image, se_X11_image⟩ (oF_s es0) (ci_X11).1 rfl rfl rfl (by simp [Value.category]) x1 x2 ct0 (fun _ _ z => z.elim) (fun v h0 w1 => ?_)
  have w := w v h0 w1
  obtain ⟨rfl, w⟩ := w
  refine r_aload_n X dL_law_2535 rfl ?_
  obtain ⟨fs1, es1, w⟩ := w
  obtain ⟨d1, P1, m1, n1, ct1, w⟩ := w
  obtain ⟨⟨x1, x2⟩, w⟩ := w
  refine r_callVC X (As := []) dL_law_2536 mk_X12_image ⟨ml_L_261, im_X12_image, se_X12_image⟩ (oF_s es1) (ci_X12).1 rfl rfl rfl (by simp [Value.category]) x1 x2 ct1 (fun _ _ z => z.elim) (fun v h1 w1 => ?_)
  have w := w v h1 w1
  obtain ⟨rfl, w⟩ := w
  refine r_goto X dL_law_2539 (tgt := 2555) (by decide) ?_
  refine VV_wk (ls' := [some (.retAddr 100), some (.ref l1), some (.ref l2), some (.ref l3), some (.int l4), none, none]) ?_ w
  exact (And.intro rfl (And.intro rfl (And.intro rfl (And.intro rfl (And.intro rfl trivial)))))

set_option maxRecDepth 10000 in
theorem b_L_law_2542 {g : GG} {p : Program} {e : Env} {R : Room} {s : State} {m : MethodId} {args : Array Value} {below : List Frame} {meth : Method} {c : Code} {Q : State → Prop} {xt : List ExceptionTableEntry} {nm : String} {L : Nat} {xs : Nat → Int32} {kc ks : Nat} (hX : SX g L xs) (X : CX g p s m args meth c cL_law 7 ⟨RL, nm, "([I)Z"⟩ (some .boolean) xt) (l1 : Nat) (l2 : Nat) (l3 : Nat) (l4 : Int32) (h : Hp)
    (w : (∃ fs0, oF h l1 10 = some fs0 ∧ (∃ d0 P0 m0 n0, CT g d0 yX11_restore (wsC yX11_restore cX11_restore 1 (some (.boolean))) [.ref l1] h m0 n0 P0 noT ∧ ((d0 + 1 ≤ R.frames ∧ 60 * (d0 + 1) + 200 ≤ R.locals) ∧ kc + m0 ≤ R.cells ∧ ks + n0 ≤ R.slots) ∧ (∀ v h0, P0 v h0 → ∃ v2, v = some (.int v2) ∧ (∃ fs2, oF h0 l2 11 = some fs2 ∧ (∃ d2 P2 m2 n2, CT g d2 yX12_restore (wsC yX12_restore cX12_restore 2 (some (.boolean))) [.ref l2] h0 m2 n2 P2 noT ∧ ((d2 + 1 ≤ R.frames ∧ 60 * (d2 + 1) + 200 ≤ R.locals) ∧ (kc + m0) + m2 ≤ R.cells ∧ (ks + n0) + n2 ≤ R.slots) ∧ (∀ v h2, P2 v h2 → ∃ v4, v = some (.int v4) ∧ ((v2 = v4 → VV g p e R s m args below meth c 7 Q (((kc + m0) + m2)) (((ks + n0) + n2)) 2555 [some (.retAddr 100), some (.ref l1), some (.ref l2), some (.ref l3), some (.int l4), none, none] [] h2) ∧ (¬ v2 = v4 → VV g p e R s m args below meth c 7 Q (((kc + m0) + m2)) (((ks + n0) + n2)) 2554 [none, none, none, none, none, none, none] [.int ((0 : Int32))] h2))))))))) : VV g p e R s m args below meth c 7 Q kc ks 2542 [some (.retAddr 100), some (.ref l1), some (.ref l2), some (.ref l3), some (.int l4), none, none] [] h := by
  refine r_aload_n X dL_law_2542 rfl ?_
  obtain ⟨fs0, es0, w⟩ := w
  obtain ⟨d0, P0, m0, n0, ct0, w⟩ := w
  obtain ⟨⟨x1, x2⟩, w⟩ := w
  refine r_callVC X (As := []) dL_law_2543 mk_X11_restore ⟨ml_L_262, im_X11_restore, se_X11_restore⟩ (oF_s es0) (ci_X11).1 rfl rfl rfl (by simp [Value.category]) x1 x2 ct0 (fun _ _ z => z.elim) (fun v h0 w1 => ?_)
  have w := w v h0 w1
  obtain ⟨v2, rfl, w⟩ := w
  refine r_aload_n X dL_law_2546 rfl ?_
  obtain ⟨fs2, es2, w⟩ := w
  obtain ⟨d2, P2, m2, n2, ct2, w⟩ := w
  obtain ⟨⟨x1, x2⟩, w⟩ := w
  refine r_callVC X (As := []) dL_law_2547 mk_X12_restore ⟨ml_L_266, im_X12_restore, se_X12_restore⟩ (oF_s es2) (ci_X12).1 rfl rfl rfl (by simp [Value.category]) x1 x2 ct2 (fun _ _ z => z.elim) (fun v h2 w1 => ?_)
  have w := w v h2 w1
  obtain ⟨v4, rfl, w⟩ := w
  refine r_icmp_eq X dL_law_2550 (tgt := 2555) (by decide) (fun q => ?_) (fun q => ?_)
  · have w := w.1 q
    refine VV_wk (ls' := [some (.retAddr 100), some (.ref l1), some (.ref l2), some (.ref l3), some (.int l4), none, none]) ?_ w
    exact (And.intro rfl (And.intro rfl (And.intro rfl (And.intro rfl (And.intro rfl trivial)))))
  · have w := w.2 q
    refine r_iconst X dL_law_2553 (v := 0) (by decide) ?_
    exact VV_wk (ls' := [none, none, none, none, none, none, none]) trivial w

set_option maxRecDepth 10000 in
theorem b_L_law_2555 {g : GG} {p : Program} {e : Env} {R : Room} {s : State} {m : MethodId} {args : Array Value} {below : List Frame} {meth : Method} {c : Code} {Q : State → Prop} {xt : List ExceptionTableEntry} {nm : String} {L : Nat} {xs : Nat → Int32} {kc ks : Nat} (hX : SX g L xs) (X : CX g p s m args meth c cL_law 7 ⟨RL, nm, "([I)Z"⟩ (some .boolean) xt) (l1 : Nat) (l2 : Nat) (l3 : Nat) (l4 : Int32) (h : Hp)
    (w : VV g p e R s m args below meth c 7 Q kc ks 23 [some (.retAddr 100), some (.ref l1), some (.ref l2), some (.ref l3), some (.int ((l4 + 6))), none, none] [] h) : VV g p e R s m args below meth c 7 Q kc ks 2555 [some (.retAddr 100), some (.ref l1), some (.ref l2), some (.ref l3), some (.int l4), none, none] [] h := by
  refine r_iinc X dL_law_2555 rfl (v := (l4 + 6)) rfl (by decide) rfl ?_
  refine r_goto X dL_law_2558 (tgt := 23) (by decide) ?_
  refine VV_wk (ls' := [some (.retAddr 100), some (.ref l1), some (.ref l2), some (.ref l3), some (.int ((l4 + 6))), none, none]) ?_ w
  exact (And.intro rfl (And.intro rfl (And.intro rfl (And.intro rfl (And.intro rfl trivial)))))

