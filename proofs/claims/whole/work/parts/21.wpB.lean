set_option maxRecDepth 10000 in
theorem b_J13_bitCount_95d88_0 {g : GG} {K : KX} {D mc ms : Nat} {Pr : Option Value → Hp → Prop} {Pt : String → Hp → Prop} {kc ks : Nat} (hg : GOK g) (hD : 8 ≤ D) (hk : kc ≤ mc ∧ ks ≤ ms) (X : CB g K cJ13_bitCount_95d88 2 yJ13_bitCount_95d88 (some (.int)) []) (l0 : Int64) (h : Hp)
    (w : Pr (some (.int (((Int64.toInt32 (((((((((l0 - ((Int64.toUInt64 l0 >>> ((Int32.toInt64 ((1 : Int32))).toUInt64 &&& Int64.toUInt64 63)).toInt64 &&& (6148914691236517205 : Int64))) &&& (3689348814741910323 : Int64)) + ((Int64.toUInt64 ((l0 - ((Int64.toUInt64 l0 >>> ((Int32.toInt64 ((1 : Int32))).toUInt64 &&& Int64.toUInt64 63)).toInt64 &&& (6148914691236517205 : Int64)))) >>> ((Int32.toInt64 ((2 : Int32))).toUInt64 &&& Int64.toUInt64 63)).toInt64 &&& (3689348814741910323 : Int64))) + (Int64.toUInt64 ((((l0 - ((Int64.toUInt64 l0 >>> ((Int32.toInt64 ((1 : Int32))).toUInt64 &&& Int64.toUInt64 63)).toInt64 &&& (6148914691236517205 : Int64))) &&& (3689348814741910323 : Int64)) + ((Int64.toUInt64 ((l0 - ((Int64.toUInt64 l0 >>> ((Int32.toInt64 ((1 : Int32))).toUInt64 &&& Int64.toUInt64 63)).toInt64 &&& (6148914691236517205 : Int64)))) >>> ((Int32.toInt64 ((2 : Int32))).toUInt64 &&& Int64.toUInt64 63)).toInt64 &&& (3689348814741910323 : Int64)))) >>> ((Int32.toInt64 ((4 : Int32))).toUInt64 &&& Int64.toUInt64 63)).toInt64) &&& (1085102592571150095 : Int64)) + (Int64.toUInt64 ((((((l0 - ((Int64.toUInt64 l0 >>> ((Int32.toInt64 ((1 : Int32))).toUInt64 &&& Int64.toUInt64 63)).toInt64 &&& (6148914691236517205 : Int64))) &&& (3689348814741910323 : Int64)) + ((Int64.toUInt64 ((l0 - ((Int64.toUInt64 l0 >>> ((Int32.toInt64 ((1 : Int32))).toUInt64 &&& Int64.toUInt64 63)).toInt64 &&& (6148914691236517205 : Int64)))) >>> ((Int32.toInt64 ((2 : Int32))).toUInt64 &&& Int64.toUInt64 63)).toInt64 &&& (3689348814741910323 : Int64))) + (Int64.toUInt64 ((((l0 - ((Int64.toUInt64 l0 >>> ((Int32.toInt64 ((1 : Int32))).toUInt64 &&& Int64.toUInt64 63)).toInt64 &&& (6148914691236517205 : Int64))) &&& (3689348814741910323 : Int64)) + ((Int64.toUInt64 ((l0 - ((Int64.toUInt64 l0 >>> ((Int32.toInt64 ((1 : Int32))).toUInt64 &&& Int64.toUInt64 63)).toInt64 &&& (6148914691236517205 : Int64)))) >>> ((Int32.toInt64 ((2 : Int32))).toUInt64 &&& Int64.toUInt64 63)).toInt64 &&& (3689348814741910323 : Int64)))) >>> ((Int32.toInt64 ((4 : Int32))).toUInt64 &&& Int64.toUInt64 63)).toInt64) &&& (1085102592571150095 : Int64))) >>> ((Int32.toInt64 ((8 : Int32))).toUInt64 &&& Int64.toUInt64 63)).toInt64) + (Int64.toUInt64 (((((((l0 - ((Int64.toUInt64 l0 >>> ((Int32.toInt64 ((1 : Int32))).toUInt64 &&& Int64.toUInt64 63)).toInt64 &&& (6148914691236517205 : Int64))) &&& (3689348814741910323 : Int64)) + ((Int64.toUInt64 ((l0 - ((Int64.toUInt64 l0 >>> ((Int32.toInt64 ((1 : Int32))).toUInt64 &&& Int64.toUInt64 63)).toInt64 &&& (6148914691236517205 : Int64)))) >>> ((Int32.toInt64 ((2 : Int32))).toUInt64 &&& Int64.toUInt64 63)).toInt64 &&& (3689348814741910323 : Int64))) + (Int64.toUInt64 ((((l0 - ((Int64.toUInt64 l0 >>> ((Int32.toInt64 ((1 : Int32))).toUInt64 &&& Int64.toUInt64 63)).toInt64 &&& (6148914691236517205 : Int64))) &&& (3689348814741910323 : Int64)) + ((Int64.toUInt64 ((l0 - ((Int64.toUInt64 l0 >>> ((Int32.toInt64 ((1 : Int32))).toUInt64 &&& Int64.toUInt64 63)).toInt64 &&& (6148914691236517205 : Int64)))) >>> ((Int32.toInt64 ((2 : Int32))).toUInt64 &&& Int64.toUInt64 63)).toInt64 &&& (3689348814741910323 : Int64)))) >>> ((Int32.toInt64 ((4 : Int32))).toUInt64 &&& Int64.toUInt64 63)).toInt64) &&& (1085102592571150095 : Int64)) + (Int64.toUInt64 ((((((l0 - ((Int64.toUInt64 l0 >>> ((Int32.toInt64 ((1 : Int32))).toUInt64 &&& Int64.toUInt64 63)).toInt64 &&& (6148914691236517205 : Int64))) &&& (3689348814741910323 : Int64)) + ((Int64.toUInt64 ((l0 - ((Int64.toUInt64 l0 >>> ((Int32.toInt64 ((1 : Int32))).toUInt64 &&& Int64.toUInt64 63)).toInt64 &&& (6148914691236517205 : Int64)))) >>> ((Int32.toInt64 ((2 : Int32))).toUInt64 &&& Int64.toUInt64 63)).toInt64 &&& (3689348814741910323 : Int64))) + (Int64.toUInt64 ((((l0 - ((Int64.toUInt64 l0 >>> ((Int32.toInt64 ((1 : Int32))).toUInt64 &&& Int64.toUInt64 63)).toInt64 &&& (6148914691236517205 : Int64))) &&& (3689348814741910323 : Int64)) + ((Int64.toUInt64 ((l0 - ((Int64.toUInt64 l0 >>> ((Int32.toInt64 ((1 : Int32))).toUInt64 &&& Int64.toUInt64 63)).toInt64 &&& (6148914691236517205 : Int64)))) >>> ((Int32.toInt64 ((2 : Int32))).toUInt64 &&& Int64.toUInt64 63)).toInt64 &&& (3689348814741910323 : Int64)))) >>> ((Int32.toInt64 ((4 : Int32))).toUInt64 &&& Int64.toUInt64 63)).toInt64) &&& (1085102592571150095 : Int64))) >>> ((Int32.toInt64 ((8 : Int32))).toUInt64 &&& Int64.toUInt64 63)).toInt64)) >>> ((Int32.toInt64 ((16 : Int32))).toUInt64 &&& Int64.toUInt64 63)).toInt64) + (Int64.toUInt64 ((((((((l0 - ((Int64.toUInt64 l0 >>> ((Int32.toInt64 ((1 : Int32))).toUInt64 &&& Int64.toUInt64 63)).toInt64 &&& (6148914691236517205 : Int64))) &&& (3689348814741910323 : Int64)) + ((Int64.toUInt64 ((l0 - ((Int64.toUInt64 l0 >>> ((Int32.toInt64 ((1 : Int32))).toUInt64 &&& Int64.toUInt64 63)).toInt64 &&& (6148914691236517205 : Int64)))) >>> ((Int32.toInt64 ((2 : Int32))).toUInt64 &&& Int64.toUInt64 63)).toInt64 &&& (3689348814741910323 : Int64))) + (Int64.toUInt64 ((((l0 - ((Int64.toUInt64 l0 >>> ((Int32.toInt64 ((1 : Int32))).toUInt64 &&& Int64.toUInt64 63)).toInt64 &&& (6148914691236517205 : Int64))) &&& (3689348814741910323 : Int64)) + ((Int64.toUInt64 ((l0 - ((Int64.toUInt64 l0 >>> ((Int32.toInt64 ((1 : Int32))).toUInt64 &&& Int64.toUInt64 63)).toInt64 &&& (6148914691236517205 : Int64)))) >>> ((Int32.toInt64 ((2 : Int32))).toUInt64 &&& Int64.toUInt64 63)).toInt64 &&& (3689348814741910323 : Int64)))) >>> ((Int32.toInt64 ((4 : Int32))).toUInt64 &&& Int64.toUInt64 63)).toInt64) &&& (1085102592571150095 : Int64)) + (Int64.toUInt64 ((((((l0 - ((Int64.toUInt64 l0 >>> ((Int32.toInt64 ((1 : Int32))).toUInt64 &&& Int64.toUInt64 63)).toInt64 &&& (6148914691236517205 : Int64))) &&& (3689348814741910323 : Int64)) + ((Int64.toUInt64 ((l0 - ((Int64.toUInt64 l0 >>> ((Int32.toInt64 ((1 : Int32))).toUInt64 &&& Int64.toUInt64 63)).toInt64 &&& (6148914691236517205 : Int64)))) >>> ((Int32.toInt64 ((2 : Int32))).toUInt64 &&& Int64.toUInt64 63)).toInt64 &&& (3689348814741910323 : Int64))) + (Int64.toUInt64 ((((l0 - ((Int64.toUInt64 l0 >>> ((Int32.toInt64 ((1 : Int32))).toUInt64 &&& Int64.toUInt64 63)).toInt64 &&& (6148914691236517205 : Int64))) &&& (3689348814741910323 : Int64)) + ((Int64.toUInt64 ((l0 - ((Int64.toUInt64 l0 >>> ((Int32.toInt64 ((1 : Int32))).toUInt64 &&& Int64.toUInt64 63)).toInt64 &&& (6148914691236517205 : Int64)))) >>> ((Int32.toInt64 ((2 : Int32))).toUInt64 &&& Int64.toUInt64 63)).toInt64 &&& (3689348814741910323 : Int64)))) >>> ((Int32.toInt64 ((4 : Int32))).toUInt64 &&& Int64.toUInt64 63)).toInt64) &&& (1085102592571150095 : Int64))) >>> ((Int32.toInt64 ((8 : Int32))).toUInt64 &&& Int64.toUInt64 63)).toInt64) + (Int64.toUInt64 (((((((l0 - ((Int64.toUInt64 l0 >>> ((Int32.toInt64 ((1 : Int32))).toUInt64 &&& Int64.toUInt64 63)).toInt64 &&& (6148914691236517205 : Int64))) &&& (3689348814741910323 : Int64)) + ((Int64.toUInt64 ((l0 - ((Int64.toUInt64 l0 >>> ((Int32.toInt64 ((1 : Int32))).toUInt64 &&& Int64.toUInt64 63)).toInt64 &&& (6148914691236517205 : Int64)))) >>> ((Int32.toInt64 ((2 : Int32))).toUInt64 &&& Int64.toUInt64 63)).toInt64 &&& (3689348814741910323 : Int64))) + (Int64.toUInt64 ((((l0 - ((Int64.toUInt64 l0 >>> ((Int32.toInt64 ((1 : Int32))).toUInt64 &&& Int64.toUInt64 63)).toInt64 &&& (6148914691236517205 : Int64))) &&& (3689348814741910323 : Int64)) + ((Int64.toUInt64 ((l0 - ((Int64.toUInt64 l0 >>> ((Int32.toInt64 ((1 : Int32))).toUInt64 &&& Int64.toUInt64 63)).toInt64 &&& (6148914691236517205 : Int64)))) >>> ((Int32.toInt64 ((2 : Int32))).toUInt64 &&& Int64.toUInt64 63)).toInt64 &&& (3689348814741910323 : Int64)))) >>> ((Int32.toInt64 ((4 : Int32))).toUInt64 &&& Int64.toUInt64 63)).toInt64) &&& (1085102592571150095 : Int64)) + (Int64.toUInt64 ((((((l0 - ((Int64.toUInt64 l0 >>> ((Int32.toInt64 ((1 : Int32))).toUInt64 &&& Int64.toUInt64 63)).toInt64 &&& (6148914691236517205 : Int64))) &&& (3689348814741910323 : Int64)) + ((Int64.toUInt64 ((l0 - ((Int64.toUInt64 l0 >>> ((Int32.toInt64 ((1 : Int32))).toUInt64 &&& Int64.toUInt64 63)).toInt64 &&& (6148914691236517205 : Int64)))) >>> ((Int32.toInt64 ((2 : Int32))).toUInt64 &&& Int64.toUInt64 63)).toInt64 &&& (3689348814741910323 : Int64))) + (Int64.toUInt64 ((((l0 - ((Int64.toUInt64 l0 >>> ((Int32.toInt64 ((1 : Int32))).toUInt64 &&& Int64.toUInt64 63)).toInt64 &&& (6148914691236517205 : Int64))) &&& (3689348814741910323 : Int64)) + ((Int64.toUInt64 ((l0 - ((Int64.toUInt64 l0 >>> ((Int32.toInt64 ((1 : Int32))).toUInt64 &&& Int64.toUInt64 63)).toInt64 &&& (6148914691236517205 : Int64)))) >>> ((Int32.toInt64 ((2 : Int32))).toUInt64 &&& Int64.toUInt64 63)).toInt64 &&& (3689348814741910323 : Int64)))) >>> ((Int32.toInt64 ((4 : Int32))).toUInt64 &&& Int64.toUInt64 63)).toInt64) &&& (1085102592571150095 : Int64))) >>> ((Int32.toInt64 ((8 : Int32))).toUInt64 &&& Int64.toUInt64 63)).toInt64)) >>> ((Int32.toInt64 ((16 : Int32))).toUInt64 &&& Int64.toUInt64 63)).toInt64)) >>> ((Int32.toInt64 ((32 : Int32))).toUInt64 &&& Int64.toUInt64 63)).toInt64))) &&& (127 : Int32))))) h) : VB g K 2 D mc ms Pr Pt kc ks 0 [some (.long l0), none] [] h := by
  obtain ⟨p, e, s, m, args, below, meth, c⟩ := K
  have X : CX g p s m args meth c cJ13_bitCount_95d88 2 yJ13_bitCount_95d88 (some (.int)) [] := X
  have hz := hg s X.gk.z
  show VV g p e (rmm D mc ms) s m args below meth c 2 (QQ g below args s mc ms Pr Pt) kc ks 0 [some (.long l0), none] [] h
  refine r_lload_n X dJ13_bitCount_95d88_0 rfl ?_
  refine r_lload_n X dJ13_bitCount_95d88_1 rfl ?_
  refine r_iconst X dJ13_bitCount_95d88_2 (v := 1) (by decide) ?_
  refine r_lushr X dJ13_bitCount_95d88_3 ?_
  refine r_ldc2 X dJ13_bitCount_95d88_4 k_J13_314 ?_
  refine r_land X dJ13_bitCount_95d88_7 ?_
  refine r_lsub X dJ13_bitCount_95d88_8 ?_
  refine r_lstore_n X dJ13_bitCount_95d88_9 (by decide) rfl ?_
  refine r_lload_n X dJ13_bitCount_95d88_10 rfl ?_
  refine r_ldc2 X dJ13_bitCount_95d88_11 k_J13_316 ?_
  refine r_land X dJ13_bitCount_95d88_14 ?_
  refine r_lload_n X dJ13_bitCount_95d88_15 rfl ?_
  refine r_iconst X dJ13_bitCount_95d88_16 (v := 2) (by decide) ?_
  refine r_lushr X dJ13_bitCount_95d88_17 ?_
  refine r_ldc2 X dJ13_bitCount_95d88_18 k_J13_316 ?_
  refine r_land X dJ13_bitCount_95d88_21 ?_
  refine r_ladd X dJ13_bitCount_95d88_22 ?_
  refine r_lstore_n X dJ13_bitCount_95d88_23 (by decide) rfl ?_
  refine r_lload_n X dJ13_bitCount_95d88_24 rfl ?_
  refine r_lload_n X dJ13_bitCount_95d88_25 rfl ?_
  refine r_iconst X dJ13_bitCount_95d88_26 (v := 4) (by decide) ?_
  refine r_lushr X dJ13_bitCount_95d88_27 ?_
  refine r_ladd X dJ13_bitCount_95d88_28 ?_
  refine r_ldc2 X dJ13_bitCount_95d88_29 k_J13_318 ?_
  refine r_land X dJ13_bitCount_95d88_32 ?_
  refine r_lstore_n X dJ13_bitCount_95d88_33 (by decide) rfl ?_
  refine r_lload_n X dJ13_bitCount_95d88_34 rfl ?_
  refine r_lload_n X dJ13_bitCount_95d88_35 rfl ?_
  refine r_bipush X dJ13_bitCount_95d88_36 (v := 8) (by decide) ?_
  refine r_lushr X dJ13_bitCount_95d88_38 ?_
  refine r_ladd X dJ13_bitCount_95d88_39 ?_
  refine r_lstore_n X dJ13_bitCount_95d88_40 (by decide) rfl ?_
  refine r_lload_n X dJ13_bitCount_95d88_41 rfl ?_
  refine r_lload_n X dJ13_bitCount_95d88_42 rfl ?_
  refine r_bipush X dJ13_bitCount_95d88_43 (v := 16) (by decide) ?_
  refine r_lushr X dJ13_bitCount_95d88_45 ?_
  refine r_ladd X dJ13_bitCount_95d88_46 ?_
  refine r_lstore_n X dJ13_bitCount_95d88_47 (by decide) rfl ?_
  refine r_lload_n X dJ13_bitCount_95d88_48 rfl ?_
  refine r_lload_n X dJ13_bitCount_95d88_49 rfl ?_
  refine r_bipush X dJ13_bitCount_95d88_50 (v := 32) (by decide) ?_
  refine r_lushr X dJ13_bitCount_95d88_52 ?_
  refine r_ladd X dJ13_bitCount_95d88_53 ?_
  refine r_lstore_n X dJ13_bitCount_95d88_54 (by decide) rfl ?_
  refine r_lload_n X dJ13_bitCount_95d88_55 rfl ?_
  refine r_l2i X dJ13_bitCount_95d88_56 ?_
  refine r_bipush X dJ13_bitCount_95d88_57 (v := 127) (by decide) ?_
  refine r_iand X dJ13_bitCount_95d88_59 ?_
  exact r_iret X dJ13_bitCount_95d88_60 rfl w hk.1 hk.2

set_option maxRecDepth 10000 in
theorem b_J6_bitCount_0f7a4_0 {g : GG} {K : KX} {D mc ms : Nat} {Pr : Option Value → Hp → Prop} {Pt : String → Hp → Prop} {kc ks : Nat} (hg : GOK g) (hD : 8 ≤ D) (hk : kc ≤ mc ∧ ks ≤ ms) (X : CB g K cJ6_bitCount_0f7a4 1 yJ6_bitCount_0f7a4 (some (.int)) []) (l0 : Int32) (h : Hp)
    (w : Pr (some (.int (((((((((l0 - ((Int32.toUInt32 l0 >>> (Int32.toUInt32 ((1 : Int32)) &&& Int32.toUInt32 31)).toInt32 &&& (1431655765 : Int32))) &&& (858993459 : Int32)) + ((Int32.toUInt32 ((l0 - ((Int32.toUInt32 l0 >>> (Int32.toUInt32 ((1 : Int32)) &&& Int32.toUInt32 31)).toInt32 &&& (1431655765 : Int32)))) >>> (Int32.toUInt32 ((2 : Int32)) &&& Int32.toUInt32 31)).toInt32 &&& (858993459 : Int32))) + (Int32.toUInt32 ((((l0 - ((Int32.toUInt32 l0 >>> (Int32.toUInt32 ((1 : Int32)) &&& Int32.toUInt32 31)).toInt32 &&& (1431655765 : Int32))) &&& (858993459 : Int32)) + ((Int32.toUInt32 ((l0 - ((Int32.toUInt32 l0 >>> (Int32.toUInt32 ((1 : Int32)) &&& Int32.toUInt32 31)).toInt32 &&& (1431655765 : Int32)))) >>> (Int32.toUInt32 ((2 : Int32)) &&& Int32.toUInt32 31)).toInt32 &&& (858993459 : Int32)))) >>> (Int32.toUInt32 ((4 : Int32)) &&& Int32.toUInt32 31)).toInt32) &&& (252645135 : Int32)) + (Int32.toUInt32 ((((((l0 - ((Int32.toUInt32 l0 >>> (Int32.toUInt32 ((1 : Int32)) &&& Int32.toUInt32 31)).toInt32 &&& (1431655765 : Int32))) &&& (858993459 : Int32)) + ((Int32.toUInt32 ((l0 - ((Int32.toUInt32 l0 >>> (Int32.toUInt32 ((1 : Int32)) &&& Int32.toUInt32 31)).toInt32 &&& (1431655765 : Int32)))) >>> (Int32.toUInt32 ((2 : Int32)) &&& Int32.toUInt32 31)).toInt32 &&& (858993459 : Int32))) + (Int32.toUInt32 ((((l0 - ((Int32.toUInt32 l0 >>> (Int32.toUInt32 ((1 : Int32)) &&& Int32.toUInt32 31)).toInt32 &&& (1431655765 : Int32))) &&& (858993459 : Int32)) + ((Int32.toUInt32 ((l0 - ((Int32.toUInt32 l0 >>> (Int32.toUInt32 ((1 : Int32)) &&& Int32.toUInt32 31)).toInt32 &&& (1431655765 : Int32)))) >>> (Int32.toUInt32 ((2 : Int32)) &&& Int32.toUInt32 31)).toInt32 &&& (858993459 : Int32)))) >>> (Int32.toUInt32 ((4 : Int32)) &&& Int32.toUInt32 31)).toInt32) &&& (252645135 : Int32))) >>> (Int32.toUInt32 ((8 : Int32)) &&& Int32.toUInt32 31)).toInt32) + (Int32.toUInt32 (((((((l0 - ((Int32.toUInt32 l0 >>> (Int32.toUInt32 ((1 : Int32)) &&& Int32.toUInt32 31)).toInt32 &&& (1431655765 : Int32))) &&& (858993459 : Int32)) + ((Int32.toUInt32 ((l0 - ((Int32.toUInt32 l0 >>> (Int32.toUInt32 ((1 : Int32)) &&& Int32.toUInt32 31)).toInt32 &&& (1431655765 : Int32)))) >>> (Int32.toUInt32 ((2 : Int32)) &&& Int32.toUInt32 31)).toInt32 &&& (858993459 : Int32))) + (Int32.toUInt32 ((((l0 - ((Int32.toUInt32 l0 >>> (Int32.toUInt32 ((1 : Int32)) &&& Int32.toUInt32 31)).toInt32 &&& (1431655765 : Int32))) &&& (858993459 : Int32)) + ((Int32.toUInt32 ((l0 - ((Int32.toUInt32 l0 >>> (Int32.toUInt32 ((1 : Int32)) &&& Int32.toUInt32 31)).toInt32 &&& (1431655765 : Int32)))) >>> (Int32.toUInt32 ((2 : Int32)) &&& Int32.toUInt32 31)).toInt32 &&& (858993459 : Int32)))) >>> (Int32.toUInt32 ((4 : Int32)) &&& Int32.toUInt32 31)).toInt32) &&& (252645135 : Int32)) + (Int32.toUInt32 ((((((l0 - ((Int32.toUInt32 l0 >>> (Int32.toUInt32 ((1 : Int32)) &&& Int32.toUInt32 31)).toInt32 &&& (1431655765 : Int32))) &&& (858993459 : Int32)) + ((Int32.toUInt32 ((l0 - ((Int32.toUInt32 l0 >>> (Int32.toUInt32 ((1 : Int32)) &&& Int32.toUInt32 31)).toInt32 &&& (1431655765 : Int32)))) >>> (Int32.toUInt32 ((2 : Int32)) &&& Int32.toUInt32 31)).toInt32 &&& (858993459 : Int32))) + (Int32.toUInt32 ((((l0 - ((Int32.toUInt32 l0 >>> (Int32.toUInt32 ((1 : Int32)) &&& Int32.toUInt32 31)).toInt32 &&& (1431655765 : Int32))) &&& (858993459 : Int32)) + ((Int32.toUInt32 ((l0 - ((Int32.toUInt32 l0 >>> (Int32.toUInt32 ((1 : Int32)) &&& Int32.toUInt32 31)).toInt32 &&& (1431655765 : Int32)))) >>> (Int32.toUInt32 ((2 : Int32)) &&& Int32.toUInt32 31)).toInt32 &&& (858993459 : Int32)))) >>> (Int32.toUInt32 ((4 : Int32)) &&& Int32.toUInt32 31)).toInt32) &&& (252645135 : Int32))) >>> (Int32.toUInt32 ((8 : Int32)) &&& Int32.toUInt32 31)).toInt32)) >>> (Int32.toUInt32 ((16 : Int32)) &&& Int32.toUInt32 31)).toInt32) &&& (63 : Int32))))) h) : VB g K 1 D mc ms Pr Pt kc ks 0 [some (.int l0)] [] h := by
  obtain ⟨p, e, s, m, args, below, meth, c⟩ := K
  have X : CX g p s m args meth c cJ6_bitCount_0f7a4 1 yJ6_bitCount_0f7a4 (some (.int)) [] := X
  have hz := hg s X.gk.z
  show VV g p e (rmm D mc ms) s m args below meth c 1 (QQ g below args s mc ms Pr Pt) kc ks 0 [some (.int l0)] [] h
  refine r_iload_n X dJ6_bitCount_0f7a4_0 rfl ?_
  refine r_iload_n X dJ6_bitCount_0f7a4_1 rfl ?_
  refine r_iconst X dJ6_bitCount_0f7a4_2 (v := 1) (by decide) ?_
  refine r_iushr X dJ6_bitCount_0f7a4_3 ?_
  refine r_ldcw X dJ6_bitCount_0f7a4_4 k_J6_265 ?_
  refine r_iand X dJ6_bitCount_0f7a4_7 ?_
  refine r_isub X dJ6_bitCount_0f7a4_8 ?_
  refine r_istore_n X dJ6_bitCount_0f7a4_9 (by decide) rfl ?_
  refine r_iload_n X dJ6_bitCount_0f7a4_10 rfl ?_
  refine r_ldcw X dJ6_bitCount_0f7a4_11 k_J6_266 ?_
  refine r_iand X dJ6_bitCount_0f7a4_14 ?_
  refine r_iload_n X dJ6_bitCount_0f7a4_15 rfl ?_
  refine r_iconst X dJ6_bitCount_0f7a4_16 (v := 2) (by decide) ?_
  refine r_iushr X dJ6_bitCount_0f7a4_17 ?_
  refine r_ldcw X dJ6_bitCount_0f7a4_18 k_J6_266 ?_
  refine r_iand X dJ6_bitCount_0f7a4_21 ?_
  refine r_iadd X dJ6_bitCount_0f7a4_22 ?_
  refine r_istore_n X dJ6_bitCount_0f7a4_23 (by decide) rfl ?_
  refine r_iload_n X dJ6_bitCount_0f7a4_24 rfl ?_
  refine r_iload_n X dJ6_bitCount_0f7a4_25 rfl ?_
  refine r_iconst X dJ6_bitCount_0f7a4_26 (v := 4) (by decide) ?_
  refine r_iushr X dJ6_bitCount_0f7a4_27 ?_
  refine r_iadd X dJ6_bitCount_0f7a4_28 ?_
  refine r_ldcw X dJ6_bitCount_0f7a4_29 k_J6_267 ?_
  refine r_iand X dJ6_bitCount_0f7a4_32 ?_
  refine r_istore_n X dJ6_bitCount_0f7a4_33 (by decide) rfl ?_
  refine r_iload_n X dJ6_bitCount_0f7a4_34 rfl ?_
  refine r_iload_n X dJ6_bitCount_0f7a4_35 rfl ?_
  refine r_bipush X dJ6_bitCount_0f7a4_36 (v := 8) (by decide) ?_
  refine r_iushr X dJ6_bitCount_0f7a4_38 ?_
  refine r_iadd X dJ6_bitCount_0f7a4_39 ?_
  refine r_istore_n X dJ6_bitCount_0f7a4_40 (by decide) rfl ?_
  refine r_iload_n X dJ6_bitCount_0f7a4_41 rfl ?_
  refine r_iload_n X dJ6_bitCount_0f7a4_42 rfl ?_
  refine r_bipush X dJ6_bitCount_0f7a4_43 (v := 16) (by decide) ?_
  refine r_iushr X dJ6_bitCount_0f7a4_45 ?_
  refine r_iadd X dJ6_bitCount_0f7a4_46 ?_
  refine r_istore_n X dJ6_bitCount_0f7a4_47 (by decide) rfl ?_
  refine r_iload_n X dJ6_bitCount_0f7a4_48 rfl ?_
  refine r_bipush X dJ6_bitCount_0f7a4_49 (v := 63) (by decide) ?_
  refine r_iand X dJ6_bitCount_0f7a4_51 ?_
  exact r_iret X dJ6_bitCount_0f7a4_52 rfl w hk.1 hk.2

set_option maxRecDepth 10000 in
theorem b_X11_bare_0 {g : GG} {K : KX} {D mc ms : Nat} {Pr : Option Value → Hp → Prop} {Pt : String → Hp → Prop} {kc ks : Nat} (hg : GOK g) (hD : 8 ≤ D) (hk : kc ≤ mc ∧ ks ≤ ms) (X : CB g K cX11_bare 2 yX11_bare (some (.int)) []) (l0 : Nat) (l1 : Int32) (h : Hp)
    (w : (∃ d0 P0 E0 m0 n0, CT g d0 yX11_needDays (wsC yX11_needDays cX11_needDays 2 none) [.int l1, .int ((0 : Int32))] h m0 n0 P0 E0 ∧ (d0 + 1 ≤ D ∧ kc + m0 ≤ mc ∧ ks + n0 ≤ ms) ∧ (∀ E h', E0 E h' → Pt E h') ∧ (∀ v h0, P0 v h0 → v = none ∧ (∃ fs1, oF h0 l0 10 = some fs1 ∧ (∃ d1 P1 E1 m1 n1, CT g d1 yX11_lookAhead (wsC yX11_lookAhead cX11_lookAhead 2 none) [.ref l0, .int l1] h0 m1 n1 P1 E1 ∧ (d1 + 1 ≤ D ∧ (kc + m0) + m1 ≤ mc ∧ (ks + n0) + n1 ≤ ms) ∧ (∀ E h', E1 E h' → Pt E h') ∧ (∀ v h1, P1 v h1 → v = none ∧ (∃ v3, gN h1 l0 10 11 = some v3 ∧ (∃ v4, gN h1 l0 10 6 = some v4 ∧ (∃ fs4, oF h1 v3 2 = some fs4 ∧ (∃ d4 P4 E4 m4 n4, CT g d4 yX2_bareBits (wsC yX2_bareBits cX2_bareBits 4 (some (.int))) [.ref v3, .ref v4] h1 m4 n4 P4 E4 ∧ (d4 + 1 ≤ D ∧ ((kc + m0) + m1) + m4 ≤ mc ∧ ((ks + n0) + n1) + n4 ≤ ms) ∧ (∀ E h', E4 E h' → Pt E h') ∧ (∀ v h4, P4 v h4 → ∃ v6, v = some (.int v6) ∧ Pr (some (.int v6)) h4))))))))))) : VB g K 2 D mc ms Pr Pt kc ks 0 [some (.ref l0), some (.int l1)] [] h := by
  obtain ⟨p, e, s, m, args, below, meth, c⟩ := K
  have X : CX g p s m args meth c cX11_bare 2 yX11_bare (some (.int)) [] := X
  have hz := hg s X.gk.z
  show VV g p e (rmm D mc ms) s m args below meth c 2 (QQ g below args s mc ms Pr Pt) kc ks 0 [some (.ref l0), some (.int l1)] [] h
  refine r_iload_n X dX11_bare_0 rfl ?_
  refine r_iconst X dX11_bare_1 (v := 0) (by decide) ?_
  obtain ⟨d0, P0, E0, m0, n0, ct0, w⟩ := w
  obtain ⟨⟨x1, x2, x3⟩, w⟩ := w
  obtain ⟨x4, w⟩ := w
  refine r_callS X (As := [.int l1, .int ((0 : Int32))]) dX11_bare_2 mk_X11_needDays ⟨ml_X11_253, sm_X11_needDays⟩ rfl rfl (by simp [Value.category]) ⟨x1, by show 60 * (d0 + 1) + 200 ≤ 60 * D + 200; omega⟩ ⟨x2, x3⟩ ct0 x4 (fun _ z => nomatch z) (fun _ => ⟨x2, x3⟩) (fun v h0 w1 => ?_)
  have w := w v h0 w1
  have hk : kc + m0 ≤ mc ∧ ks + n0 ≤ ms := ⟨x2, x3⟩
  obtain ⟨rfl, w⟩ := w
  refine r_aload_n X dX11_bare_5 rfl ?_
  refine r_iload_n X dX11_bare_6 rfl ?_
  obtain ⟨fs1, es1, w⟩ := w
  obtain ⟨d1, P1, E1, m1, n1, ct1, w⟩ := w
  obtain ⟨⟨x1, x2, x3⟩, w⟩ := w
  obtain ⟨x4, w⟩ := w
  refine r_callV X (As := [.int l1]) dX11_bare_7 mk_X11_lookAhead ⟨ml_X11_256, im_X11_lookAhead, se_X11_lookAhead⟩ (oF_s es1) (ci_X11).1 rfl rfl rfl (by simp [Value.category]) ⟨x1, by show 60 * (d1 + 1) + 200 ≤ 60 * D + 200; omega⟩ ⟨x2, x3⟩ ct1 x4 (fun _ z => nomatch z) (fun _ => ⟨x2, x3⟩) (fun v h1 w1 => ?_)
  have w := w v h1 w1
  have hk : (kc + m0) + m1 ≤ mc ∧ (ks + n0) + n1 ≤ ms := ⟨x2, x3⟩
  obtain ⟨rfl, w⟩ := w
  refine r_aload_n X dX11_bare_10 rfl ?_
  obtain ⟨v3, ev3, w⟩ := w
  obtain ⟨fv3, cv3, qv3⟩ := gN_s ev3
  refine r_getf X dX11_bare_11 fl_X11_56 cv3 qv3 ?_
  refine r_aload_n X dX11_bare_14 rfl ?_
  obtain ⟨v4, ev4, w⟩ := w
  obtain ⟨fv4, cv4, qv4⟩ := gN_s ev4
  refine r_getf X dX11_bare_15 fl_X11_32 cv4 qv4 ?_
  obtain ⟨fs4, es4, w⟩ := w
  obtain ⟨d4, P4, E4, m4, n4, ct4, w⟩ := w
  obtain ⟨⟨x1, x2, x3⟩, w⟩ := w
  obtain ⟨x4, w⟩ := w
  refine r_callV X (As := [.ref v4]) dX11_bare_18 mk_X2_bareBits ⟨ml_X11_279, im_X2_bareBits, se_X2_bareBits⟩ (oF_s es4) (ci_X2).1 rfl rfl rfl (by simp [Value.category]) ⟨x1, by show 60 * (d4 + 1) + 200 ≤ 60 * D + 200; omega⟩ ⟨x2, x3⟩ ct4 x4 (fun _ z => nomatch z) (fun _ => ⟨x2, x3⟩) (fun v h4 w1 => ?_)
  have w := w v h4 w1
  have hk : ((kc + m0) + m1) + m4 ≤ mc ∧ ((ks + n0) + n1) + n4 ≤ ms := ⟨x2, x3⟩
  obtain ⟨v6, rfl, w⟩ := w
  exact r_iret X dX11_bare_21 rfl w hk.1 hk.2

set_option maxRecDepth 10000 in
theorem b_X11_befall_0 {g : GG} {K : KX} {D mc ms : Nat} {Pr : Option Value → Hp → Prop} {Pt : String → Hp → Prop} {kc ks : Nat} (hg : GOK g) (hD : 8 ≤ D) (hk : kc ≤ mc ∧ ks ≤ ms) (X : CB g K cX11_befall 4 yX11_befall none []) (l0 : Nat) (h : Hp)
    (w : (∃ fs0, oF h l0 10 = some fs0 ∧ (∃ d0 P0 E0 m0 n0, CT g d0 yX11_draw (wsC yX11_draw cX11_draw 2 (some (.int))) [.ref l0, .int ((6 : Int32))] h m0 n0 P0 E0 ∧ (d0 + 1 ≤ D ∧ kc + m0 ≤ mc ∧ ks + n0 ≤ ms) ∧ (∀ E h', E0 E h' → Pt E h') ∧ (∀ v h0, P0 v h0 → ∃ v2, v = some (.int v2) ∧ ((¬ v2 = 0 → ((¬ v2 = (1 : Int32) → ((¬ v2 = (2 : Int32) → Pr none h0) ∧ (v2 = (2 : Int32) → (∃ v3, gN h0 l0 10 6 = some v3 ∧ (∃ v4, gI h0 v3 9 1 = some v4 ∧ ((v4 ≤ 0 → Pr none h0) ∧ (¬ v4 ≤ 0 → (∃ v5, gN h0 l0 10 11 = some v5 ∧ (∃ v6, gN h0 l0 10 6 = some v6 ∧ (∃ v7, gI h0 v6 9 1 = some v7 ∧ (∃ fs7, oF h0 l0 10 = some fs7 ∧ (∃ d7 P7 E7 m7 n7, CT g d7 yX11_draw (wsC yX11_draw cX11_draw 2 (some (.int))) [.ref l0, .int v7] h0 m7 n7 P7 E7 ∧ (d7 + 1 ≤ D ∧ (kc + m0) + m7 ≤ mc ∧ (ks + n0) + n7 ≤ ms) ∧ (∀ E h', E7 E h' → Pt E h') ∧ (∀ v h7, P7 v h7 → ∃ v9, v = some (.int v9) ∧ (∃ fs9, oF h7 v5 2 = some fs9 ∧ (∃ d9 P9 E9 m9 n9, CT g d9 yX2_giveThread (wsC yX2_giveThread cX2_giveThread 3 none) [.ref v5, .int v9, .int ((5 : Int32))] h7 m9 n9 P9 E9 ∧ (d9 + 1 ≤ D ∧ ((kc + m0) + m7) + m9 ≤ mc ∧ ((ks + n0) + n7) + n9 ≤ ms) ∧ (∀ E h', E9 E h' → Pt E h') ∧ (∀ v h9, P9 v h9 → v = none ∧ Pr none h9)))))))))))))))) ∧ (v2 = (1 : Int32) → (∃ v11, gN h0 l0 10 11 = some v11 ∧ (∃ v12, gN h0 l0 10 6 = some v12 ∧ (∃ v13, gI h0 v12 9 0 = some v13 ∧ (∃ fs13, oF h0 l0 10 = some fs13 ∧ (∃ d13 P13 E13 m13 n13, CT g d13 yX11_draw (wsC yX11_draw cX11_draw 2 (some (.int))) [.ref l0, .int v13] h0 m13 n13 P13 E13 ∧ (d13 + 1 ≤ D ∧ (kc + m0) + m13 ≤ mc ∧ (ks + n0) + n13 ≤ ms) ∧ (∀ E h', E13 E h' → Pt E h') ∧ (∀ v h13, P13 v h13 → ∃ v15, v = some (.int v15) ∧ (∃ fs15, oF h13 v11 2 = some fs15 ∧ (∃ d15 P15 E15 m15 n15, CT g d15 yX2_addStrain (wsC yX2_addStrain cX2_addStrain 3 none) [.ref v11, .int v15, .int ((9 : Int32))] h13 m15 n15 P15 E15 ∧ (d15 + 1 ≤ D ∧ ((kc + m0) + m13) + m15 ≤ mc ∧ ((ks + n0) + n13) + n15 ≤ ms) ∧ (∀ E h', E15 E h' → Pt E h') ∧ (∀ v h15, P15 v h15 → v = none ∧ Pr none h15)))))))))))) ∧ (v2 = 0 → (∃ v17, gN h0 l0 10 6 = some v17 ∧ (∃ v18, gI h0 v17 9 0 = some v18 ∧ (∃ fs18, oF h0 l0 10 = some fs18 ∧ (∃ d18 P18 E18 m18 n18, CT g d18 yX11_draw (wsC yX11_draw cX11_draw 2 (some (.int))) [.ref l0, .int v18] h0 m18 n18 P18 E18 ∧ (d18 + 1 ≤ D ∧ (kc + m0) + m18 ≤ mc ∧ (ks + n0) + n18 ≤ ms) ∧ (∀ E h', E18 E h' → Pt E h') ∧ (∀ v h18, P18 v h18 → ∃ v20, v = some (.int v20) ∧ (∃ fs20, oF h18 l0 10 = some fs20 ∧ (∃ d20 P20 E20 m20 n20, CT g d20 yX11_draw (wsC yX11_draw cX11_draw 2 (some (.int))) [.ref l0, .int ((20 : Int32))] h18 m20 n20 P20 E20 ∧ (d20 + 1 ≤ D ∧ ((kc + m0) + m18) + m20 ≤ mc ∧ ((ks + n0) + n18) + n20 ≤ ms) ∧ (∀ E h', E20 E h' → Pt E h') ∧ (∀ v h20, P20 v h20 → ∃ v22, v = some (.int v22) ∧ (∃ v23, gN h20 l0 10 11 = some v23 ∧ (∃ v24, gN h20 l0 10 6 = some v24 ∧ (∃ fs24, oF h20 v23 2 = some fs24 ∧ (∃ d24 P24 E24 m24 n24, CT g d24 yX2_tearOff (wsC yX2_tearOff cX2_tearOff 4 none) [.ref v23, .ref v24, .int v20, .int ((v22 + (1 : Int32)))] h20 m24 n24 P24 E24 ∧ (d24 + 1 ≤ D ∧ (((kc + m0) + m18) + m20) + m24 ≤ mc ∧ (((ks + n0) + n18) + n20) + n24 ≤ ms) ∧ (∀ E h', E24 E h' → Pt E h') ∧ (∀ v h24, P24 v h24 → v = none ∧ Pr none h24))))))))))))))))))) : VB g K 4 D mc ms Pr Pt kc ks 0 [some (.ref l0), none, none, none] [] h := by
  obtain ⟨p, e, s, m, args, below, meth, c⟩ := K
  have X : CX g p s m args meth c cX11_befall 4 yX11_befall none [] := X
  have hz := hg s X.gk.z
  show VV g p e (rmm D mc ms) s m args below meth c 4 (QQ g below args s mc ms Pr Pt) kc ks 0 [some (.ref l0), none, none, none] [] h
  refine r_aload_n X dX11_befall_0 rfl ?_
  refine r_bipush X dX11_befall_1 (v := 6) (by decide) ?_
  obtain ⟨fs0, es0, w⟩ := w
  obtain ⟨d0, P0, E0, m0, n0, ct0, w⟩ := w
  obtain ⟨⟨x1, x2, x3⟩, w⟩ := w
  obtain ⟨x4, w⟩ := w
  refine r_callV X (As := [.int ((6 : Int32))]) dX11_befall_3 mk_X11_draw ⟨ml_X11_400, im_X11_draw, se_X11_draw⟩ (oF_s es0) (ci_X11).1 rfl rfl rfl (by simp [Value.category]) ⟨x1, by show 60 * (d0 + 1) + 200 ≤ 60 * D + 200; omega⟩ ⟨x2, x3⟩ ct0 x4 (fun _ z => nomatch z) (fun _ => ⟨x2, x3⟩) (fun v h0 w1 => ?_)
  have w := w v h0 w1
  have hk : kc + m0 ≤ mc ∧ ks + n0 ≤ ms := ⟨x2, x3⟩
  obtain ⟨v2, rfl, w⟩ := w
  refine r_istore_n X dX11_befall_6 (by decide) rfl ?_
  refine r_iload_n X dX11_befall_7 rfl ?_
  refine r_if_ne X dX11_befall_8 (tgt := 48) (by decide) (fun q => ?_) (fun q => ?_)
  · have w := w.1 q
    refine r_iload_n X dX11_befall_48 rfl ?_
    refine r_iconst X dX11_befall_49 (v := 1) (by decide) ?_
    refine r_icmp_ne X dX11_befall_50 (tgt := 76) (by decide) (fun q => ?_) (fun q => ?_)
    · have w := w.1 q
      refine r_iload_n X dX11_befall_76 rfl ?_
      refine r_iconst X dX11_befall_77 (v := 2) (by decide) ?_
      refine r_icmp_ne X dX11_befall_78 (tgt := 110) (by decide) (fun q => ?_) (fun q => ?_)
      · have w := w.1 q
        exact r_vret X dX11_befall_110 rfl w hk.1 hk.2
      · have w := w.2 q
        refine r_aload_n X dX11_befall_81 rfl ?_
        obtain ⟨v3, ev3, w⟩ := w
        obtain ⟨fv3, cv3, qv3⟩ := gN_s ev3
        refine r_getf X dX11_befall_82 fl_X11_32 cv3 qv3 ?_
        obtain ⟨v4, ev4, w⟩ := w
        obtain ⟨fv4, cv4, qv4⟩ := gI_s ev4
        refine r_getf X dX11_befall_85 fl_X11_144 cv4 qv4 ?_
        refine r_if_le X dX11_befall_88 (tgt := 110) (by decide) (fun q => ?_) (fun q => ?_)
        · have w := w.1 q
          exact r_vret X dX11_befall_110 rfl w hk.1 hk.2
        · have w := w.2 q
          refine r_aload_n X dX11_befall_91 rfl ?_
          obtain ⟨v5, ev5, w⟩ := w
          obtain ⟨fv5, cv5, qv5⟩ := gN_s ev5
          refine r_getf X dX11_befall_92 fl_X11_56 cv5 qv5 ?_
          refine r_aload_n X dX11_befall_95 rfl ?_
          refine r_aload_n X dX11_befall_96 rfl ?_
          obtain ⟨v6, ev6, w⟩ := w
          obtain ⟨fv6, cv6, qv6⟩ := gN_s ev6
          refine r_getf X dX11_befall_97 fl_X11_32 cv6 qv6 ?_
          obtain ⟨v7, ev7, w⟩ := w
          obtain ⟨fv7, cv7, qv7⟩ := gI_s ev7
          refine r_getf X dX11_befall_100 fl_X11_144 cv7 qv7 ?_
          obtain ⟨fs7, es7, w⟩ := w
          obtain ⟨d7, P7, E7, m7, n7, ct7, w⟩ := w
          obtain ⟨⟨x1, x2, x3⟩, w⟩ := w
          obtain ⟨x4, w⟩ := w
          refine r_callV X (As := [.int v7]) dX11_befall_103 mk_X11_draw ⟨ml_X11_400, im_X11_draw, se_X11_draw⟩ (oF_s es7) (ci_X11).1 rfl rfl rfl (by simp [Value.category]) ⟨x1, by show 60 * (d7 + 1) + 200 ≤ 60 * D + 200; omega⟩ ⟨x2, x3⟩ ct7 x4 (fun _ z => nomatch z) (fun _ => ⟨x2, x3⟩) (fun v h7 w1 => ?_)
          have w := w v h7 w1
          have hk : (kc + m0) + m7 ≤ mc ∧ (ks + n0) + n7 ≤ ms := ⟨x2, x3⟩
          obtain ⟨v9, rfl, w⟩ := w
          refine r_iconst X dX11_befall_106 (v := 5) (by decide) ?_
          obtain ⟨fs9, es9, w⟩ := w
          obtain ⟨d9, P9, E9, m9, n9, ct9, w⟩ := w
          obtain ⟨⟨x1, x2, x3⟩, w⟩ := w
          obtain ⟨x4, w⟩ := w
          refine r_callV X (As := [.int v9, .int ((5 : Int32))]) dX11_befall_107 mk_X2_giveThread ⟨ml_X11_239, im_X2_giveThread, se_X2_giveThread⟩ (oF_s es9) (ci_X2).1 rfl rfl rfl (by simp [Value.category]) ⟨x1, by show 60 * (d9 + 1) + 200 ≤ 60 * D + 200; omega⟩ ⟨x2, x3⟩ ct9 x4 (fun _ z => nomatch z) (fun _ => ⟨x2, x3⟩) (fun v h9 w1 => ?_)
          have w := w v h9 w1
          have hk : ((kc + m0) + m7) + m9 ≤ mc ∧ ((ks + n0) + n7) + n9 ≤ ms := ⟨x2, x3⟩
          obtain ⟨rfl, w⟩ := w
          exact r_vret X dX11_befall_110 rfl w hk.1 hk.2
    · have w := w.2 q
      refine r_aload_n X dX11_befall_53 rfl ?_
      obtain ⟨v11, ev11, w⟩ := w
      obtain ⟨fv11, cv11, qv11⟩ := gN_s ev11
      refine r_getf X dX11_befall_54 fl_X11_56 cv11 qv11 ?_
      refine r_aload_n X dX11_befall_57 rfl ?_
      refine r_aload_n X dX11_befall_58 rfl ?_
      obtain ⟨v12, ev12, w⟩ := w
      obtain ⟨fv12, cv12, qv12⟩ := gN_s ev12
      refine r_getf X dX11_befall_59 fl_X11_32 cv12 qv12 ?_
      obtain ⟨v13, ev13, w⟩ := w
      obtain ⟨fv13, cv13, qv13⟩ := gI_s ev13
      refine r_getf X dX11_befall_62 fl_X11_141 cv13 qv13 ?_
      obtain ⟨fs13, es13, w⟩ := w
      obtain ⟨d13, P13, E13, m13, n13, ct13, w⟩ := w
      obtain ⟨⟨x1, x2, x3⟩, w⟩ := w
      obtain ⟨x4, w⟩ := w
      refine r_callV X (As := [.int v13]) dX11_befall_65 mk_X11_draw ⟨ml_X11_400, im_X11_draw, se_X11_draw⟩ (oF_s es13) (ci_X11).1 rfl rfl rfl (by simp [Value.category]) ⟨x1, by show 60 * (d13 + 1) + 200 ≤ 60 * D + 200; omega⟩ ⟨x2, x3⟩ ct13 x4 (fun _ z => nomatch z) (fun _ => ⟨x2, x3⟩) (fun v h13 w1 => ?_)
      have w := w v h13 w1
      have hk : (kc + m0) + m13 ≤ mc ∧ (ks + n0) + n13 ≤ ms := ⟨x2, x3⟩
      obtain ⟨v15, rfl, w⟩ := w
      refine r_bipush X dX11_befall_68 (v := 9) (by decide) ?_
      obtain ⟨fs15, es15, w⟩ := w
      obtain ⟨d15, P15, E15, m15, n15, ct15, w⟩ := w
      obtain ⟨⟨x1, x2, x3⟩, w⟩ := w
      obtain ⟨x4, w⟩ := w
      refine r_callV X (As := [.int v15, .int ((9 : Int32))]) dX11_befall_70 mk_X2_addStrain ⟨ml_X11_403, im_X2_addStrain, se_X2_addStrain⟩ (oF_s es15) (ci_X2).1 rfl rfl rfl (by simp [Value.category]) ⟨x1, by show 60 * (d15 + 1) + 200 ≤ 60 * D + 200; omega⟩ ⟨x2, x3⟩ ct15 x4 (fun _ z => nomatch z) (fun _ => ⟨x2, x3⟩) (fun v h15 w1 => ?_)
      have w := w v h15 w1
      have hk : ((kc + m0) + m13) + m15 ≤ mc ∧ ((ks + n0) + n13) + n15 ≤ ms := ⟨x2, x3⟩
      obtain ⟨rfl, w⟩ := w
      refine r_goto X dX11_befall_73 (tgt := 110) (by decide) ?_
      exact r_vret X dX11_befall_110 rfl w hk.1 hk.2
  · have w := w.2 q
    refine r_aload_n X dX11_befall_11 rfl ?_
    refine r_aload_n X dX11_befall_12 rfl ?_
    obtain ⟨v17, ev17, w⟩ := w
    obtain ⟨fv17, cv17, qv17⟩ := gN_s ev17
    refine r_getf X dX11_befall_13 fl_X11_32 cv17 qv17 ?_
    obtain ⟨v18, ev18, w⟩ := w
    obtain ⟨fv18, cv18, qv18⟩ := gI_s ev18
    refine r_getf X dX11_befall_16 fl_X11_141 cv18 qv18 ?_
    obtain ⟨fs18, es18, w⟩ := w
    obtain ⟨d18, P18, E18, m18, n18, ct18, w⟩ := w
    obtain ⟨⟨x1, x2, x3⟩, w⟩ := w
    obtain ⟨x4, w⟩ := w
    refine r_callV X (As := [.int v18]) dX11_befall_19 mk_X11_draw ⟨ml_X11_400, im_X11_draw, se_X11_draw⟩ (oF_s es18) (ci_X11).1 rfl rfl rfl (by simp [Value.category]) ⟨x1, by show 60 * (d18 + 1) + 200 ≤ 60 * D + 200; omega⟩ ⟨x2, x3⟩ ct18 x4 (fun _ z => nomatch z) (fun _ => ⟨x2, x3⟩) (fun v h18 w1 => ?_)
    have w := w v h18 w1
    have hk : (kc + m0) + m18 ≤ mc ∧ (ks + n0) + n18 ≤ ms := ⟨x2, x3⟩
    obtain ⟨v20, rfl, w⟩ := w
    refine r_istore_n X dX11_befall_22 (by decide) rfl ?_
    refine r_aload_n X dX11_befall_23 rfl ?_
    refine r_bipush X dX11_befall_24 (v := 20) (by decide) ?_
    obtain ⟨fs20, es20, w⟩ := w
    obtain ⟨d20, P20, E20, m20, n20, ct20, w⟩ := w
    obtain ⟨⟨x1, x2, x3⟩, w⟩ := w
    obtain ⟨x4, w⟩ := w
    refine r_callV X (As := [.int ((20 : Int32))]) dX11_befall_26 mk_X11_draw ⟨ml_X11_400, im_X11_draw, se_X11_draw⟩ (oF_s es20) (ci_X11).1 rfl rfl rfl (by simp [Value.category]) ⟨x1, by show 60 * (d20 + 1) + 200 ≤ 60 * D + 200; omega⟩ ⟨x2, x3⟩ ct20 x4 (fun _ z => nomatch z) (fun _ => ⟨x2, x3⟩) (fun v h20 w1 => ?_)
    have w := w v h20 w1
    have hk : ((kc + m0) + m18) + m20 ≤ mc ∧ ((ks + n0) + n18) + n20 ≤ ms := ⟨x2, x3⟩
    obtain ⟨v22, rfl, w⟩ := w
    refine r_iconst X dX11_befall_29 (v := 1) (by decide) ?_
    refine r_iadd X dX11_befall_30 ?_
    refine r_istore_n X dX11_befall_31 (by decide) rfl ?_
    refine r_aload_n X dX11_befall_32 rfl ?_
    obtain ⟨v23, ev23, w⟩ := w
    obtain ⟨fv23, cv23, qv23⟩ := gN_s ev23
    refine r_getf X dX11_befall_33 fl_X11_56 cv23 qv23 ?_
    refine r_aload_n X dX11_befall_36 rfl ?_
    obtain ⟨v24, ev24, w⟩ := w
    obtain ⟨fv24, cv24, qv24⟩ := gN_s ev24
    refine r_getf X dX11_befall_37 fl_X11_32 cv24 qv24 ?_
    refine r_iload_n X dX11_befall_40 rfl ?_
    refine r_iload_n X dX11_befall_41 rfl ?_
    obtain ⟨fs24, es24, w⟩ := w
    obtain ⟨d24, P24, E24, m24, n24, ct24, w⟩ := w
    obtain ⟨⟨x1, x2, x3⟩, w⟩ := w
    obtain ⟨x4, w⟩ := w
    refine r_callV X (As := [.ref v24, .int v20, .int ((v22 + (1 : Int32)))]) dX11_befall_42 mk_X2_tearOff ⟨ml_X11_243, im_X2_tearOff, se_X2_tearOff⟩ (oF_s es24) (ci_X2).1 rfl rfl rfl (by simp [Value.category]) ⟨x1, by show 60 * (d24 + 1) + 200 ≤ 60 * D + 200; omega⟩ ⟨x2, x3⟩ ct24 x4 (fun _ z => nomatch z) (fun _ => ⟨x2, x3⟩) (fun v h24 w1 => ?_)
    have w := w v h24 w1
    have hk : (((kc + m0) + m18) + m20) + m24 ≤ mc ∧ (((ks + n0) + n18) + n20) + n24 ≤ ms := ⟨x2, x3⟩
    obtain ⟨rfl, w⟩ := w
    refine r_goto X dX11_befall_45 (tgt := 110) (by decide) ?_
    exact r_vret X dX11_befall_110 rfl w hk.1 hk.2

set_option maxRecDepth 10000 in
theorem b_X11_bestStitch_0 {g : GG} {K : KX} {D mc ms : Nat} {Pr : Option Value → Hp → Prop} {Pt : String → Hp → Prop} {kc ks : Nat} (hg : GOK g) (hD : 8 ≤ D) (hk : kc ≤ mc ∧ ks ≤ ms) (X : CB g K cX11_bestStitch 6 yX11_bestStitch (some (.int)) []) (l0 : Nat) (l1 : Int32) (l2 : Int32) (h : Hp)
    (w : (∃ fs0, oF h l0 10 = some fs0 ∧ (∃ d0 P0 E0 m0 n0, CT g d0 yX11_needStretch (wsC yX11_needStretch cX11_needStretch 2 none) [.ref l0, .int l1] h m0 n0 P0 E0 ∧ (d0 + 1 ≤ D ∧ kc + m0 ≤ mc ∧ ks + n0 ≤ ms) ∧ (∀ E h', E0 E h' → Pt E h') ∧ (∀ v h0, P0 v h0 → v = none ∧ (∃ d1 P1 E1 m1 n1, CT g d1 yX11_needDays (wsC yX11_needDays cX11_needDays 2 none) [.int l2, .int ((1 : Int32))] h0 m1 n1 P1 E1 ∧ (d1 + 1 ≤ D ∧ (kc + m0) + m1 ≤ mc ∧ (ks + n0) + n1 ≤ ms) ∧ (∀ E h', E1 E h' → Pt E h') ∧ (∀ v h1, P1 v h1 → v = none ∧ VB g K 6 D mc ms Pr Pt (((kc + m0) + m1)) (((ks + n0) + n1)) 18 [some (.ref l0), some (.int l1), some (.int l2), some (.int ((0 : Int32))), some (.int ((-1 : Int32))), some (.int ((0 : Int32)))] [] h1)))))) : VB g K 6 D mc ms Pr Pt kc ks 0 [some (.ref l0), some (.int l1), some (.int l2), none, none, none] [] h := by
  obtain ⟨p, e, s, m, args, below, meth, c⟩ := K
  have X : CX g p s m args meth c cX11_bestStitch 6 yX11_bestStitch (some (.int)) [] := X
  have hz := hg s X.gk.z
  show VV g p e (rmm D mc ms) s m args below meth c 6 (QQ g below args s mc ms Pr Pt) kc ks 0 [some (.ref l0), some (.int l1), some (.int l2), none, none, none] [] h
  refine r_aload_n X dX11_bestStitch_0 rfl ?_
  refine r_iload_n X dX11_bestStitch_1 rfl ?_
  obtain ⟨fs0, es0, w⟩ := w
  obtain ⟨d0, P0, E0, m0, n0, ct0, w⟩ := w
  obtain ⟨⟨x1, x2, x3⟩, w⟩ := w
  obtain ⟨x4, w⟩ := w
  refine r_callV X (As := [.int l1]) dX11_bestStitch_2 mk_X11_needStretch ⟨ml_X11_179, im_X11_needStretch, se_X11_needStretch⟩ (oF_s es0) (ci_X11).1 rfl rfl rfl (by simp [Value.category]) ⟨x1, by show 60 * (d0 + 1) + 200 ≤ 60 * D + 200; omega⟩ ⟨x2, x3⟩ ct0 x4 (fun _ z => nomatch z) (fun _ => ⟨x2, x3⟩) (fun v h0 w1 => ?_)
  have w := w v h0 w1
  have hk : kc + m0 ≤ mc ∧ ks + n0 ≤ ms := ⟨x2, x3⟩
  obtain ⟨rfl, w⟩ := w
  refine r_iload_n X dX11_bestStitch_5 rfl ?_
  refine r_iconst X dX11_bestStitch_6 (v := 1) (by decide) ?_
  obtain ⟨d1, P1, E1, m1, n1, ct1, w⟩ := w
  obtain ⟨⟨x1, x2, x3⟩, w⟩ := w
  obtain ⟨x4, w⟩ := w
  refine r_callS X (As := [.int l2, .int ((1 : Int32))]) dX11_bestStitch_7 mk_X11_needDays ⟨ml_X11_253, sm_X11_needDays⟩ rfl rfl (by simp [Value.category]) ⟨x1, by show 60 * (d1 + 1) + 200 ≤ 60 * D + 200; omega⟩ ⟨x2, x3⟩ ct1 x4 (fun _ z => nomatch z) (fun _ => ⟨x2, x3⟩) (fun v h1 w1 => ?_)
  have w := w v h1 w1
  have hk : (kc + m0) + m1 ≤ mc ∧ (ks + n0) + n1 ≤ ms := ⟨x2, x3⟩
  obtain ⟨rfl, w⟩ := w
  refine r_iconst X dX11_bestStitch_10 (v := 0) (by decide) ?_
  refine r_istore_n X dX11_bestStitch_11 (by decide) rfl ?_
  refine r_iconst X dX11_bestStitch_12 (v := -1) (by decide) ?_
  refine r_istore X dX11_bestStitch_13 (by decide) rfl ?_
  refine r_iconst X dX11_bestStitch_15 (v := 0) (by decide) ?_
  refine r_istore X dX11_bestStitch_16 (by decide) rfl ?_
  refine VB_wk (ls' := [some (.ref l0), some (.int l1), some (.int l2), some (.int ((0 : Int32))), some (.int ((-1 : Int32))), some (.int ((0 : Int32)))]) ?_ w
  exact (And.intro rfl (And.intro rfl (And.intro rfl (And.intro rfl (And.intro rfl (And.intro rfl trivial))))))

set_option maxRecDepth 10000 in
theorem b_X11_bestStitch_18 {g : GG} {K : KX} {D mc ms : Nat} {Pr : Option Value → Hp → Prop} {Pt : String → Hp → Prop} {kc ks : Nat} (hg : GOK g) (hD : 8 ≤ D) (hk : kc ≤ mc ∧ ks ≤ ms) (X : CB g K cX11_bestStitch 6 yX11_bestStitch (some (.int)) []) (l0 : Nat) (l1 : Int32) (l2 : Int32) (l3 : Int32) (l4 : Int32) (l5 : Int32) (h : Hp)
    (w : (((2 : Int32) < l5 → Pr (some (.int l3)) h) ∧ (¬ (2 : Int32) < l5 → (∃ v1, gN h l0 10 11 = some v1 ∧ (∃ v2, gN h l0 10 8 = some v2 ∧ (∃ v3, gN h v2 3 0 = some v3 ∧ (∃ fs3, oF h v1 2 = some fs3 ∧ (∃ d3 P3 E3 m3 n3, CT g d3 yX2_copyFrom (wsC yX2_copyFrom cX2_copyFrom 2 none) [.ref v1, .ref v3] h m3 n3 P3 E3 ∧ (d3 + 1 ≤ D ∧ kc + m3 ≤ mc ∧ ks + n3 ≤ ms) ∧ (∀ E h', E3 E h' → Pt E h') ∧ (∀ v h3, P3 v h3 → v = none ∧ (∃ v5, gN h3 l0 10 11 = some v5 ∧ (∃ v6, gN h3 v5 2 3 = some v6 ∧ (∃ h7, uI h3 0 v6 l1 l5 = some h7 ∧ (∃ v8, gN h7 l0 10 11 = some v8 ∧ (∃ v9, gN h7 l0 10 6 = some v9 ∧ (∃ fs9, oF h7 v8 2 = some fs9 ∧ (∃ d9 P9 E9 m9 n9, CT g d9 yX2_passDays (wsC yX2_passDays cX2_passDays 4 none) [.ref v8, .ref v9, .int l2] h7 m9 n9 P9 E9 ∧ (d9 + 1 ≤ D ∧ (kc + m3) + m9 ≤ mc ∧ (ks + n3) + n9 ≤ ms) ∧ (∀ E h', E9 E h' → Pt E h') ∧ (∀ v h9, P9 v h9 → v = none ∧ (∃ v11, gN h9 l0 10 11 = some v11 ∧ (∃ v12, gN h9 v11 2 2 = some v12 ∧ (∃ v13, aI h9 0 v12 l1 = some v13 ∧ ((v13 ≤ l4 → VB g K 6 D mc ms Pr Pt (((kc + m3) + m9)) (((ks + n3) + n9)) 89 [some (.ref l0), some (.int l1), some (.int l2), some (.int l3), some (.int l4), some (.int l5)] [] h9) ∧ (¬ v13 ≤ l4 → (∃ v14, gN h9 l0 10 11 = some v14 ∧ (∃ v15, gN h9 v14 2 2 = some v15 ∧ (∃ v16, aI h9 0 v15 l1 = some v16 ∧ VB g K 6 D mc ms Pr Pt (((kc + m3) + m9)) (((ks + n3) + n9)) 89 [some (.ref l0), some (.int l1), some (.int l2), some (.int l5), some (.int v16), some (.int l5)] [] h9))))))))))))))))))))))))) : VB g K 6 D mc ms Pr Pt kc ks 18 [some (.ref l0), some (.int l1), some (.int l2), some (.int l3), some (.int l4), some (.int l5)] [] h := by
  obtain ⟨p, e, s, m, args, below, meth, c⟩ := K
  have X : CX g p s m args meth c cX11_bestStitch 6 yX11_bestStitch (some (.int)) [] := X
  have hz := hg s X.gk.z
  show VV g p e (rmm D mc ms) s m args below meth c 6 (QQ g below args s mc ms Pr Pt) kc ks 18 [some (.ref l0), some (.int l1), some (.int l2), some (.int l3), some (.int l4), some (.int l5)] [] h
  refine r_iload X dX11_bestStitch_18 rfl ?_
  refine r_iconst X dX11_bestStitch_20 (v := 2) (by decide) ?_
  refine r_icmp_gt X dX11_bestStitch_21 (tgt := 95) (by decide) (fun q => ?_) (fun q => ?_)
  · have w := w.1 q
    refine r_iload_n X dX11_bestStitch_95 rfl ?_
    exact r_iret X dX11_bestStitch_96 rfl w hk.1 hk.2
  · have w := w.2 q
    refine r_aload_n X dX11_bestStitch_24 rfl ?_
    obtain ⟨v1, ev1, w⟩ := w
    obtain ⟨fv1, cv1, qv1⟩ := gN_s ev1
    refine r_getf X dX11_bestStitch_25 fl_X11_56 cv1 qv1 ?_
    refine r_aload_n X dX11_bestStitch_28 rfl ?_
    obtain ⟨v2, ev2, w⟩ := w
    obtain ⟨fv2, cv2, qv2⟩ := gN_s ev2
    refine r_getf X dX11_bestStitch_29 fl_X11_42 cv2 qv2 ?_
    obtain ⟨v3, ev3, w⟩ := w
    obtain ⟨fv3, cv3, qv3⟩ := gN_s ev3
    refine r_getf X dX11_bestStitch_32 fl_X11_84 cv3 qv3 ?_
    obtain ⟨fs3, es3, w⟩ := w
    obtain ⟨d3, P3, E3, m3, n3, ct3, w⟩ := w
    obtain ⟨⟨x1, x2, x3⟩, w⟩ := w
    obtain ⟨x4, w⟩ := w
    refine r_callV X (As := [.ref v3]) dX11_bestStitch_35 mk_X2_copyFrom ⟨ml_X11_123, im_X2_copyFrom, se_X2_copyFrom⟩ (oF_s es3) (ci_X2).1 rfl rfl rfl (by simp [Value.category]) ⟨x1, by show 60 * (d3 + 1) + 200 ≤ 60 * D + 200; omega⟩ ⟨x2, x3⟩ ct3 x4 (fun _ z => nomatch z) (fun _ => ⟨x2, x3⟩) (fun v h3 w1 => ?_)
    have w := w v h3 w1
    have hk : kc + m3 ≤ mc ∧ ks + n3 ≤ ms := ⟨x2, x3⟩
    obtain ⟨rfl, w⟩ := w
    refine r_aload_n X dX11_bestStitch_38 rfl ?_
    obtain ⟨v5, ev5, w⟩ := w
    obtain ⟨fv5, cv5, qv5⟩ := gN_s ev5
    refine r_getf X dX11_bestStitch_39 fl_X11_56 cv5 qv5 ?_
    obtain ⟨v6, ev6, w⟩ := w
    obtain ⟨fv6, cv6, qv6⟩ := gN_s ev6
    refine r_getf X dX11_bestStitch_42 fl_X11_188 cv6 qv6 ?_
    refine r_iload_n X dX11_bestStitch_45 rfl ?_
    refine r_iload X dX11_bestStitch_46 rfl ?_
    obtain ⟨h7, eh7, w⟩ := w
    obtain ⟨nh7, fh7, ch7, ih7, rh7⟩ := uI_s eh7
    subst rh7
    refine r_iast X dX11_bestStitch_48 ch7 ih7 ?_
    refine r_aload_n X dX11_bestStitch_49 rfl ?_
    obtain ⟨v8, ev8, w⟩ := w
    obtain ⟨fv8, cv8, qv8⟩ := gN_s ev8
    refine r_getf X dX11_bestStitch_50 fl_X11_56 cv8 qv8 ?_
    refine r_aload_n X dX11_bestStitch_53 rfl ?_
    obtain ⟨v9, ev9, w⟩ := w
    obtain ⟨fv9, cv9, qv9⟩ := gN_s ev9
    refine r_getf X dX11_bestStitch_54 fl_X11_32 cv9 qv9 ?_
    refine r_iload_n X dX11_bestStitch_57 rfl ?_
    obtain ⟨fs9, es9, w⟩ := w
    obtain ⟨d9, P9, E9, m9, n9, ct9, w⟩ := w
    obtain ⟨⟨x1, x2, x3⟩, w⟩ := w
    obtain ⟨x4, w⟩ := w
    refine r_callV X (As := [.ref v9, .int l2]) dX11_bestStitch_58 mk_X2_passDays ⟨ml_X11_228, im_X2_passDays, se_X2_passDays⟩ (oF_s es9) (ci_X2).1 rfl rfl rfl (by simp [Value.category]) ⟨x1, by show 60 * (d9 + 1) + 200 ≤ 60 * D + 200; omega⟩ ⟨x2, x3⟩ ct9 x4 (fun _ z => nomatch z) (fun _ => ⟨x2, x3⟩) (fun v h9 w1 => ?_)
    have w := w v h9 w1
    have hk : (kc + m3) + m9 ≤ mc ∧ (ks + n3) + n9 ≤ ms := ⟨x2, x3⟩
    obtain ⟨rfl, w⟩ := w
    refine r_aload_n X dX11_bestStitch_61 rfl ?_
    obtain ⟨v11, ev11, w⟩ := w
    obtain ⟨fv11, cv11, qv11⟩ := gN_s ev11
    refine r_getf X dX11_bestStitch_62 fl_X11_56 cv11 qv11 ?_
    obtain ⟨v12, ev12, w⟩ := w
    obtain ⟨fv12, cv12, qv12⟩ := gN_s ev12
    refine r_getf X dX11_bestStitch_65 fl_X11_185 cv12 qv12 ?_
    refine r_iload_n X dX11_bestStitch_68 rfl ?_
    obtain ⟨v13, ev13, w⟩ := w
    obtain ⟨nv13, fv13, cv13, iv13, qv13⟩ := aI_s ev13
    refine r_iald X dX11_bestStitch_69 cv13 iv13 ?_
    rw [qv13]
    refine r_iload X dX11_bestStitch_70 rfl ?_
    refine r_icmp_le X dX11_bestStitch_72 (tgt := 89) (by decide) (fun q => ?_) (fun q => ?_)
    · have w := w.1 q
      refine VB_wk (ls' := [some (.ref l0), some (.int l1), some (.int l2), some (.int l3), some (.int l4), some (.int l5)]) ?_ w
      exact (And.intro rfl (And.intro rfl (And.intro rfl (And.intro rfl (And.intro rfl (And.intro rfl trivial))))))
    · have w := w.2 q
      refine r_aload_n X dX11_bestStitch_75 rfl ?_
      obtain ⟨v14, ev14, w⟩ := w
      obtain ⟨fv14, cv14, qv14⟩ := gN_s ev14
      refine r_getf X dX11_bestStitch_76 fl_X11_56 cv14 qv14 ?_
      obtain ⟨v15, ev15, w⟩ := w
      obtain ⟨fv15, cv15, qv15⟩ := gN_s ev15
      refine r_getf X dX11_bestStitch_79 fl_X11_185 cv15 qv15 ?_
      refine r_iload_n X dX11_bestStitch_82 rfl ?_
      obtain ⟨v16, ev16, w⟩ := w
      obtain ⟨nv16, fv16, cv16, iv16, qv16⟩ := aI_s ev16
      refine r_iald X dX11_bestStitch_83 cv16 iv16 ?_
      rw [qv16]
      refine r_istore X dX11_bestStitch_84 (by decide) rfl ?_
      refine r_iload X dX11_bestStitch_86 rfl ?_
      refine r_istore_n X dX11_bestStitch_88 (by decide) rfl ?_
      refine VB_wk (ls' := [some (.ref l0), some (.int l1), some (.int l2), some (.int l5), some (.int v16), some (.int l5)]) ?_ w
      exact (And.intro rfl (And.intro rfl (And.intro rfl (And.intro rfl (And.intro rfl (And.intro rfl trivial))))))

set_option maxRecDepth 10000 in
theorem b_X11_bestStitch_89 {g : GG} {K : KX} {D mc ms : Nat} {Pr : Option Value → Hp → Prop} {Pt : String → Hp → Prop} {kc ks : Nat} (hg : GOK g) (hD : 8 ≤ D) (hk : kc ≤ mc ∧ ks ≤ ms) (X : CB g K cX11_bestStitch 6 yX11_bestStitch (some (.int)) []) (l0 : Nat) (l1 : Int32) (l2 : Int32) (l3 : Int32) (l4 : Int32) (l5 : Int32) (h : Hp)
    (w : VB g K 6 D mc ms Pr Pt kc ks 18 [some (.ref l0), some (.int l1), some (.int l2), some (.int l3), some (.int l4), some (.int ((l5 + 1)))] [] h) : VB g K 6 D mc ms Pr Pt kc ks 89 [some (.ref l0), some (.int l1), some (.int l2), some (.int l3), some (.int l4), some (.int l5)] [] h := by
  obtain ⟨p, e, s, m, args, below, meth, c⟩ := K
  have X : CX g p s m args meth c cX11_bestStitch 6 yX11_bestStitch (some (.int)) [] := X
  have hz := hg s X.gk.z
  show VV g p e (rmm D mc ms) s m args below meth c 6 (QQ g below args s mc ms Pr Pt) kc ks 89 [some (.ref l0), some (.int l1), some (.int l2), some (.int l3), some (.int l4), some (.int l5)] [] h
  refine r_iinc X dX11_bestStitch_89 rfl (v := (l5 + 1)) rfl (by decide) rfl ?_
  refine r_goto X dX11_bestStitch_92 (tgt := 18) (by decide) ?_
  refine VB_wk (ls' := [some (.ref l0), some (.int l1), some (.int l2), some (.int l3), some (.int l4), some (.int ((l5 + 1)))]) ?_ w
  exact (And.intro rfl (And.intro rfl (And.intro rfl (And.intro rfl (And.intro rfl (And.intro rfl trivial))))))

set_option maxRecDepth 10000 in
theorem b_X11_blow_0 {g : GG} {K : KX} {D mc ms : Nat} {Pr : Option Value → Hp → Prop} {Pt : String → Hp → Prop} {kc ks : Nat} (hg : GOK g) (hD : 8 ≤ D) (hk : kc ≤ mc ∧ ks ≤ ms) (X : CB g K cX11_blow 4 yX11_blow none []) (l0 : Nat) (l1 : Int32) (l2 : Int32) (h : Hp)
    (w : (∃ v1, gN h l0 10 11 = some v1 ∧ (∃ v2, gN h l0 10 8 = some v2 ∧ (∃ v3, gN h v2 3 0 = some v3 ∧ (∃ fs3, oF h v1 2 = some fs3 ∧ (∃ d3 P3 E3 m3 n3, CT g d3 yX2_copyFrom (wsC yX2_copyFrom cX2_copyFrom 2 none) [.ref v1, .ref v3] h m3 n3 P3 E3 ∧ (d3 + 1 ≤ D ∧ kc + m3 ≤ mc ∧ ks + n3 ≤ ms) ∧ (∀ E h', E3 E h' → Pt E h') ∧ (∀ v h3, P3 v h3 → v = none ∧ VB g K 4 D mc ms Pr Pt ((kc + m3)) ((ks + n3)) 16 [some (.ref l0), some (.int l1), some (.int l2), some (.int ((0 : Int32)))] [] h3))))))) : VB g K 4 D mc ms Pr Pt kc ks 0 [some (.ref l0), some (.int l1), some (.int l2), none] [] h := by
  obtain ⟨p, e, s, m, args, below, meth, c⟩ := K
  have X : CX g p s m args meth c cX11_blow 4 yX11_blow none [] := X
  have hz := hg s X.gk.z
  show VV g p e (rmm D mc ms) s m args below meth c 4 (QQ g below args s mc ms Pr Pt) kc ks 0 [some (.ref l0), some (.int l1), some (.int l2), none] [] h
  refine r_aload_n X dX11_blow_0 rfl ?_
  obtain ⟨v1, ev1, w⟩ := w
  obtain ⟨fv1, cv1, qv1⟩ := gN_s ev1
  refine r_getf X dX11_blow_1 fl_X11_56 cv1 qv1 ?_
  refine r_aload_n X dX11_blow_4 rfl ?_
  obtain ⟨v2, ev2, w⟩ := w
  obtain ⟨fv2, cv2, qv2⟩ := gN_s ev2
  refine r_getf X dX11_blow_5 fl_X11_42 cv2 qv2 ?_
  obtain ⟨v3, ev3, w⟩ := w
  obtain ⟨fv3, cv3, qv3⟩ := gN_s ev3
  refine r_getf X dX11_blow_8 fl_X11_84 cv3 qv3 ?_
  obtain ⟨fs3, es3, w⟩ := w
  obtain ⟨d3, P3, E3, m3, n3, ct3, w⟩ := w
  obtain ⟨⟨x1, x2, x3⟩, w⟩ := w
  obtain ⟨x4, w⟩ := w
  refine r_callV X (As := [.ref v3]) dX11_blow_11 mk_X2_copyFrom ⟨ml_X11_123, im_X2_copyFrom, se_X2_copyFrom⟩ (oF_s es3) (ci_X2).1 rfl rfl rfl (by simp [Value.category]) ⟨x1, by show 60 * (d3 + 1) + 200 ≤ 60 * D + 200; omega⟩ ⟨x2, x3⟩ ct3 x4 (fun _ z => nomatch z) (fun _ => ⟨x2, x3⟩) (fun v h3 w1 => ?_)
  have w := w v h3 w1
  have hk : kc + m3 ≤ mc ∧ ks + n3 ≤ ms := ⟨x2, x3⟩
  obtain ⟨rfl, w⟩ := w
  refine r_iconst X dX11_blow_14 (v := 0) (by decide) ?_
  refine r_istore_n X dX11_blow_15 (by decide) rfl ?_
  refine VB_wk (ls' := [some (.ref l0), some (.int l1), some (.int l2), some (.int ((0 : Int32)))]) ?_ w
  exact (And.intro rfl (And.intro rfl (And.intro rfl (And.intro rfl trivial))))

set_option maxRecDepth 10000 in
theorem b_X11_blow_16 {g : GG} {K : KX} {D mc ms : Nat} {Pr : Option Value → Hp → Prop} {Pt : String → Hp → Prop} {kc ks : Nat} (hg : GOK g) (hD : 8 ≤ D) (hk : kc ≤ mc ∧ ks ≤ ms) (X : CB g K cX11_blow 4 yX11_blow none []) (l0 : Nat) (l1 : Int32) (l2 : Int32) (l3 : Int32) (h : Hp)
    (w : ((l2 ≤ l3 → Pr none h) ∧ (¬ l2 ≤ l3 → ((¬ ((l1 >>> (l3 &&& 31)) &&& (1 : Int32)) = (1 : Int32) → VB g K 4 D mc ms Pr Pt kc ks 41 [some (.ref l0), some (.int l1), some (.int l2), some (.int l3)] [] h) ∧ (((l1 >>> (l3 &&& 31)) &&& (1 : Int32)) = (1 : Int32) → (∃ v1, gN h l0 10 11 = some v1 ∧ (∃ v2, gN h l0 10 6 = some v2 ∧ (∃ fs2, oF h v1 2 = some fs2 ∧ (∃ d2 P2 E2 m2 n2, CT g d2 yX2_gale (wsC yX2_gale cX2_gale 3 none) [.ref v1, .ref v2] h m2 n2 P2 E2 ∧ (d2 + 1 ≤ D ∧ kc + m2 ≤ mc ∧ ks + n2 ≤ ms) ∧ (∀ E h', E2 E h' → Pt E h') ∧ (∀ v h2, P2 v h2 → v = none ∧ VB g K 4 D mc ms Pr Pt ((kc + m2)) ((ks + n2)) 41 [some (.ref l0), some (.int l1), some (.int l2), some (.int l3)] [] h2)))))))))) : VB g K 4 D mc ms Pr Pt kc ks 16 [some (.ref l0), some (.int l1), some (.int l2), some (.int l3)] [] h := by
  obtain ⟨p, e, s, m, args, below, meth, c⟩ := K
  have X : CX g p s m args meth c cX11_blow 4 yX11_blow none [] := X
  have hz := hg s X.gk.z
  show VV g p e (rmm D mc ms) s m args below meth c 4 (QQ g below args s mc ms Pr Pt) kc ks 16 [some (.ref l0), some (.int l1), some (.int l2), some (.int l3)] [] h
  refine r_iload_n X dX11_blow_16 rfl ?_
  refine r_iload_n X dX11_blow_17 rfl ?_
  refine r_icmp_ge X dX11_blow_18 (tgt := 58) (by decide) (fun q => ?_) (fun q => ?_)
  · have w := w.1 q
    exact r_vret X dX11_blow_58 rfl w hk.1 hk.2
  · have w := w.2 q
    refine r_iload_n X dX11_blow_21 rfl ?_
    refine r_iload_n X dX11_blow_22 rfl ?_
    refine r_ishr X dX11_blow_23 ?_
    refine r_iconst X dX11_blow_24 (v := 1) (by decide) ?_
    refine r_iand X dX11_blow_25 ?_
    refine r_iconst X dX11_blow_26 (v := 1) (by decide) ?_
    refine r_icmp_ne X dX11_blow_27 (tgt := 41) (by decide) (fun q => ?_) (fun q => ?_)
    · have w := w.1 q
      refine VB_wk (ls' := [some (.ref l0), some (.int l1), some (.int l2), some (.int l3)]) ?_ w
      exact (And.intro rfl (And.intro rfl (And.intro rfl (And.intro rfl trivial))))
    · have w := w.2 q
      refine r_aload_n X dX11_blow_30 rfl ?_
      obtain ⟨v1, ev1, w⟩ := w
      obtain ⟨fv1, cv1, qv1⟩ := gN_s ev1
      refine r_getf X dX11_blow_31 fl_X11_56 cv1 qv1 ?_
      refine r_aload_n X dX11_blow_34 rfl ?_
      obtain ⟨v2, ev2, w⟩ := w
      obtain ⟨fv2, cv2, qv2⟩ := gN_s ev2
      refine r_getf X dX11_blow_35 fl_X11_32 cv2 qv2 ?_
      obtain ⟨fs2, es2, w⟩ := w
      obtain ⟨d2, P2, E2, m2, n2, ct2, w⟩ := w
      obtain ⟨⟨x1, x2, x3⟩, w⟩ := w
      obtain ⟨x4, w⟩ := w
      refine r_callV X (As := [.ref v2]) dX11_blow_38 mk_X2_gale ⟨ml_X11_377, im_X2_gale, se_X2_gale⟩ (oF_s es2) (ci_X2).1 rfl rfl rfl (by simp [Value.category]) ⟨x1, by show 60 * (d2 + 1) + 200 ≤ 60 * D + 200; omega⟩ ⟨x2, x3⟩ ct2 x4 (fun _ z => nomatch z) (fun _ => ⟨x2, x3⟩) (fun v h2 w1 => ?_)
      have w := w v h2 w1
      have hk : kc + m2 ≤ mc ∧ ks + n2 ≤ ms := ⟨x2, x3⟩
      obtain ⟨rfl, w⟩ := w
      refine VB_wk (ls' := [some (.ref l0), some (.int l1), some (.int l2), some (.int l3)]) ?_ w
      exact (And.intro rfl (And.intro rfl (And.intro rfl (And.intro rfl trivial))))

set_option maxRecDepth 10000 in
theorem b_X11_blow_41 {g : GG} {K : KX} {D mc ms : Nat} {Pr : Option Value → Hp → Prop} {Pt : String → Hp → Prop} {kc ks : Nat} (hg : GOK g) (hD : 8 ≤ D) (hk : kc ≤ mc ∧ ks ≤ ms) (X : CB g K cX11_blow 4 yX11_blow none []) (l0 : Nat) (l1 : Int32) (l2 : Int32) (l3 : Int32) (h : Hp)
    (w : (∃ v1, gN h l0 10 11 = some v1 ∧ (∃ v2, gN h l0 10 6 = some v2 ∧ (∃ fs2, oF h v1 2 = some fs2 ∧ (∃ d2 P2 E2 m2 n2, CT g d2 yX2_passDay (wsC yX2_passDay cX2_passDay 3 none) [.ref v1, .ref v2] h m2 n2 P2 E2 ∧ (d2 + 1 ≤ D ∧ kc + m2 ≤ mc ∧ ks + n2 ≤ ms) ∧ (∀ E h', E2 E h' → Pt E h') ∧ (∀ v h2, P2 v h2 → v = none ∧ VB g K 4 D mc ms Pr Pt ((kc + m2)) ((ks + n2)) 16 [some (.ref l0), some (.int l1), some (.int l2), some (.int ((l3 + 1)))] [] h2)))))) : VB g K 4 D mc ms Pr Pt kc ks 41 [some (.ref l0), some (.int l1), some (.int l2), some (.int l3)] [] h := by
  obtain ⟨p, e, s, m, args, below, meth, c⟩ := K
  have X : CX g p s m args meth c cX11_blow 4 yX11_blow none [] := X
  have hz := hg s X.gk.z
  show VV g p e (rmm D mc ms) s m args below meth c 4 (QQ g below args s mc ms Pr Pt) kc ks 41 [some (.ref l0), some (.int l1), some (.int l2), some (.int l3)] [] h
  refine r_aload_n X dX11_blow_41 rfl ?_
  obtain ⟨v1, ev1, w⟩ := w
  obtain ⟨fv1, cv1, qv1⟩ := gN_s ev1
  refine r_getf X dX11_blow_42 fl_X11_56 cv1 qv1 ?_
  refine r_aload_n X dX11_blow_45 rfl ?_
  obtain ⟨v2, ev2, w⟩ := w
  obtain ⟨fv2, cv2, qv2⟩ := gN_s ev2
  refine r_getf X dX11_blow_46 fl_X11_32 cv2 qv2 ?_
  obtain ⟨fs2, es2, w⟩ := w
  obtain ⟨d2, P2, E2, m2, n2, ct2, w⟩ := w
  obtain ⟨⟨x1, x2, x3⟩, w⟩ := w
  obtain ⟨x4, w⟩ := w
  refine r_callV X (As := [.ref v2]) dX11_blow_49 mk_X2_passDay ⟨ml_X11_268, im_X2_passDay, se_X2_passDay⟩ (oF_s es2) (ci_X2).1 rfl rfl rfl (by simp [Value.category]) ⟨x1, by show 60 * (d2 + 1) + 200 ≤ 60 * D + 200; omega⟩ ⟨x2, x3⟩ ct2 x4 (fun _ z => nomatch z) (fun _ => ⟨x2, x3⟩) (fun v h2 w1 => ?_)
  have w := w v h2 w1
  have hk : kc + m2 ≤ mc ∧ ks + n2 ≤ ms := ⟨x2, x3⟩
  obtain ⟨rfl, w⟩ := w
  refine r_iinc X dX11_blow_52 rfl (v := (l3 + 1)) rfl (by decide) rfl ?_
  refine r_goto X dX11_blow_55 (tgt := 16) (by decide) ?_
  refine VB_wk (ls' := [some (.ref l0), some (.int l1), some (.int l2), some (.int ((l3 + 1)))]) ?_ w
  exact (And.intro rfl (And.intro rfl (And.intro rfl (And.intro rfl trivial))))

set_option maxRecDepth 10000 in
theorem b_X11_closed_0 {g : GG} {K : KX} {D mc ms : Nat} {Pr : Option Value → Hp → Prop} {Pt : String → Hp → Prop} {kc ks : Nat} (hg : GOK g) (hD : 8 ≤ D) (hk : kc ≤ mc ∧ ks ≤ ms) (X : CB g K cX11_closed 6 yX11_closed (some (.int)) []) (l0 : Nat) (l1 : Int32) (h : Hp)
    (w : (∃ d0 P0 E0 m0 n0, CT g d0 yX11_needWhat (wsC yX11_needWhat cX11_needWhat 2 none) [.int l1, .int ((1 : Int32))] h m0 n0 P0 E0 ∧ (d0 + 1 ≤ D ∧ kc + m0 ≤ mc ∧ ks + n0 ≤ ms) ∧ (∀ E h', E0 E h' → Pt E h') ∧ (∀ v h0, P0 v h0 → v = none ∧ VB g K 6 D mc ms Pr Pt ((kc + m0)) ((ks + n0)) 12 [some (.ref l0), some (.int l1), some (.int ((0 : Int32))), some (.int ((-1 : Int32))), some (.int ((0 : Int32))), none] [] h0))) : VB g K 6 D mc ms Pr Pt kc ks 0 [some (.ref l0), some (.int l1), none, none, none, none] [] h := by
  obtain ⟨p, e, s, m, args, below, meth, c⟩ := K
  have X : CX g p s m args meth c cX11_closed 6 yX11_closed (some (.int)) [] := X
  have hz := hg s X.gk.z
  show VV g p e (rmm D mc ms) s m args below meth c 6 (QQ g below args s mc ms Pr Pt) kc ks 0 [some (.ref l0), some (.int l1), none, none, none, none] [] h
  refine r_iload_n X dX11_closed_0 rfl ?_
  refine r_iconst X dX11_closed_1 (v := 1) (by decide) ?_
  obtain ⟨d0, P0, E0, m0, n0, ct0, w⟩ := w
  obtain ⟨⟨x1, x2, x3⟩, w⟩ := w
  obtain ⟨x4, w⟩ := w
  refine r_callS X (As := [.int l1, .int ((1 : Int32))]) dX11_closed_2 mk_X11_needWhat ⟨ml_X11_250, sm_X11_needWhat⟩ rfl rfl (by simp [Value.category]) ⟨x1, by show 60 * (d0 + 1) + 200 ≤ 60 * D + 200; omega⟩ ⟨x2, x3⟩ ct0 x4 (fun _ z => nomatch z) (fun _ => ⟨x2, x3⟩) (fun v h0 w1 => ?_)
  have w := w v h0 w1
  have hk : kc + m0 ≤ mc ∧ ks + n0 ≤ ms := ⟨x2, x3⟩
  obtain ⟨rfl, w⟩ := w
  refine r_iconst X dX11_closed_5 (v := 0) (by decide) ?_
  refine r_istore_n X dX11_closed_6 (by decide) rfl ?_
  refine r_iconst X dX11_closed_7 (v := -1) (by decide) ?_
  refine r_istore_n X dX11_closed_8 (by decide) rfl ?_
  refine r_iconst X dX11_closed_9 (v := 0) (by decide) ?_
  refine r_istore X dX11_closed_10 (by decide) rfl ?_
  refine VB_wk (ls' := [some (.ref l0), some (.int l1), some (.int ((0 : Int32))), some (.int ((-1 : Int32))), some (.int ((0 : Int32))), none]) ?_ w
  exact (And.intro rfl (And.intro rfl (And.intro rfl (And.intro rfl (And.intro rfl trivial)))))

set_option maxRecDepth 10000 in
theorem b_X11_closed_12 {g : GG} {K : KX} {D mc ms : Nat} {Pr : Option Value → Hp → Prop} {Pt : String → Hp → Prop} {kc ks : Nat} (hg : GOK g) (hD : 8 ≤ D) (hk : kc ≤ mc ∧ ks ≤ ms) (X : CB g K cX11_closed 6 yX11_closed (some (.int)) []) (l0 : Nat) (l1 : Int32) (l2 : Int32) (l3 : Int32) (l4 : Int32) (h : Hp)
    (w : (∃ v1, gN h l0 10 6 = some v1 ∧ (∃ v2, gI h v1 9 0 = some v2 ∧ ((v2 ≤ l4 → ((¬ l1 = 0 → Pr (some (.int l3)) h) ∧ (l1 = 0 → Pr (some (.int l2)) h))) ∧ (¬ v2 ≤ l4 → (∃ fs2, oF h l0 10 = some fs2 ∧ (∃ d2 P2 E2 m2 n2, CT g d2 yX11_closedFrom (wsC yX11_closedFrom cX11_closedFrom 4 (some (.int))) [.ref l0, .int l4] h m2 n2 P2 E2 ∧ (d2 + 1 ≤ D ∧ kc + m2 ≤ mc ∧ ks + n2 ≤ ms) ∧ (∀ E h', E2 E h' → Pt E h') ∧ (∀ v h2, P2 v h2 → ∃ v4, v = some (.int v4) ∧ ((v4 ≤ l2 → VB g K 6 D mc ms Pr Pt ((kc + m2)) ((ks + n2)) 44 [some (.ref l0), some (.int l1), some (.int l2), some (.int l3), some (.int l4), none] [] h2) ∧ (¬ v4 ≤ l2 → VB g K 6 D mc ms Pr Pt ((kc + m2)) ((ks + n2)) 44 [some (.ref l0), some (.int l1), some (.int v4), some (.int l4), some (.int l4), none] [] h2)))))))))) : VB g K 6 D mc ms Pr Pt kc ks 12 [some (.ref l0), some (.int l1), some (.int l2), some (.int l3), some (.int l4), none] [] h := by
  obtain ⟨p, e, s, m, args, below, meth, c⟩ := K
  have X : CX g p s m args meth c cX11_closed 6 yX11_closed (some (.int)) [] := X
  have hz := hg s X.gk.z
  show VV g p e (rmm D mc ms) s m args below meth c 6 (QQ g below args s mc ms Pr Pt) kc ks 12 [some (.ref l0), some (.int l1), some (.int l2), some (.int l3), some (.int l4), none] [] h
  refine r_iload X dX11_closed_12 rfl ?_
  refine r_aload_n X dX11_closed_14 rfl ?_
  obtain ⟨v1, ev1, w⟩ := w
  obtain ⟨fv1, cv1, qv1⟩ := gN_s ev1
  refine r_getf X dX11_closed_15 fl_X11_32 cv1 qv1 ?_
  obtain ⟨v2, ev2, w⟩ := w
  obtain ⟨fv2, cv2, qv2⟩ := gI_s ev2
  refine r_getf X dX11_closed_18 fl_X11_141 cv2 qv2 ?_
  refine r_icmp_ge X dX11_closed_21 (tgt := 50) (by decide) (fun q => ?_) (fun q => ?_)
  · have w := w.1 q
    refine r_iload_n X dX11_closed_50 rfl ?_
    refine r_if_ne X dX11_closed_51 (tgt := 58) (by decide) (fun q => ?_) (fun q => ?_)
    · have w := w.1 q
      refine r_iload_n X dX11_closed_58 rfl ?_
      exact r_iret X dX11_closed_59 rfl w hk.1 hk.2
    · have w := w.2 q
      refine r_iload_n X dX11_closed_54 rfl ?_
      refine r_goto X dX11_closed_55 (tgt := 59) (by decide) ?_
      exact r_iret X dX11_closed_59 rfl w hk.1 hk.2
  · have w := w.2 q
    refine r_aload_n X dX11_closed_24 rfl ?_
    refine r_iload X dX11_closed_25 rfl ?_
    obtain ⟨fs2, es2, w⟩ := w
    obtain ⟨d2, P2, E2, m2, n2, ct2, w⟩ := w
    obtain ⟨⟨x1, x2, x3⟩, w⟩ := w
    obtain ⟨x4, w⟩ := w
    refine r_callV X (As := [.int l4]) dX11_closed_27 mk_X11_closedFrom ⟨ml_X11_311, im_X11_closedFrom, se_X11_closedFrom⟩ (oF_s es2) (ci_X11).1 rfl rfl rfl (by simp [Value.category]) ⟨x1, by show 60 * (d2 + 1) + 200 ≤ 60 * D + 200; omega⟩ ⟨x2, x3⟩ ct2 x4 (fun _ z => nomatch z) (fun _ => ⟨x2, x3⟩) (fun v h2 w1 => ?_)
    have w := w v h2 w1
    have hk : kc + m2 ≤ mc ∧ ks + n2 ≤ ms := ⟨x2, x3⟩
    obtain ⟨v4, rfl, w⟩ := w
    refine r_istore X dX11_closed_30 (by decide) rfl ?_
    refine r_iload X dX11_closed_32 rfl ?_
    refine r_iload_n X dX11_closed_34 rfl ?_
    refine r_icmp_le X dX11_closed_35 (tgt := 44) (by decide) (fun q => ?_) (fun q => ?_)
    · have w := w.1 q
      refine VB_wk (ls' := [some (.ref l0), some (.int l1), some (.int l2), some (.int l3), some (.int l4), none]) ?_ w
      exact (And.intro rfl (And.intro rfl (And.intro rfl (And.intro rfl (And.intro rfl trivial)))))
    · have w := w.2 q
      refine r_iload X dX11_closed_38 rfl ?_
      refine r_istore_n X dX11_closed_40 (by decide) rfl ?_
      refine r_iload X dX11_closed_41 rfl ?_
      refine r_istore_n X dX11_closed_43 (by decide) rfl ?_
      refine VB_wk (ls' := [some (.ref l0), some (.int l1), some (.int v4), some (.int l4), some (.int l4), none]) ?_ w
      exact (And.intro rfl (And.intro rfl (And.intro rfl (And.intro rfl (And.intro rfl trivial)))))

set_option maxRecDepth 10000 in
theorem b_X11_closed_44 {g : GG} {K : KX} {D mc ms : Nat} {Pr : Option Value → Hp → Prop} {Pt : String → Hp → Prop} {kc ks : Nat} (hg : GOK g) (hD : 8 ≤ D) (hk : kc ≤ mc ∧ ks ≤ ms) (X : CB g K cX11_closed 6 yX11_closed (some (.int)) []) (l0 : Nat) (l1 : Int32) (l2 : Int32) (l3 : Int32) (l4 : Int32) (h : Hp)
    (w : VB g K 6 D mc ms Pr Pt kc ks 12 [some (.ref l0), some (.int l1), some (.int l2), some (.int l3), some (.int ((l4 + 1))), none] [] h) : VB g K 6 D mc ms Pr Pt kc ks 44 [some (.ref l0), some (.int l1), some (.int l2), some (.int l3), some (.int l4), none] [] h := by
  obtain ⟨p, e, s, m, args, below, meth, c⟩ := K
  have X : CX g p s m args meth c cX11_closed 6 yX11_closed (some (.int)) [] := X
  have hz := hg s X.gk.z
  show VV g p e (rmm D mc ms) s m args below meth c 6 (QQ g below args s mc ms Pr Pt) kc ks 44 [some (.ref l0), some (.int l1), some (.int l2), some (.int l3), some (.int l4), none] [] h
  refine r_iinc X dX11_closed_44 rfl (v := (l4 + 1)) rfl (by decide) rfl ?_
  refine r_goto X dX11_closed_47 (tgt := 12) (by decide) ?_
  refine VB_wk (ls' := [some (.ref l0), some (.int l1), some (.int l2), some (.int l3), some (.int ((l4 + 1))), none]) ?_ w
  exact (And.intro rfl (And.intro rfl (And.intro rfl (And.intro rfl (And.intro rfl trivial)))))

set_option maxRecDepth 10000 in
theorem b_X11_closedFrom_0 {g : GG} {K : KX} {D mc ms : Nat} {Pr : Option Value → Hp → Prop} {Pt : String → Hp → Prop} {kc ks : Nat} (hg : GOK g) (hD : 8 ≤ D) (hk : kc ≤ mc ∧ ks ≤ ms) (X : CB g K cX11_closedFrom 4 yX11_closedFrom (some (.int)) []) (l0 : Nat) (l1 : Int32) (h : Hp)
    (w : VB g K 4 D mc ms Pr Pt kc ks 4 [some (.ref l0), none, some (.int l1), some (.int ((0 : Int32)))] [] h) : VB g K 4 D mc ms Pr Pt kc ks 0 [some (.ref l0), some (.int l1), none, none] [] h := by
  obtain ⟨p, e, s, m, args, below, meth, c⟩ := K
  have X : CX g p s m args meth c cX11_closedFrom 4 yX11_closedFrom (some (.int)) [] := X
  have hz := hg s X.gk.z
  show VV g p e (rmm D mc ms) s m args below meth c 4 (QQ g below args s mc ms Pr Pt) kc ks 0 [some (.ref l0), some (.int l1), none, none] [] h
  refine r_iload_n X dX11_closedFrom_0 rfl ?_
  refine r_istore_n X dX11_closedFrom_1 (by decide) rfl ?_
  refine r_iconst X dX11_closedFrom_2 (v := 0) (by decide) ?_
  refine r_istore_n X dX11_closedFrom_3 (by decide) rfl ?_
  refine VB_wk (ls' := [some (.ref l0), none, some (.int l1), some (.int ((0 : Int32)))]) ?_ w
  exact (And.intro rfl (And.intro rfl (And.intro rfl trivial)))

set_option maxRecDepth 10000 in
theorem b_X11_closedFrom_4 {g : GG} {K : KX} {D mc ms : Nat} {Pr : Option Value → Hp → Prop} {Pt : String → Hp → Prop} {kc ks : Nat} (hg : GOK g) (hD : 8 ≤ D) (hk : kc ≤ mc ∧ ks ≤ ms) (X : CB g K cX11_closedFrom 4 yX11_closedFrom (some (.int)) []) (l0 : Nat) (l2 : Int32) (l3 : Int32) (h : Hp)
    (w : (∃ v1, gN h l0 10 6 = some v1 ∧ (∃ v2, gI h v1 9 0 = some v2 ∧ ((v2 ≤ l3 → (∃ v3, gN h l0 10 6 = some v3 ∧ (∃ v4, gI h v3 9 0 = some v4 ∧ Pr (some (.int v4)) h))) ∧ (¬ v2 ≤ l3 → (∃ v5, gN h l0 10 8 = some v5 ∧ (∃ v6, gN h v5 3 0 = some v6 ∧ (∃ fs6, oF h v6 2 = some fs6 ∧ (∃ d6 P6 E6 m6 n6, CT g d6 yX2_isOpen (wsC yX2_isOpen cX2_isOpen 2 (some (.boolean))) [.ref v6, .int l2] h m6 n6 P6 E6 ∧ (d6 + 1 ≤ D ∧ kc + m6 ≤ mc ∧ ks + n6 ≤ ms) ∧ (∀ E h', E6 E h' → Pt E h') ∧ (∀ v h6, P6 v h6 → ∃ v8, v = some (.int v8) ∧ ((v8 = 0 → (∃ v9, gN h6 l0 10 6 = some v9 ∧ (∃ fs9, oF h6 v9 9 = some fs9 ∧ (∃ d9 P9 E9 m9 n9, CT g d9 yX9_after (wsC yX9_after cX9_after 2 (some (.int))) [.ref v9, .int l2] h6 m9 n9 P9 E9 ∧ (d9 + 1 ≤ D ∧ (kc + m6) + m9 ≤ mc ∧ (ks + n6) + n9 ≤ ms) ∧ (∀ E h', E9 E h' → Pt E h') ∧ (∀ v h9, P9 v h9 → ∃ v11, v = some (.int v11) ∧ VB g K 4 D mc ms Pr Pt (((kc + m6) + m9)) (((ks + n6) + n9)) 4 [some (.ref l0), none, some (.int v11), some (.int ((l3 + 1)))] [] h9))))) ∧ (¬ v8 = 0 → Pr (some (.int l3)) h6)))))))))))) : VB g K 4 D mc ms Pr Pt kc ks 4 [some (.ref l0), none, some (.int l2), some (.int l3)] [] h := by
  obtain ⟨p, e, s, m, args, below, meth, c⟩ := K
  have X : CX g p s m args meth c cX11_closedFrom 4 yX11_closedFrom (some (.int)) [] := X
  have hz := hg s X.gk.z
  show VV g p e (rmm D mc ms) s m args below meth c 4 (QQ g below args s mc ms Pr Pt) kc ks 4 [some (.ref l0), none, some (.int l2), some (.int l3)] [] h
  refine r_iload_n X dX11_closedFrom_4 rfl ?_
  refine r_aload_n X dX11_closedFrom_5 rfl ?_
  obtain ⟨v1, ev1, w⟩ := w
  obtain ⟨fv1, cv1, qv1⟩ := gN_s ev1
  refine r_getf X dX11_closedFrom_6 fl_X11_32 cv1 qv1 ?_
  obtain ⟨v2, ev2, w⟩ := w
  obtain ⟨fv2, cv2, qv2⟩ := gI_s ev2
  refine r_getf X dX11_closedFrom_9 fl_X11_141 cv2 qv2 ?_
  refine r_icmp_ge X dX11_closedFrom_12 (tgt := 46) (by decide) (fun q => ?_) (fun q => ?_)
  · have w := w.1 q
    refine r_aload_n X dX11_closedFrom_46 rfl ?_
    obtain ⟨v3, ev3, w⟩ := w
    obtain ⟨fv3, cv3, qv3⟩ := gN_s ev3
    refine r_getf X dX11_closedFrom_47 fl_X11_32 cv3 qv3 ?_
    obtain ⟨v4, ev4, w⟩ := w
    obtain ⟨fv4, cv4, qv4⟩ := gI_s ev4
    refine r_getf X dX11_closedFrom_50 fl_X11_141 cv4 qv4 ?_
    exact r_iret X dX11_closedFrom_53 rfl w hk.1 hk.2
  · have w := w.2 q
    refine r_aload_n X dX11_closedFrom_15 rfl ?_
    obtain ⟨v5, ev5, w⟩ := w
    obtain ⟨fv5, cv5, qv5⟩ := gN_s ev5
    refine r_getf X dX11_closedFrom_16 fl_X11_42 cv5 qv5 ?_
    obtain ⟨v6, ev6, w⟩ := w
    obtain ⟨fv6, cv6, qv6⟩ := gN_s ev6
    refine r_getf X dX11_closedFrom_19 fl_X11_84 cv6 qv6 ?_
    refine r_iload_n X dX11_closedFrom_22 rfl ?_
    obtain ⟨fs6, es6, w⟩ := w
    obtain ⟨d6, P6, E6, m6, n6, ct6, w⟩ := w
    obtain ⟨⟨x1, x2, x3⟩, w⟩ := w
    obtain ⟨x4, w⟩ := w
    refine r_callV X (As := [.int l2]) dX11_closedFrom_23 mk_X2_isOpen ⟨ml_X11_195, im_X2_isOpen, se_X2_isOpen⟩ (oF_s es6) (ci_X2).1 rfl rfl rfl (by simp [Value.category]) ⟨x1, by show 60 * (d6 + 1) + 200 ≤ 60 * D + 200; omega⟩ ⟨x2, x3⟩ ct6 x4 (fun _ z => nomatch z) (fun _ => ⟨x2, x3⟩) (fun v h6 w1 => ?_)
    have w := w v h6 w1
    have hk : kc + m6 ≤ mc ∧ ks + n6 ≤ ms := ⟨x2, x3⟩
    obtain ⟨v8, rfl, w⟩ := w
    refine r_if_eq X dX11_closedFrom_26 (tgt := 31) (by decide) (fun q => ?_) (fun q => ?_)
    · have w := w.1 q
      refine r_aload_n X dX11_closedFrom_31 rfl ?_
      obtain ⟨v9, ev9, w⟩ := w
      obtain ⟨fv9, cv9, qv9⟩ := gN_s ev9
      refine r_getf X dX11_closedFrom_32 fl_X11_32 cv9 qv9 ?_
      refine r_iload_n X dX11_closedFrom_35 rfl ?_
      obtain ⟨fs9, es9, w⟩ := w
      obtain ⟨d9, P9, E9, m9, n9, ct9, w⟩ := w
      obtain ⟨⟨x1, x2, x3⟩, w⟩ := w
      obtain ⟨x4, w⟩ := w
      refine r_callV X (As := [.int l2]) dX11_closedFrom_36 mk_X9_after ⟨ml_X11_314, im_X9_after, se_X9_after⟩ (oF_s es9) (ci_X9).1 rfl rfl rfl (by simp [Value.category]) ⟨x1, by show 60 * (d9 + 1) + 200 ≤ 60 * D + 200; omega⟩ ⟨x2, x3⟩ ct9 x4 (fun _ z => nomatch z) (fun _ => ⟨x2, x3⟩) (fun v h9 w1 => ?_)
      have w := w v h9 w1
      have hk : (kc + m6) + m9 ≤ mc ∧ (ks + n6) + n9 ≤ ms := ⟨x2, x3⟩
      obtain ⟨v11, rfl, w⟩ := w
      refine r_istore_n X dX11_closedFrom_39 (by decide) rfl ?_
      refine r_iinc X dX11_closedFrom_40 rfl (v := (l3 + 1)) rfl (by decide) rfl ?_
      refine r_goto X dX11_closedFrom_43 (tgt := 4) (by decide) ?_
      refine VB_wk (ls' := [some (.ref l0), none, some (.int v11), some (.int ((l3 + 1)))]) ?_ w
      exact (And.intro rfl (And.intro rfl (And.intro rfl trivial)))
    · have w := w.2 q
      refine r_iload_n X dX11_closedFrom_29 rfl ?_
      exact r_iret X dX11_closedFrom_30 rfl w hk.1 hk.2

set_option maxRecDepth 10000 in
theorem b_X11_count_0 {g : GG} {K : KX} {D mc ms : Nat} {Pr : Option Value → Hp → Prop} {Pt : String → Hp → Prop} {kc ks : Nat} (hg : GOK g) (hD : 8 ≤ D) (hk : kc ≤ mc ∧ ks ≤ ms) (X : CB g K cX11_count 2 yX11_count (some (.int)) []) (l0 : Nat) (l1 : Int32) (h : Hp)
    (w : ((((l1).toInt < 0 ∨ 14 < (l1).toInt) → ((kc + 1 ≤ mc ∧ ks + 6 ≤ ms) ∧ Pt "java/util/NoSuchElementException" (h ++ [dead]))) ∧ (((l1).toInt = 0 → (∃ v2, gN h l0 10 6 = some v2 ∧ (∃ v3, gI h v2 9 0 = some v3 ∧ Pr (some (.int v3)) h))) ∧ (((l1).toInt = 1 → (∃ v4, gN h l0 10 6 = some v4 ∧ (∃ v5, gI h v4 9 1 = some v5 ∧ Pr (some (.int v5)) h))) ∧ (((l1).toInt = 2 → (∃ v6, gN h l0 10 6 = some v6 ∧ (∃ v7, gN h v6 9 6 = some v7 ∧ (∃ v8, gI h v7 1 0 = some v8 ∧ Pr (some (.int v8)) h)))) ∧ (((l1).toInt = 3 → (∃ v9, gN h l0 10 6 = some v9 ∧ (∃ v10, gI h v9 9 2 = some v10 ∧ Pr (some (.int v10)) h))) ∧ (((l1).toInt = 4 → (∃ v11, gN h l0 10 8 = some v11 ∧ (∃ v12, gN h v11 3 0 = some v12 ∧ (∃ v13, gI h v12 2 0 = some v13 ∧ Pr (some (.int v13)) h)))) ∧ (((l1).toInt = 5 → (∃ v14, gN h l0 10 8 = some v14 ∧ (∃ v15, gN h v14 3 0 = some v15 ∧ (∃ v16, gN h l0 10 6 = some v16 ∧ (∃ fs16, oF h v15 2 = some fs16 ∧ (∃ d16 P16 E16 m16 n16, CT g d16 yX2_openBits (wsC yX2_openBits cX2_openBits 4 (some (.int))) [.ref v15, .ref v16] h m16 n16 P16 E16 ∧ (d16 + 1 ≤ D ∧ kc + m16 ≤ mc ∧ ks + n16 ≤ ms) ∧ (∀ E h', E16 E h' → Pt E h') ∧ (∀ v h16, P16 v h16 → ∃ v18, v = some (.int v18) ∧ Pr (some (.int v18)) h16))))))) ∧ (((l1).toInt = 6 → (∃ v19, gN h l0 10 8 = some v19 ∧ (∃ v20, gN h v19 3 0 = some v20 ∧ (∃ v21, gN h l0 10 6 = some v21 ∧ (∃ fs21, oF h v20 2 = some fs21 ∧ (∃ d21 P21 E21 m21 n21, CT g d21 yX2_seamOfAll (wsC yX2_seamOfAll cX2_seamOfAll 4 (some (.int))) [.ref v20, .ref v21] h m21 n21 P21 E21 ∧ (d21 + 1 ≤ D ∧ kc + m21 ≤ mc ∧ ks + n21 ≤ ms) ∧ (∀ E h', E21 E h' → Pt E h') ∧ (∀ v h21, P21 v h21 → ∃ v23, v = some (.int v23) ∧ Pr (some (.int v23)) h21))))))) ∧ (((l1).toInt = 7 → (∃ v24, gN h l0 10 8 = some v24 ∧ (∃ v25, gN h v24 3 0 = some v25 ∧ (∃ v26, gN h l0 10 6 = some v26 ∧ (∃ fs26, oF h v25 2 = some fs26 ∧ (∃ d26 P26 E26 m26 n26, CT g d26 yX2_threadOfAll (wsC yX2_threadOfAll cX2_threadOfAll 4 (some (.int))) [.ref v25, .ref v26] h m26 n26 P26 E26 ∧ (d26 + 1 ≤ D ∧ kc + m26 ≤ mc ∧ ks + n26 ≤ ms) ∧ (∀ E h', E26 E h' → Pt E h') ∧ (∀ v h26, P26 v h26 → ∃ v28, v = some (.int v28) ∧ Pr (some (.int v28)) h26))))))) ∧ (((l1).toInt = 8 → (∃ v29, gN h l0 10 8 = some v29 ∧ (∃ v30, gN h v29 3 0 = some v30 ∧ (∃ v31, gN h l0 10 6 = some v31 ∧ (∃ fs31, oF h v30 2 = some fs31 ∧ (∃ d31 P31 E31 m31 n31, CT g d31 yX2_idleBits (wsC yX2_idleBits cX2_idleBits 5 (some (.int))) [.ref v30, .ref v31] h m31 n31 P31 E31 ∧ (d31 + 1 ≤ D ∧ kc + m31 ≤ mc ∧ ks + n31 ≤ ms) ∧ (∀ E h', E31 E h' → Pt E h') ∧ (∀ v h31, P31 v h31 → ∃ v33, v = some (.int v33) ∧ Pr (some (.int v33)) h31))))))) ∧ (((l1).toInt = 9 → (∃ v34, gN h l0 10 8 = some v34 ∧ (∃ v35, gN h v34 3 1 = some v35 ∧ (∃ v36, gI h v35 4 0 = some v36 ∧ Pr (some (.int v36)) h)))) ∧ (((l1).toInt = 10 → (∃ v37, gN h l0 10 8 = some v37 ∧ (∃ v38, gN h v37 3 2 = some v38 ∧ (∃ v39, gI h v38 7 0 = some v39 ∧ Pr (some (.int v39)) h)))) ∧ (((l1).toInt = 11 → (∃ v40, gI h l0 10 1 = some v40 ∧ Pr (some (.int v40)) h)) ∧ (((l1).toInt = 12 → (∃ v41, gI h l0 10 3 = some v41 ∧ Pr (some (.int v41)) h)) ∧ (((l1).toInt = 13 → (∃ v42, gI h l0 10 4 = some v42 ∧ Pr (some (.int v42)) h)) ∧ ((l1).toInt = 14 → (∃ v43, gI h l0 10 5 = some v43 ∧ Pr (some (.int v43)) h)))))))))))))))))) : VB g K 2 D mc ms Pr Pt kc ks 0 [some (.ref l0), some (.int l1)] [] h := by
  obtain ⟨p, e, s, m, args, below, meth, c⟩ := K
  have X : CX g p s m args meth c cX11_count 2 yX11_count (some (.int)) [] := X
  have hz := hg s X.gk.z
  show VV g p e (rmm D mc ms) s m args below meth c 2 (QQ g below args s mc ms Pr Pt) kc ks 0 [some (.ref l0), some (.int l1)] [] h
  refine r_iload_n X dX11_count_0 rfl ?_
  refine r_table X dX11_count_1 (tgt := 224) (fun k => [76, 84, 92, 103, 111, 122, 137, 152, 167, 182, 193, 204, 209, 214, 219].getD k 0) (fun _ => by decide) (fun k y1 y2 y3 => ?_) (fun q => ?_) (fun k y1 y2 y3 => ?_)
  · rcases (by omega : k = 0 ∨ k = 1 ∨ k = 2 ∨ k = 3 ∨ k = 4 ∨ k = 5 ∨ k = 6 ∨ k = 7 ∨ k = 8 ∨ k = 9 ∨ k = 10 ∨ k = 11 ∨ k = 12 ∨ k = 13 ∨ k = 14) with rfl | rfl | rfl | rfl | rfl | rfl | rfl | rfl | rfl | rfl | rfl | rfl | rfl | rfl | rfl <;> exact ⟨_, rfl, by decide⟩
  · have w := w.1 q
    obtain ⟨q1, w⟩ := w
    exact r_throwS X hz.1 (hz.2.1 (RX11, 174, 176, 178, "java/util/NoSuchElementException", "no such count") (by decide)) dX11_count_224 dX11_count_227 dX11_count_228 dX11_count_230 dX11_count_233 (fun _ z => nomatch z) (by refine ⟨?_, ?_, q1.1, q1.2⟩ <;> simp [rmm, Value.category] <;> omega) q1.1 q1.2 w
  · rcases (by omega : k = 0 ∨ k = 1 ∨ k = 2 ∨ k = 3 ∨ k = 4 ∨ k = 5 ∨ k = 6 ∨ k = 7 ∨ k = 8 ∨ k = 9 ∨ k = 10 ∨ k = 11 ∨ k = 12 ∨ k = 13 ∨ k = 14) with rfl | rfl | rfl | rfl | rfl | rfl | rfl | rfl | rfl | rfl | rfl | rfl | rfl | rfl | rfl
    · have w := w.2.1 (by omega)
      refine r_aload_n X dX11_count_76 rfl ?_
      obtain ⟨v2, ev2, w⟩ := w
      obtain ⟨fv2, cv2, qv2⟩ := gN_s ev2
      refine r_getf X dX11_count_77 fl_X11_32 cv2 qv2 ?_
      obtain ⟨v3, ev3, w⟩ := w
      obtain ⟨fv3, cv3, qv3⟩ := gI_s ev3
      refine r_getf X dX11_count_80 fl_X11_141 cv3 qv3 ?_
      exact r_iret X dX11_count_83 rfl w hk.1 hk.2
    · have w := w.2.2.1 (by omega)
      refine r_aload_n X dX11_count_84 rfl ?_
      obtain ⟨v4, ev4, w⟩ := w
      obtain ⟨fv4, cv4, qv4⟩ := gN_s ev4
      refine r_getf X dX11_count_85 fl_X11_32 cv4 qv4 ?_
      obtain ⟨v5, ev5, w⟩ := w
      obtain ⟨fv5, cv5, qv5⟩ := gI_s ev5
      refine r_getf X dX11_count_88 fl_X11_144 cv5 qv5 ?_
      exact r_iret X dX11_count_91 rfl w hk.1 hk.2
    · have w := w.2.2.2.1 (by omega)
      refine r_aload_n X dX11_count_92 rfl ?_
      obtain ⟨v6, ev6, w⟩ := w
      obtain ⟨fv6, cv6, qv6⟩ := gN_s ev6
      refine r_getf X dX11_count_93 fl_X11_32 cv6 qv6 ?_
      obtain ⟨v7, ev7, w⟩ := w
      obtain ⟨fv7, cv7, qv7⟩ := gN_s ev7
      refine r_getf X dX11_count_96 fl_X11_147 cv7 qv7 ?_
      obtain ⟨v8, ev8, w⟩ := w
      obtain ⟨fv8, cv8, qv8⟩ := gI_s ev8
      refine r_getf X dX11_count_99 fl_X11_151 cv8 qv8 ?_
      exact r_iret X dX11_count_102 rfl w hk.1 hk.2
    · have w := w.2.2.2.2.1 (by omega)
      refine r_aload_n X dX11_count_103 rfl ?_
      obtain ⟨v9, ev9, w⟩ := w
      obtain ⟨fv9, cv9, qv9⟩ := gN_s ev9
      refine r_getf X dX11_count_104 fl_X11_32 cv9 qv9 ?_
      obtain ⟨v10, ev10, w⟩ := w
      obtain ⟨fv10, cv10, qv10⟩ := gI_s ev10
      refine r_getf X dX11_count_107 fl_X11_156 cv10 qv10 ?_
      exact r_iret X dX11_count_110 rfl w hk.1 hk.2
    · have w := w.2.2.2.2.2.1 (by omega)
      refine r_aload_n X dX11_count_111 rfl ?_
      obtain ⟨v11, ev11, w⟩ := w
      obtain ⟨fv11, cv11, qv11⟩ := gN_s ev11
      refine r_getf X dX11_count_112 fl_X11_42 cv11 qv11 ?_
      obtain ⟨v12, ev12, w⟩ := w
      obtain ⟨fv12, cv12, qv12⟩ := gN_s ev12
      refine r_getf X dX11_count_115 fl_X11_84 cv12 qv12 ?_
      obtain ⟨v13, ev13, w⟩ := w
      obtain ⟨fv13, cv13, qv13⟩ := gI_s ev13
      refine r_getf X dX11_count_118 fl_X11_105 cv13 qv13 ?_
      exact r_iret X dX11_count_121 rfl w hk.1 hk.2
    · have w := w.2.2.2.2.2.2.1 (by omega)
      refine r_aload_n X dX11_count_122 rfl ?_
      obtain ⟨v14, ev14, w⟩ := w
      obtain ⟨fv14, cv14, qv14⟩ := gN_s ev14
      refine r_getf X dX11_count_123 fl_X11_42 cv14 qv14 ?_
      obtain ⟨v15, ev15, w⟩ := w
      obtain ⟨fv15, cv15, qv15⟩ := gN_s ev15
      refine r_getf X dX11_count_126 fl_X11_84 cv15 qv15 ?_
      refine r_aload_n X dX11_count_129 rfl ?_
      obtain ⟨v16, ev16, w⟩ := w
      obtain ⟨fv16, cv16, qv16⟩ := gN_s ev16
      refine r_getf X dX11_count_130 fl_X11_32 cv16 qv16 ?_
      obtain ⟨fs16, es16, w⟩ := w
      obtain ⟨d16, P16, E16, m16, n16, ct16, w⟩ := w
      obtain ⟨⟨x1, x2, x3⟩, w⟩ := w
      obtain ⟨x4, w⟩ := w
      refine r_callV X (As := [.ref v16]) dX11_count_133 mk_X2_openBits ⟨ml_X11_159, im_X2_openBits, se_X2_openBits⟩ (oF_s es16) (ci_X2).1 rfl rfl rfl (by simp [Value.category]) ⟨x1, by show 60 * (d16 + 1) + 200 ≤ 60 * D + 200; omega⟩ ⟨x2, x3⟩ ct16 x4 (fun _ z => nomatch z) (fun _ => ⟨x2, x3⟩) (fun v h16 w1 => ?_)
      have w := w v h16 w1
      have hk : kc + m16 ≤ mc ∧ ks + n16 ≤ ms := ⟨x2, x3⟩
      obtain ⟨v18, rfl, w⟩ := w
      exact r_iret X dX11_count_136 rfl w hk.1 hk.2
    · have w := w.2.2.2.2.2.2.2.1 (by omega)
      refine r_aload_n X dX11_count_137 rfl ?_
      obtain ⟨v19, ev19, w⟩ := w
      obtain ⟨fv19, cv19, qv19⟩ := gN_s ev19
      refine r_getf X dX11_count_138 fl_X11_42 cv19 qv19 ?_
      obtain ⟨v20, ev20, w⟩ := w
      obtain ⟨fv20, cv20, qv20⟩ := gN_s ev20
      refine r_getf X dX11_count_141 fl_X11_84 cv20 qv20 ?_
      refine r_aload_n X dX11_count_144 rfl ?_
      obtain ⟨v21, ev21, w⟩ := w
      obtain ⟨fv21, cv21, qv21⟩ := gN_s ev21
      refine r_getf X dX11_count_145 fl_X11_32 cv21 qv21 ?_
      obtain ⟨fs21, es21, w⟩ := w
      obtain ⟨d21, P21, E21, m21, n21, ct21, w⟩ := w
      obtain ⟨⟨x1, x2, x3⟩, w⟩ := w
      obtain ⟨x4, w⟩ := w
      refine r_callV X (As := [.ref v21]) dX11_count_148 mk_X2_seamOfAll ⟨ml_X11_163, im_X2_seamOfAll, se_X2_seamOfAll⟩ (oF_s es21) (ci_X2).1 rfl rfl rfl (by simp [Value.category]) ⟨x1, by show 60 * (d21 + 1) + 200 ≤ 60 * D + 200; omega⟩ ⟨x2, x3⟩ ct21 x4 (fun _ z => nomatch z) (fun _ => ⟨x2, x3⟩) (fun v h21 w1 => ?_)
      have w := w v h21 w1
      have hk : kc + m21 ≤ mc ∧ ks + n21 ≤ ms := ⟨x2, x3⟩
      obtain ⟨v23, rfl, w⟩ := w
      exact r_iret X dX11_count_151 rfl w hk.1 hk.2
    · have w := w.2.2.2.2.2.2.2.2.1 (by omega)
      refine r_aload_n X dX11_count_152 rfl ?_
      obtain ⟨v24, ev24, w⟩ := w
      obtain ⟨fv24, cv24, qv24⟩ := gN_s ev24
      refine r_getf X dX11_count_153 fl_X11_42 cv24 qv24 ?_
      obtain ⟨v25, ev25, w⟩ := w
      obtain ⟨fv25, cv25, qv25⟩ := gN_s ev25
      refine r_getf X dX11_count_156 fl_X11_84 cv25 qv25 ?_
      refine r_aload_n X dX11_count_159 rfl ?_
      obtain ⟨v26, ev26, w⟩ := w
      obtain ⟨fv26, cv26, qv26⟩ := gN_s ev26
      refine r_getf X dX11_count_160 fl_X11_32 cv26 qv26 ?_
      obtain ⟨fs26, es26, w⟩ := w
      obtain ⟨d26, P26, E26, m26, n26, ct26, w⟩ := w
      obtain ⟨⟨x1, x2, x3⟩, w⟩ := w
      obtain ⟨x4, w⟩ := w
      refine r_callV X (As := [.ref v26]) dX11_count_163 mk_X2_threadOfAll ⟨ml_X11_166, im_X2_threadOfAll, se_X2_threadOfAll⟩ (oF_s es26) (ci_X2).1 rfl rfl rfl (by simp [Value.category]) ⟨x1, by show 60 * (d26 + 1) + 200 ≤ 60 * D + 200; omega⟩ ⟨x2, x3⟩ ct26 x4 (fun _ z => nomatch z) (fun _ => ⟨x2, x3⟩) (fun v h26 w1 => ?_)
      have w := w v h26 w1
      have hk : kc + m26 ≤ mc ∧ ks + n26 ≤ ms := ⟨x2, x3⟩
      obtain ⟨v28, rfl, w⟩ := w
      exact r_iret X dX11_count_166 rfl w hk.1 hk.2
    · have w := w.2.2.2.2.2.2.2.2.2.1 (by omega)
      refine r_aload_n X dX11_count_167 rfl ?_
      obtain ⟨v29, ev29, w⟩ := w
      obtain ⟨fv29, cv29, qv29⟩ := gN_s ev29
      refine r_getf X dX11_count_168 fl_X11_42 cv29 qv29 ?_
      obtain ⟨v30, ev30, w⟩ := w
      obtain ⟨fv30, cv30, qv30⟩ := gN_s ev30
      refine r_getf X dX11_count_171 fl_X11_84 cv30 qv30 ?_
      refine r_aload_n X dX11_count_174 rfl ?_
      obtain ⟨v31, ev31, w⟩ := w
      obtain ⟨fv31, cv31, qv31⟩ := gN_s ev31
      refine r_getf X dX11_count_175 fl_X11_32 cv31 qv31 ?_
      obtain ⟨fs31, es31, w⟩ := w
      obtain ⟨d31, P31, E31, m31, n31, ct31, w⟩ := w
      obtain ⟨⟨x1, x2, x3⟩, w⟩ := w
      obtain ⟨x4, w⟩ := w
      refine r_callV X (As := [.ref v31]) dX11_count_178 mk_X2_idleBits ⟨ml_X11_169, im_X2_idleBits, se_X2_idleBits⟩ (oF_s es31) (ci_X2).1 rfl rfl rfl (by simp [Value.category]) ⟨x1, by show 60 * (d31 + 1) + 200 ≤ 60 * D + 200; omega⟩ ⟨x2, x3⟩ ct31 x4 (fun _ z => nomatch z) (fun _ => ⟨x2, x3⟩) (fun v h31 w1 => ?_)
      have w := w v h31 w1
      have hk : kc + m31 ≤ mc ∧ ks + n31 ≤ ms := ⟨x2, x3⟩
      obtain ⟨v33, rfl, w⟩ := w
      exact r_iret X dX11_count_181 rfl w hk.1 hk.2
    · have w := w.2.2.2.2.2.2.2.2.2.2.1 (by omega)
      refine r_aload_n X dX11_count_182 rfl ?_
      obtain ⟨v34, ev34, w⟩ := w
      obtain ⟨fv34, cv34, qv34⟩ := gN_s ev34
      refine r_getf X dX11_count_183 fl_X11_42 cv34 qv34 ?_
      obtain ⟨v35, ev35, w⟩ := w
      obtain ⟨fv35, cv35, qv35⟩ := gN_s ev35
      refine r_getf X dX11_count_186 fl_X11_127 cv35 qv35 ?_
      obtain ⟨v36, ev36, w⟩ := w
      obtain ⟨fv36, cv36, qv36⟩ := gI_s ev36
      refine r_getf X dX11_count_189 fl_X11_172 cv36 qv36 ?_
      exact r_iret X dX11_count_192 rfl w hk.1 hk.2
    · have w := w.2.2.2.2.2.2.2.2.2.2.2.1 (by omega)
      refine r_aload_n X dX11_count_193 rfl ?_
      obtain ⟨v37, ev37, w⟩ := w
      obtain ⟨fv37, cv37, qv37⟩ := gN_s ev37
      refine r_getf X dX11_count_194 fl_X11_42 cv37 qv37 ?_
      obtain ⟨v38, ev38, w⟩ := w
      obtain ⟨fv38, cv38, qv38⟩ := gN_s ev38
      refine r_getf X dX11_count_197 fl_X11_134 cv38 qv38 ?_
      obtain ⟨v39, ev39, w⟩ := w
      obtain ⟨fv39, cv39, qv39⟩ := gI_s ev39
      refine r_getf X dX11_count_200 fl_X11_173 cv39 qv39 ?_
      exact r_iret X dX11_count_203 rfl w hk.1 hk.2
    · have w := w.2.2.2.2.2.2.2.2.2.2.2.2.1 (by omega)
      refine r_aload_n X dX11_count_204 rfl ?_
      obtain ⟨v40, ev40, w⟩ := w
      obtain ⟨fv40, cv40, qv40⟩ := gI_s ev40
      refine r_getf X dX11_count_205 fl_X11_13 cv40 qv40 ?_
      exact r_iret X dX11_count_208 rfl w hk.1 hk.2
    · have w := w.2.2.2.2.2.2.2.2.2.2.2.2.2.1 (by omega)
      refine r_aload_n X dX11_count_209 rfl ?_
      obtain ⟨v41, ev41, w⟩ := w
      obtain ⟨fv41, cv41, qv41⟩ := gI_s ev41
      refine r_getf X dX11_count_210 fl_X11_20 cv41 qv41 ?_
      exact r_iret X dX11_count_213 rfl w hk.1 hk.2
    · have w := w.2.2.2.2.2.2.2.2.2.2.2.2.2.2.1 (by omega)
      refine r_aload_n X dX11_count_214 rfl ?_
      obtain ⟨v42, ev42, w⟩ := w
      obtain ⟨fv42, cv42, qv42⟩ := gI_s ev42
      refine r_getf X dX11_count_215 fl_X11_23 cv42 qv42 ?_
      exact r_iret X dX11_count_218 rfl w hk.1 hk.2
    · have w := w.2.2.2.2.2.2.2.2.2.2.2.2.2.2.2 (by omega)
      refine r_aload_n X dX11_count_219 rfl ?_
      obtain ⟨v43, ev43, w⟩ := w
      obtain ⟨fv43, cv43, qv43⟩ := gI_s ev43
      refine r_getf X dX11_count_220 fl_X11_26 cv43 qv43 ?_
      exact r_iret X dX11_count_223 rfl w hk.1 hk.2

set_option maxRecDepth 10000 in
theorem b_X11_days_0 {g : GG} {K : KX} {D mc ms : Nat} {Pr : Option Value → Hp → Prop} {Pt : String → Hp → Prop} {kc ks : Nat} (hg : GOK g) (hD : 8 ≤ D) (hk : kc ≤ mc ∧ ks ≤ ms) (X : CB g K cX11_days 2 yX11_days (some (.int)) []) (l0 : Nat) (l1 : Int32) (h : Hp)
    (w : ((l1 < (1 : Int32) → VB g K 2 D mc ms Pr Pt kc ks 29 [some (.ref l0), none] [] h) ∧ (¬ l1 < (1 : Int32) → (((20 : Int32) < l1 → VB g K 2 D mc ms Pr Pt kc ks 29 [some (.ref l0), none] [] h) ∧ (¬ (20 : Int32) < l1 → (∃ v1, gN h l0 10 8 = some v1 ∧ (∃ v2, gN h v1 3 0 = some v2 ∧ (∃ v3, gI h v2 2 0 = some v3 ∧ (((v3 + l1) ≤ (999 : Int32) → (∃ v4, gN h l0 10 8 = some v4 ∧ (∃ v5, gN h v4 3 1 = some v5 ∧ (∃ v6, gN h l0 10 8 = some v6 ∧ (∃ v7, gN h v6 3 0 = some v7 ∧ (∃ fs7, oF h v5 4 = some fs7 ∧ (∃ d7 P7 E7 m7 n7, CT g d7 yX4_keep (wsC yX4_keep cX4_keep 2 none) [.ref v5, .ref v7] h m7 n7 P7 E7 ∧ (d7 + 1 ≤ D ∧ kc + m7 ≤ mc ∧ ks + n7 ≤ ms) ∧ (∀ E h', E7 E h' → Pt E h') ∧ (∀ v h7, P7 v h7 → v = none ∧ (∃ v9, gN h7 l0 10 8 = some v9 ∧ (∃ v10, gN h7 v9 3 0 = some v10 ∧ (∃ v11, gN h7 l0 10 6 = some v11 ∧ (∃ fs11, oF h7 v10 2 = some fs11 ∧ (∃ d11 P11 E11 m11 n11, CT g d11 yX2_passDays (wsC yX2_passDays cX2_passDays 4 none) [.ref v10, .ref v11, .int l1] h7 m11 n11 P11 E11 ∧ (d11 + 1 ≤ D ∧ (kc + m7) + m11 ≤ mc ∧ (ks + n7) + n11 ≤ ms) ∧ (∀ E h', E11 E h' → Pt E h') ∧ (∀ v h11, P11 v h11 → v = none ∧ (∃ v13, gN h11 l0 10 8 = some v13 ∧ (∃ v14, gN h11 v13 3 0 = some v14 ∧ (∃ v15, gI h11 v14 2 0 = some v15 ∧ Pr (some (.int v15)) h11))))))))))))))))) ∧ (¬ (v3 + l1) ≤ (999 : Int32) → VB g K 2 D mc ms Pr Pt kc ks 29 [some (.ref l0), none] [] h)))))))))) : VB g K 2 D mc ms Pr Pt kc ks 0 [some (.ref l0), some (.int l1)] [] h := by
  obtain ⟨p, e, s, m, args, below, meth, c⟩ := K
  have X : CX g p s m args meth c cX11_days 2 yX11_days (some (.int)) [] := X
  have hz := hg s X.gk.z
  show VV g p e (rmm D mc ms) s m args below meth c 2 (QQ g below args s mc ms Pr Pt) kc ks 0 [some (.ref l0), some (.int l1)] [] h
  refine r_iload_n X dX11_days_0 rfl ?_
  refine r_iconst X dX11_days_1 (v := 1) (by decide) ?_
  refine r_icmp_lt X dX11_days_2 (tgt := 29) (by decide) (fun q => ?_) (fun q => ?_)
  · have w := w.1 q
    refine VB_wk (ls' := [some (.ref l0), none]) ?_ w
    exact (And.intro rfl trivial)
  · have w := w.2 q
    refine r_iload_n X dX11_days_5 rfl ?_
    refine r_bipush X dX11_days_6 (v := 20) (by decide) ?_
    refine r_icmp_gt X dX11_days_8 (tgt := 29) (by decide) (fun q => ?_) (fun q => ?_)
    · have w := w.1 q
      refine VB_wk (ls' := [some (.ref l0), none]) ?_ w
      exact (And.intro rfl trivial)
    · have w := w.2 q
      refine r_aload_n X dX11_days_11 rfl ?_
      obtain ⟨v1, ev1, w⟩ := w
      obtain ⟨fv1, cv1, qv1⟩ := gN_s ev1
      refine r_getf X dX11_days_12 fl_X11_42 cv1 qv1 ?_
      obtain ⟨v2, ev2, w⟩ := w
      obtain ⟨fv2, cv2, qv2⟩ := gN_s ev2
      refine r_getf X dX11_days_15 fl_X11_84 cv2 qv2 ?_
      obtain ⟨v3, ev3, w⟩ := w
      obtain ⟨fv3, cv3, qv3⟩ := gI_s ev3
      refine r_getf X dX11_days_18 fl_X11_105 cv3 qv3 ?_
      refine r_iload_n X dX11_days_21 rfl ?_
      refine r_iadd X dX11_days_22 ?_
      refine r_sipush X dX11_days_23 (v := 999) (by decide) ?_
      refine r_icmp_le X dX11_days_26 (tgt := 34) (by decide) (fun q => ?_) (fun q => ?_)
      · have w := w.1 q
        refine r_aload_n X dX11_days_34 rfl ?_
        obtain ⟨v4, ev4, w⟩ := w
        obtain ⟨fv4, cv4, qv4⟩ := gN_s ev4
        refine r_getf X dX11_days_35 fl_X11_42 cv4 qv4 ?_
        obtain ⟨v5, ev5, w⟩ := w
        obtain ⟨fv5, cv5, qv5⟩ := gN_s ev5
        refine r_getf X dX11_days_38 fl_X11_127 cv5 qv5 ?_
        refine r_aload_n X dX11_days_41 rfl ?_
        obtain ⟨v6, ev6, w⟩ := w
        obtain ⟨fv6, cv6, qv6⟩ := gN_s ev6
        refine r_getf X dX11_days_42 fl_X11_42 cv6 qv6 ?_
        obtain ⟨v7, ev7, w⟩ := w
        obtain ⟨fv7, cv7, qv7⟩ := gN_s ev7
        refine r_getf X dX11_days_45 fl_X11_84 cv7 qv7 ?_
        obtain ⟨fs7, es7, w⟩ := w
        obtain ⟨d7, P7, E7, m7, n7, ct7, w⟩ := w
        obtain ⟨⟨x1, x2, x3⟩, w⟩ := w
        obtain ⟨x4, w⟩ := w
        refine r_callV X (As := [.ref v7]) dX11_days_48 mk_X4_keep ⟨ml_X11_225, im_X4_keep, se_X4_keep⟩ (oF_s es7) (ci_X4).1 rfl rfl rfl (by simp [Value.category]) ⟨x1, by show 60 * (d7 + 1) + 200 ≤ 60 * D + 200; omega⟩ ⟨x2, x3⟩ ct7 x4 (fun _ z => nomatch z) (fun _ => ⟨x2, x3⟩) (fun v h7 w1 => ?_)
        have w := w v h7 w1
        have hk : kc + m7 ≤ mc ∧ ks + n7 ≤ ms := ⟨x2, x3⟩
        obtain ⟨rfl, w⟩ := w
        refine r_aload_n X dX11_days_51 rfl ?_
        obtain ⟨v9, ev9, w⟩ := w
        obtain ⟨fv9, cv9, qv9⟩ := gN_s ev9
        refine r_getf X dX11_days_52 fl_X11_42 cv9 qv9 ?_
        obtain ⟨v10, ev10, w⟩ := w
        obtain ⟨fv10, cv10, qv10⟩ := gN_s ev10
        refine r_getf X dX11_days_55 fl_X11_84 cv10 qv10 ?_
        refine r_aload_n X dX11_days_58 rfl ?_
        obtain ⟨v11, ev11, w⟩ := w
        obtain ⟨fv11, cv11, qv11⟩ := gN_s ev11
        refine r_getf X dX11_days_59 fl_X11_32 cv11 qv11 ?_
        refine r_iload_n X dX11_days_62 rfl ?_
        obtain ⟨fs11, es11, w⟩ := w
        obtain ⟨d11, P11, E11, m11, n11, ct11, w⟩ := w
        obtain ⟨⟨x1, x2, x3⟩, w⟩ := w
        obtain ⟨x4, w⟩ := w
        refine r_callV X (As := [.ref v11, .int l1]) dX11_days_63 mk_X2_passDays ⟨ml_X11_228, im_X2_passDays, se_X2_passDays⟩ (oF_s es11) (ci_X2).1 rfl rfl rfl (by simp [Value.category]) ⟨x1, by show 60 * (d11 + 1) + 200 ≤ 60 * D + 200; omega⟩ ⟨x2, x3⟩ ct11 x4 (fun _ z => nomatch z) (fun _ => ⟨x2, x3⟩) (fun v h11 w1 => ?_)
        have w := w v h11 w1
        have hk : (kc + m7) + m11 ≤ mc ∧ (ks + n7) + n11 ≤ ms := ⟨x2, x3⟩
        obtain ⟨rfl, w⟩ := w
        refine r_aload_n X dX11_days_66 rfl ?_
        obtain ⟨v13, ev13, w⟩ := w
        obtain ⟨fv13, cv13, qv13⟩ := gN_s ev13
        refine r_getf X dX11_days_67 fl_X11_42 cv13 qv13 ?_
        obtain ⟨v14, ev14, w⟩ := w
        obtain ⟨fv14, cv14, qv14⟩ := gN_s ev14
        refine r_getf X dX11_days_70 fl_X11_84 cv14 qv14 ?_
        obtain ⟨v15, ev15, w⟩ := w
        obtain ⟨fv15, cv15, qv15⟩ := gI_s ev15
        refine r_getf X dX11_days_73 fl_X11_105 cv15 qv15 ?_
        exact r_iret X dX11_days_76 rfl w hk.1 hk.2
      · have w := w.2 q
        refine VB_wk (ls' := [some (.ref l0), none]) ?_ w
        exact (And.intro rfl trivial)

set_option maxRecDepth 10000 in
theorem b_X11_days_29 {g : GG} {K : KX} {D mc ms : Nat} {Pr : Option Value → Hp → Prop} {Pt : String → Hp → Prop} {kc ks : Nat} (hg : GOK g) (hD : 8 ≤ D) (hk : kc ≤ mc ∧ ks ≤ ms) (X : CB g K cX11_days 2 yX11_days (some (.int)) []) (l0 : Nat) (h : Hp)
    (w : (∃ fs0, oF h l0 10 = some fs0 ∧ (∃ d0 P0 E0 m0 n0, CT g d0 yX11_refuseAct (wsC yX11_refuseAct cX11_refuseAct 1 (some (.int))) [.ref l0] h m0 n0 P0 E0 ∧ (d0 + 1 ≤ D ∧ kc + m0 ≤ mc ∧ ks + n0 ≤ ms) ∧ (∀ E h', E0 E h' → Pt E h') ∧ (∀ v h0, P0 v h0 → ∃ v2, v = some (.int v2) ∧ Pr (some (.int v2)) h0)))) : VB g K 2 D mc ms Pr Pt kc ks 29 [some (.ref l0), none] [] h := by
  obtain ⟨p, e, s, m, args, below, meth, c⟩ := K
  have X : CX g p s m args meth c cX11_days 2 yX11_days (some (.int)) [] := X
  have hz := hg s X.gk.z
  show VV g p e (rmm D mc ms) s m args below meth c 2 (QQ g below args s mc ms Pr Pt) kc ks 29 [some (.ref l0), none] [] h
  refine r_aload_n X dX11_days_29 rfl ?_
  obtain ⟨fs0, es0, w⟩ := w
  obtain ⟨d0, P0, E0, m0, n0, ct0, w⟩ := w
  obtain ⟨⟨x1, x2, x3⟩, w⟩ := w
  obtain ⟨x4, w⟩ := w
  refine r_callV X (As := []) dX11_days_30 mk_X11_refuseAct ⟨ml_X11_221, im_X11_refuseAct, se_X11_refuseAct⟩ (oF_s es0) (ci_X11).1 rfl rfl rfl (by simp [Value.category]) ⟨x1, by show 60 * (d0 + 1) + 200 ≤ 60 * D + 200; omega⟩ ⟨x2, x3⟩ ct0 x4 (fun _ z => nomatch z) (fun _ => ⟨x2, x3⟩) (fun v h0 w1 => ?_)
  have w := w v h0 w1
  have hk : kc + m0 ≤ mc ∧ ks + n0 ≤ ms := ⟨x2, x3⟩
  obtain ⟨v2, rfl, w⟩ := w
  exact r_iret X dX11_days_33 rfl w hk.1 hk.2

set_option maxRecDepth 10000 in
theorem b_X11_draw_0 {g : GG} {K : KX} {D mc ms : Nat} {Pr : Option Value → Hp → Prop} {Pt : String → Hp → Prop} {kc ks : Nat} (hg : GOK g) (hD : 8 ≤ D) (hk : kc ≤ mc ∧ ks ≤ ms) (X : CB g K cX11_draw 2 yX11_draw (some (.int)) []) (l0 : Nat) (l1 : Int32) (h : Hp)
    (w : (∃ v1, gI h l0 10 14 = some v1 ∧ (∃ h2, pF h l0 10 14 (.int (((v1 * (1103515245 : Int32)) + (12345 : Int32)))) = some h2 ∧ (((1 : Int32) ≤ l1 → (∃ v3, gI h2 l0 10 14 = some v3 ∧ (¬ l1 = 0 ∧ Pr (some (.int ((((Int32.toUInt32 v3 >>> (Int32.toUInt32 ((16 : Int32)) &&& Int32.toUInt32 31)).toInt32 &&& (32767 : Int32)) - ((Int32.toUInt32 v3 >>> (Int32.toUInt32 ((16 : Int32)) &&& Int32.toUInt32 31)).toInt32 &&& (32767 : Int32)) / l1 * l1)))) h2))) ∧ (¬ (1 : Int32) ≤ l1 → Pr (some (.int ((0 : Int32)))) h2))))) : VB g K 2 D mc ms Pr Pt kc ks 0 [some (.ref l0), some (.int l1)] [] h := by
  obtain ⟨p, e, s, m, args, below, meth, c⟩ := K
  have X : CX g p s m args meth c cX11_draw 2 yX11_draw (some (.int)) [] := X
  have hz := hg s X.gk.z
  show VV g p e (rmm D mc ms) s m args below meth c 2 (QQ g below args s mc ms Pr Pt) kc ks 0 [some (.ref l0), some (.int l1)] [] h
  refine r_aload_n X dX11_draw_0 rfl ?_
  refine r_aload_n X dX11_draw_1 rfl ?_
  obtain ⟨v1, ev1, w⟩ := w
  obtain ⟨fv1, cv1, qv1⟩ := gI_s ev1
  refine r_getf X dX11_draw_2 fl_X11_70 cv1 qv1 ?_
  refine r_ldcw X dX11_draw_5 k_X11_406 ?_
  refine r_imul X dX11_draw_8 ?_
  refine r_sipush X dX11_draw_9 (v := 12345) (by decide) ?_
  refine r_iadd X dX11_draw_12 ?_
  obtain ⟨h2, eh2, w⟩ := w
  obtain ⟨fh2, ch2, lh2, rh2⟩ := pF_s eh2
  subst rh2
  refine r_putf X dX11_draw_13 fw_X11_70 ch2 lh2 rfl rfl ?_
  refine r_iload_n X dX11_draw_16 rfl ?_
  refine r_iconst X dX11_draw_17 (v := 1) (by decide) ?_
  refine r_icmp_ge X dX11_draw_18 (tgt := 25) (by decide) (fun q => ?_) (fun q => ?_)
  · have w := w.1 q
    refine r_aload_n X dX11_draw_25 rfl ?_
    obtain ⟨v3, ev3, w⟩ := w
    obtain ⟨fv3, cv3, qv3⟩ := gI_s ev3
    refine r_getf X dX11_draw_26 fl_X11_70 cv3 qv3 ?_
    refine r_bipush X dX11_draw_29 (v := 16) (by decide) ?_
    refine r_iushr X dX11_draw_31 ?_
    refine r_sipush X dX11_draw_32 (v := 32767) (by decide) ?_
    refine r_iand X dX11_draw_35 ?_
    refine r_iload_n X dX11_draw_36 rfl ?_
    obtain ⟨q4, w⟩ := w
    refine r_irem X dX11_draw_37 q4 ?_
    exact r_iret X dX11_draw_38 rfl w hk.1 hk.2
  · have w := w.2 q
    refine r_iconst X dX11_draw_21 (v := 0) (by decide) ?_
    refine r_goto X dX11_draw_22 (tgt := 38) (by decide) ?_
    exact r_iret X dX11_draw_38 rfl w hk.1 hk.2

set_option maxRecDepth 10000 in
theorem b_X11_far_0 {g : GG} {K : KX} {D mc ms : Nat} {Pr : Option Value → Hp → Prop} {Pt : String → Hp → Prop} {kc ks : Nat} (hg : GOK g) (hD : 8 ≤ D) (hk : kc ≤ mc ∧ ks ≤ ms) (X : CB g K cX11_far 3 yX11_far (some (.int)) []) (l0 : Nat) (l1 : Int32) (l2 : Int32) (h : Hp)
    (w : (∃ fs0, oF h l0 10 = some fs0 ∧ (∃ d0 P0 E0 m0 n0, CT g d0 yX11_needStretch (wsC yX11_needStretch cX11_needStretch 2 none) [.ref l0, .int l1] h m0 n0 P0 E0 ∧ (d0 + 1 ≤ D ∧ kc + m0 ≤ mc ∧ ks + n0 ≤ ms) ∧ (∀ E h', E0 E h' → Pt E h') ∧ (∀ v h0, P0 v h0 → v = none ∧ (∃ fs1, oF h0 l0 10 = some fs1 ∧ (∃ d1 P1 E1 m1 n1, CT g d1 yX11_needStretch (wsC yX11_needStretch cX11_needStretch 2 none) [.ref l0, .int l2] h0 m1 n1 P1 E1 ∧ (d1 + 1 ≤ D ∧ (kc + m0) + m1 ≤ mc ∧ (ks + n0) + n1 ≤ ms) ∧ (∀ E h', E1 E h' → Pt E h') ∧ (∀ v h1, P1 v h1 → v = none ∧ (∃ v3, gN h1 l0 10 6 = some v3 ∧ (∃ fs3, oF h1 v3 9 = some fs3 ∧ (∃ d3 P3 E3 m3 n3, CT g d3 yX9_steps (wsC yX9_steps cX9_steps 4 (some (.int))) [.ref v3, .int l1, .int l2] h1 m3 n3 P3 E3 ∧ (d3 + 1 ≤ D ∧ ((kc + m0) + m1) + m3 ≤ mc ∧ ((ks + n0) + n1) + n3 ≤ ms) ∧ (∀ E h', E3 E h' → Pt E h') ∧ (∀ v h3, P3 v h3 → ∃ v5, v = some (.int v5) ∧ Pr (some (.int v5)) h3))))))))))) : VB g K 3 D mc ms Pr Pt kc ks 0 [some (.ref l0), some (.int l1), some (.int l2)] [] h := by
  obtain ⟨p, e, s, m, args, below, meth, c⟩ := K
  have X : CX g p s m args meth c cX11_far 3 yX11_far (some (.int)) [] := X
  have hz := hg s X.gk.z
  show VV g p e (rmm D mc ms) s m args below meth c 3 (QQ g below args s mc ms Pr Pt) kc ks 0 [some (.ref l0), some (.int l1), some (.int l2)] [] h
  refine r_aload_n X dX11_far_0 rfl ?_
  refine r_iload_n X dX11_far_1 rfl ?_
  obtain ⟨fs0, es0, w⟩ := w
  obtain ⟨d0, P0, E0, m0, n0, ct0, w⟩ := w
  obtain ⟨⟨x1, x2, x3⟩, w⟩ := w
  obtain ⟨x4, w⟩ := w
  refine r_callV X (As := [.int l1]) dX11_far_2 mk_X11_needStretch ⟨ml_X11_179, im_X11_needStretch, se_X11_needStretch⟩ (oF_s es0) (ci_X11).1 rfl rfl rfl (by simp [Value.category]) ⟨x1, by show 60 * (d0 + 1) + 200 ≤ 60 * D + 200; omega⟩ ⟨x2, x3⟩ ct0 x4 (fun _ z => nomatch z) (fun _ => ⟨x2, x3⟩) (fun v h0 w1 => ?_)
  have w := w v h0 w1
  have hk : kc + m0 ≤ mc ∧ ks + n0 ≤ ms := ⟨x2, x3⟩
  obtain ⟨rfl, w⟩ := w
  refine r_aload_n X dX11_far_5 rfl ?_
  refine r_iload_n X dX11_far_6 rfl ?_
  obtain ⟨fs1, es1, w⟩ := w
  obtain ⟨d1, P1, E1, m1, n1, ct1, w⟩ := w
  obtain ⟨⟨x1, x2, x3⟩, w⟩ := w
  obtain ⟨x4, w⟩ := w
  refine r_callV X (As := [.int l2]) dX11_far_7 mk_X11_needStretch ⟨ml_X11_179, im_X11_needStretch, se_X11_needStretch⟩ (oF_s es1) (ci_X11).1 rfl rfl rfl (by simp [Value.category]) ⟨x1, by show 60 * (d1 + 1) + 200 ≤ 60 * D + 200; omega⟩ ⟨x2, x3⟩ ct1 x4 (fun _ z => nomatch z) (fun _ => ⟨x2, x3⟩) (fun v h1 w1 => ?_)
  have w := w v h1 w1
  have hk : (kc + m0) + m1 ≤ mc ∧ (ks + n0) + n1 ≤ ms := ⟨x2, x3⟩
  obtain ⟨rfl, w⟩ := w
  refine r_aload_n X dX11_far_10 rfl ?_
  obtain ⟨v3, ev3, w⟩ := w
  obtain ⟨fv3, cv3, qv3⟩ := gN_s ev3
  refine r_getf X dX11_far_11 fl_X11_32 cv3 qv3 ?_
  refine r_iload_n X dX11_far_14 rfl ?_
  refine r_iload_n X dX11_far_15 rfl ?_
  obtain ⟨fs3, es3, w⟩ := w
  obtain ⟨d3, P3, E3, m3, n3, ct3, w⟩ := w
  obtain ⟨⟨x1, x2, x3⟩, w⟩ := w
  obtain ⟨x4, w⟩ := w
  refine r_callV X (As := [.int l1, .int l2]) dX11_far_16 mk_X9_steps ⟨ml_X11_334, im_X9_steps, se_X9_steps⟩ (oF_s es3) (ci_X9).1 rfl rfl rfl (by simp [Value.category]) ⟨x1, by show 60 * (d3 + 1) + 200 ≤ 60 * D + 200; omega⟩ ⟨x2, x3⟩ ct3 x4 (fun _ z => nomatch z) (fun _ => ⟨x2, x3⟩) (fun v h3 w1 => ?_)
  have w := w v h3 w1
  have hk : ((kc + m0) + m1) + m3 ≤ mc ∧ ((ks + n0) + n1) + n3 ≤ ms := ⟨x2, x3⟩
  obtain ⟨v5, rfl, w⟩ := w
  exact r_iret X dX11_far_19 rfl w hk.1 hk.2

set_option maxRecDepth 10000 in
theorem b_X11_fault_0 {g : GG} {K : KX} {D mc ms : Nat} {Pr : Option Value → Hp → Prop} {Pt : String → Hp → Prop} {kc ks : Nat} (hg : GOK g) (hD : 8 ≤ D) (hk : kc ≤ mc ∧ ks ≤ ms) (X : CB g K cX11_fault 1 yX11_fault (some (.int)) []) (l0 : Nat) (h : Hp)
    (w : (∃ v1, gI h l0 10 2 = some v1 ∧ Pr (some (.int v1)) h)) : VB g K 1 D mc ms Pr Pt kc ks 0 [some (.ref l0)] [] h := by
  obtain ⟨p, e, s, m, args, below, meth, c⟩ := K
  have X : CX g p s m args meth c cX11_fault 1 yX11_fault (some (.int)) [] := X
  have hz := hg s X.gk.z
  show VV g p e (rmm D mc ms) s m args below meth c 1 (QQ g below args s mc ms Pr Pt) kc ks 0 [some (.ref l0)] [] h
  refine r_aload_n X dX11_fault_0 rfl ?_
  obtain ⟨v1, ev1, w⟩ := w
  obtain ⟨fv1, cv1, qv1⟩ := gI_s ev1
  refine r_getf X dX11_fault_1 fl_X11_17 cv1 qv1 ?_
  exact r_iret X dX11_fault_4 rfl w hk.1 hk.2

set_option maxRecDepth 10000 in
theorem b_X11_feed_0 {g : GG} {K : KX} {D mc ms : Nat} {Pr : Option Value → Hp → Prop} {Pt : String → Hp → Prop} {kc ks : Nat} (hg : GOK g) (hD : 8 ≤ D) (hk : kc ≤ mc ∧ ks ≤ ms) (X : CB g K cX11_feed 6 yX11_feed (some (.int)) []) (l0 : Nat) (l1 : Int32) (l2 : Int32) (l3 : Int32) (l4 : Int32) (l5 : Int32) (h : Hp)
    (w : (∃ v1, gI h l0 10 1 = some v1 ∧ (((v1 + (20 : Int32)) ≤ (700 : Int32) → (∃ fs1, oF h l0 10 = some fs1 ∧ (∃ d1 P1 E1 m1 n1, CT g d1 yX11_putBytes (wsC yX11_putBytes cX11_putBytes 3 none) [.ref l0, .int l1] h m1 n1 P1 E1 ∧ (d1 + 1 ≤ D ∧ kc + m1 ≤ mc ∧ ks + n1 ≤ ms) ∧ (∀ E h', E1 E h' → Pt E h') ∧ (∀ v h1, P1 v h1 → v = none ∧ (∃ fs2, oF h1 l0 10 = some fs2 ∧ (∃ d2 P2 E2 m2 n2, CT g d2 yX11_putBytes (wsC yX11_putBytes cX11_putBytes 3 none) [.ref l0, .int l2] h1 m2 n2 P2 E2 ∧ (d2 + 1 ≤ D ∧ (kc + m1) + m2 ≤ mc ∧ (ks + n1) + n2 ≤ ms) ∧ (∀ E h', E2 E h' → Pt E h') ∧ (∀ v h2, P2 v h2 → v = none ∧ (∃ fs3, oF h2 l0 10 = some fs3 ∧ (∃ d3 P3 E3 m3 n3, CT g d3 yX11_putBytes (wsC yX11_putBytes cX11_putBytes 3 none) [.ref l0, .int l3] h2 m3 n3 P3 E3 ∧ (d3 + 1 ≤ D ∧ ((kc + m1) + m2) + m3 ≤ mc ∧ ((ks + n1) + n2) + n3 ≤ ms) ∧ (∀ E h', E3 E h' → Pt E h') ∧ (∀ v h3, P3 v h3 → v = none ∧ (∃ fs4, oF h3 l0 10 = some fs4 ∧ (∃ d4 P4 E4 m4 n4, CT g d4 yX11_putBytes (wsC yX11_putBytes cX11_putBytes 3 none) [.ref l0, .int l4] h3 m4 n4 P4 E4 ∧ (d4 + 1 ≤ D ∧ (((kc + m1) + m2) + m3) + m4 ≤ mc ∧ (((ks + n1) + n2) + n3) + n4 ≤ ms) ∧ (∀ E h', E4 E h' → Pt E h') ∧ (∀ v h4, P4 v h4 → v = none ∧ (∃ fs5, oF h4 l0 10 = some fs5 ∧ (∃ d5 P5 E5 m5 n5, CT g d5 yX11_putBytes (wsC yX11_putBytes cX11_putBytes 3 none) [.ref l0, .int l5] h4 m5 n5 P5 E5 ∧ (d5 + 1 ≤ D ∧ ((((kc + m1) + m2) + m3) + m4) + m5 ≤ mc ∧ ((((ks + n1) + n2) + n3) + n4) + n5 ≤ ms) ∧ (∀ E h', E5 E h' → Pt E h') ∧ (∀ v h5, P5 v h5 → v = none ∧ (∃ v7, gI h5 l0 10 1 = some v7 ∧ Pr (some (.int v7)) h5))))))))))))))))) ∧ (¬ (v1 + (20 : Int32)) ≤ (700 : Int32) → Pr (some (.int ((-1 : Int32)))) h)))) : VB g K 6 D mc ms Pr Pt kc ks 0 [some (.ref l0), some (.int l1), some (.int l2), some (.int l3), some (.int l4), some (.int l5)] [] h := by
  obtain ⟨p, e, s, m, args, below, meth, c⟩ := K
  have X : CX g p s m args meth c cX11_feed 6 yX11_feed (some (.int)) [] := X
  have hz := hg s X.gk.z
  show VV g p e (rmm D mc ms) s m args below meth c 6 (QQ g below args s mc ms Pr Pt) kc ks 0 [some (.ref l0), some (.int l1), some (.int l2), some (.int l3), some (.int l4), some (.int l5)] [] h
  refine r_aload_n X dX11_feed_0 rfl ?_
  obtain ⟨v1, ev1, w⟩ := w
  obtain ⟨fv1, cv1, qv1⟩ := gI_s ev1
  refine r_getf X dX11_feed_1 fl_X11_13 cv1 qv1 ?_
  refine r_bipush X dX11_feed_4 (v := 20) (by decide) ?_
  refine r_iadd X dX11_feed_6 ?_
  refine r_sipush X dX11_feed_7 (v := 700) (by decide) ?_
  refine r_icmp_le X dX11_feed_10 (tgt := 15) (by decide) (fun q => ?_) (fun q => ?_)
  · have w := w.1 q
    refine r_aload_n X dX11_feed_15 rfl ?_
    refine r_iload_n X dX11_feed_16 rfl ?_
    obtain ⟨fs1, es1, w⟩ := w
    obtain ⟨d1, P1, E1, m1, n1, ct1, w⟩ := w
    obtain ⟨⟨x1, x2, x3⟩, w⟩ := w
    obtain ⟨x4, w⟩ := w
    refine r_callV X (As := [.int l1]) dX11_feed_17 mk_X11_putBytes ⟨ml_X11_91, im_X11_putBytes, se_X11_putBytes⟩ (oF_s es1) (ci_X11).1 rfl rfl rfl (by simp [Value.category]) ⟨x1, by show 60 * (d1 + 1) + 200 ≤ 60 * D + 200; omega⟩ ⟨x2, x3⟩ ct1 x4 (fun _ z => nomatch z) (fun _ => ⟨x2, x3⟩) (fun v h1 w1 => ?_)
    have w := w v h1 w1
    have hk : kc + m1 ≤ mc ∧ ks + n1 ≤ ms := ⟨x2, x3⟩
    obtain ⟨rfl, w⟩ := w
    refine r_aload_n X dX11_feed_20 rfl ?_
    refine r_iload_n X dX11_feed_21 rfl ?_
    obtain ⟨fs2, es2, w⟩ := w
    obtain ⟨d2, P2, E2, m2, n2, ct2, w⟩ := w
    obtain ⟨⟨x1, x2, x3⟩, w⟩ := w
    obtain ⟨x4, w⟩ := w
    refine r_callV X (As := [.int l2]) dX11_feed_22 mk_X11_putBytes ⟨ml_X11_91, im_X11_putBytes, se_X11_putBytes⟩ (oF_s es2) (ci_X11).1 rfl rfl rfl (by simp [Value.category]) ⟨x1, by show 60 * (d2 + 1) + 200 ≤ 60 * D + 200; omega⟩ ⟨x2, x3⟩ ct2 x4 (fun _ z => nomatch z) (fun _ => ⟨x2, x3⟩) (fun v h2 w1 => ?_)
    have w := w v h2 w1
    have hk : (kc + m1) + m2 ≤ mc ∧ (ks + n1) + n2 ≤ ms := ⟨x2, x3⟩
    obtain ⟨rfl, w⟩ := w
    refine r_aload_n X dX11_feed_25 rfl ?_
    refine r_iload_n X dX11_feed_26 rfl ?_
    obtain ⟨fs3, es3, w⟩ := w
    obtain ⟨d3, P3, E3, m3, n3, ct3, w⟩ := w
    obtain ⟨⟨x1, x2, x3⟩, w⟩ := w
    obtain ⟨x4, w⟩ := w
    refine r_callV X (As := [.int l3]) dX11_feed_27 mk_X11_putBytes ⟨ml_X11_91, im_X11_putBytes, se_X11_putBytes⟩ (oF_s es3) (ci_X11).1 rfl rfl rfl (by simp [Value.category]) ⟨x1, by show 60 * (d3 + 1) + 200 ≤ 60 * D + 200; omega⟩ ⟨x2, x3⟩ ct3 x4 (fun _ z => nomatch z) (fun _ => ⟨x2, x3⟩) (fun v h3 w1 => ?_)
    have w := w v h3 w1
    have hk : ((kc + m1) + m2) + m3 ≤ mc ∧ ((ks + n1) + n2) + n3 ≤ ms := ⟨x2, x3⟩
    obtain ⟨rfl, w⟩ := w
    refine r_aload_n X dX11_feed_30 rfl ?_
    refine r_iload X dX11_feed_31 rfl ?_
    obtain ⟨fs4, es4, w⟩ := w
    obtain ⟨d4, P4, E4, m4, n4, ct4, w⟩ := w
    obtain ⟨⟨x1, x2, x3⟩, w⟩ := w
    obtain ⟨x4, w⟩ := w
    refine r_callV X (As := [.int l4]) dX11_feed_33 mk_X11_putBytes ⟨ml_X11_91, im_X11_putBytes, se_X11_putBytes⟩ (oF_s es4) (ci_X11).1 rfl rfl rfl (by simp [Value.category]) ⟨x1, by show 60 * (d4 + 1) + 200 ≤ 60 * D + 200; omega⟩ ⟨x2, x3⟩ ct4 x4 (fun _ z => nomatch z) (fun _ => ⟨x2, x3⟩) (fun v h4 w1 => ?_)
    have w := w v h4 w1
    have hk : (((kc + m1) + m2) + m3) + m4 ≤ mc ∧ (((ks + n1) + n2) + n3) + n4 ≤ ms := ⟨x2, x3⟩
    obtain ⟨rfl, w⟩ := w
    refine r_aload_n X dX11_feed_36 rfl ?_
    refine r_iload X dX11_feed_37 rfl ?_
    obtain ⟨fs5, es5, w⟩ := w
    obtain ⟨d5, P5, E5, m5, n5, ct5, w⟩ := w
    obtain ⟨⟨x1, x2, x3⟩, w⟩ := w
    obtain ⟨x4, w⟩ := w
    refine r_callV X (As := [.int l5]) dX11_feed_39 mk_X11_putBytes ⟨ml_X11_91, im_X11_putBytes, se_X11_putBytes⟩ (oF_s es5) (ci_X11).1 rfl rfl rfl (by simp [Value.category]) ⟨x1, by show 60 * (d5 + 1) + 200 ≤ 60 * D + 200; omega⟩ ⟨x2, x3⟩ ct5 x4 (fun _ z => nomatch z) (fun _ => ⟨x2, x3⟩) (fun v h5 w1 => ?_)
    have w := w v h5 w1
    have hk : ((((kc + m1) + m2) + m3) + m4) + m5 ≤ mc ∧ ((((ks + n1) + n2) + n3) + n4) + n5 ≤ ms := ⟨x2, x3⟩
    obtain ⟨rfl, w⟩ := w
    refine r_aload_n X dX11_feed_42 rfl ?_
    obtain ⟨v7, ev7, w⟩ := w
    obtain ⟨fv7, cv7, qv7⟩ := gI_s ev7
    refine r_getf X dX11_feed_43 fl_X11_13 cv7 qv7 ?_
    exact r_iret X dX11_feed_46 rfl w hk.1 hk.2
  · have w := w.2 q
    refine r_iconst X dX11_feed_13 (v := -1) (by decide) ?_
    exact r_iret X dX11_feed_14 rfl w hk.1 hk.2

set_option maxRecDepth 10000 in
theorem b_X11_fillUp_0 {g : GG} {K : KX} {D mc ms : Nat} {Pr : Option Value → Hp → Prop} {Pt : String → Hp → Prop} {kc ks : Nat} (hg : GOK g) (hD : 8 ≤ D) (hk : kc ≤ mc ∧ ks ≤ ms) (X : CB g K cX11_fillUp 3 yX11_fillUp none []) (l0 : Nat) (l1 : Nat) (h : Hp)
    (w : (∃ v1, gI h l0 9 0 = some v1 ∧ VB g K 3 D mc ms Pr Pt kc ks 5 [some (.ref l0), some (.ref l1), some (.int v1)] [] h)) : VB g K 3 D mc ms Pr Pt kc ks 0 [some (.ref l0), some (.ref l1), none] [] h := by
  obtain ⟨p, e, s, m, args, below, meth, c⟩ := K
  have X : CX g p s m args meth c cX11_fillUp 3 yX11_fillUp none [] := X
  have hz := hg s X.gk.z
  show VV g p e (rmm D mc ms) s m args below meth c 3 (QQ g below args s mc ms Pr Pt) kc ks 0 [some (.ref l0), some (.ref l1), none] [] h
  refine r_aload_n X dX11_fillUp_0 rfl ?_
  obtain ⟨v1, ev1, w⟩ := w
  obtain ⟨fv1, cv1, qv1⟩ := gI_s ev1
  refine r_getf X dX11_fillUp_1 fl_X11_141 cv1 qv1 ?_
  refine r_istore_n X dX11_fillUp_4 (by decide) rfl ?_
  refine VB_wk (ls' := [some (.ref l0), some (.ref l1), some (.int v1)]) ?_ w
  exact (And.intro rfl (And.intro rfl (And.intro rfl trivial)))

set_option maxRecDepth 10000 in
theorem b_X11_fillUp_5 {g : GG} {K : KX} {D mc ms : Nat} {Pr : Option Value → Hp → Prop} {Pt : String → Hp → Prop} {kc ks : Nat} (hg : GOK g) (hD : 8 ≤ D) (hk : kc ≤ mc ∧ ks ≤ ms) (X : CB g K cX11_fillUp 3 yX11_fillUp none []) (l0 : Nat) (l1 : Nat) (l2 : Int32) (h : Hp)
    (w : (((3 : Int32) ≤ l2 → (∃ v1, gI h l0 9 0 = some v1 ∧ (∃ h2, pF h l0 9 0 (.int ((if v1 < (3 : Int32) then (3 : Int32) else v1))) = some h2 ∧ Pr none h2))) ∧ (¬ (3 : Int32) ≤ l2 → (∃ fs2, oF h l1 2 = some fs2 ∧ (∃ d2 P2 E2 m2 n2, CT g d2 yX2_putStretch (wsC yX2_putStretch cX2_putStretch 5 none) [.ref l1, .int l2, .int ((0 : Int32)), .int ((50 : Int32)), .int ((0 : Int32))] h m2 n2 P2 E2 ∧ (d2 + 1 ≤ D ∧ kc + m2 ≤ mc ∧ ks + n2 ≤ ms) ∧ (∀ E h', E2 E h' → Pt E h') ∧ (∀ v h2, P2 v h2 → v = none ∧ VB g K 3 D mc ms Pr Pt ((kc + m2)) ((ks + n2)) 5 [some (.ref l0), some (.ref l1), some (.int ((l2 + 1)))] [] h2)))))) : VB g K 3 D mc ms Pr Pt kc ks 5 [some (.ref l0), some (.ref l1), some (.int l2)] [] h := by
  obtain ⟨p, e, s, m, args, below, meth, c⟩ := K
  have X : CX g p s m args meth c cX11_fillUp 3 yX11_fillUp none [] := X
  have hz := hg s X.gk.z
  show VV g p e (rmm D mc ms) s m args below meth c 3 (QQ g below args s mc ms Pr Pt) kc ks 5 [some (.ref l0), some (.ref l1), some (.int l2)] [] h
  refine r_iload_n X dX11_fillUp_5 rfl ?_
  refine r_iconst X dX11_fillUp_6 (v := 3) (by decide) ?_
  refine r_icmp_ge X dX11_fillUp_7 (tgt := 25) (by decide) (fun q => ?_) (fun q => ?_)
  · have w := w.1 q
    refine r_aload_n X dX11_fillUp_25 rfl ?_
    refine r_aload_n X dX11_fillUp_26 rfl ?_
    obtain ⟨v1, ev1, w⟩ := w
    obtain ⟨fv1, cv1, qv1⟩ := gI_s ev1
    refine r_getf X dX11_fillUp_27 fl_X11_141 cv1 qv1 ?_
    refine r_iconst X dX11_fillUp_30 (v := 3) (by decide) ?_
    refine r_mmax X dX11_fillUp_31 ma_X11_422 (by refine ⟨?_, ?_, ?_, ?_⟩ <;> simp [rmm, Value.category] <;> omega) ?_
    obtain ⟨h2, eh2, w⟩ := w
    obtain ⟨fh2, ch2, lh2, rh2⟩ := pF_s eh2
    subst rh2
    refine r_putf X dX11_fillUp_34 fw_X11_141 ch2 lh2 rfl rfl ?_
    exact r_vret X dX11_fillUp_37 rfl w hk.1 hk.2
  · have w := w.2 q
    refine r_aload_n X dX11_fillUp_10 rfl ?_
    refine r_iload_n X dX11_fillUp_11 rfl ?_
    refine r_iconst X dX11_fillUp_12 (v := 0) (by decide) ?_
    refine r_bipush X dX11_fillUp_13 (v := 50) (by decide) ?_
    refine r_iconst X dX11_fillUp_15 (v := 0) (by decide) ?_
    obtain ⟨fs2, es2, w⟩ := w
    obtain ⟨d2, P2, E2, m2, n2, ct2, w⟩ := w
    obtain ⟨⟨x1, x2, x3⟩, w⟩ := w
    obtain ⟨x4, w⟩ := w
    refine r_callV X (As := [.int l2, .int ((0 : Int32)), .int ((50 : Int32)), .int ((0 : Int32))]) dX11_fillUp_16 mk_X2_putStretch ⟨ml_X11_418, im_X2_putStretch, se_X2_putStretch⟩ (oF_s es2) (ci_X2).1 rfl rfl rfl (by simp [Value.category]) ⟨x1, by show 60 * (d2 + 1) + 200 ≤ 60 * D + 200; omega⟩ ⟨x2, x3⟩ ct2 x4 (fun _ z => nomatch z) (fun _ => ⟨x2, x3⟩) (fun v h2 w1 => ?_)
    have w := w v h2 w1
    have hk : kc + m2 ≤ mc ∧ ks + n2 ≤ ms := ⟨x2, x3⟩
    obtain ⟨rfl, w⟩ := w
    refine r_iinc X dX11_fillUp_19 rfl (v := (l2 + 1)) rfl (by decide) rfl ?_
    refine r_goto X dX11_fillUp_22 (tgt := 5) (by decide) ?_
    refine VB_wk (ls' := [some (.ref l0), some (.ref l1), some (.int ((l2 + 1)))]) ?_ w
    exact (And.intro rfl (And.intro rfl (And.intro rfl trivial)))

set_option maxRecDepth 10000 in
theorem b_X11_first_0 {g : GG} {K : KX} {D mc ms : Nat} {Pr : Option Value → Hp → Prop} {Pt : String → Hp → Prop} {kc ks : Nat} (hg : GOK g) (hD : 8 ≤ D) (hk : kc ≤ mc ∧ ks ≤ ms) (X : CB g K cX11_first 4 yX11_first (some (.int)) []) (l0 : Nat) (h : Hp)
    (w : (∃ v1, gN h l0 10 11 = some v1 ∧ (∃ v2, gN h l0 10 8 = some v2 ∧ (∃ v3, gN h v2 3 0 = some v3 ∧ (∃ fs3, oF h v1 2 = some fs3 ∧ (∃ d3 P3 E3 m3 n3, CT g d3 yX2_copyFrom (wsC yX2_copyFrom cX2_copyFrom 2 none) [.ref v1, .ref v3] h m3 n3 P3 E3 ∧ (d3 + 1 ≤ D ∧ kc + m3 ≤ mc ∧ ks + n3 ≤ ms) ∧ (∀ E h', E3 E h' → Pt E h') ∧ (∀ v h3, P3 v h3 → v = none ∧ (∃ v5, gN h3 l0 10 11 = some v5 ∧ (∃ v6, gN h3 l0 10 6 = some v6 ∧ (∃ fs6, oF h3 v5 2 = some fs6 ∧ (∃ d6 P6 E6 m6 n6, CT g d6 yX2_openBits (wsC yX2_openBits cX2_openBits 4 (some (.int))) [.ref v5, .ref v6] h3 m6 n6 P6 E6 ∧ (d6 + 1 ≤ D ∧ (kc + m3) + m6 ≤ mc ∧ (ks + n3) + n6 ≤ ms) ∧ (∀ E h', E6 E h' → Pt E h') ∧ (∀ v h6, P6 v h6 → ∃ v8, v = some (.int v8) ∧ VB g K 4 D mc ms Pr Pt (((kc + m3) + m6)) (((ks + n3) + n6)) 30 [some (.ref l0), some (.int ((v8 ^^^ (-1 : Int32)))), some (.int ((1 : Int32))), none] [] h6)))))))))))) : VB g K 4 D mc ms Pr Pt kc ks 0 [some (.ref l0), none, none, none] [] h := by
  obtain ⟨p, e, s, m, args, below, meth, c⟩ := K
  have X : CX g p s m args meth c cX11_first 4 yX11_first (some (.int)) [] := X
  have hz := hg s X.gk.z
  show VV g p e (rmm D mc ms) s m args below meth c 4 (QQ g below args s mc ms Pr Pt) kc ks 0 [some (.ref l0), none, none, none] [] h
  refine r_aload_n X dX11_first_0 rfl ?_
  obtain ⟨v1, ev1, w⟩ := w
  obtain ⟨fv1, cv1, qv1⟩ := gN_s ev1
  refine r_getf X dX11_first_1 fl_X11_56 cv1 qv1 ?_
  refine r_aload_n X dX11_first_4 rfl ?_
  obtain ⟨v2, ev2, w⟩ := w
  obtain ⟨fv2, cv2, qv2⟩ := gN_s ev2
  refine r_getf X dX11_first_5 fl_X11_42 cv2 qv2 ?_
  obtain ⟨v3, ev3, w⟩ := w
  obtain ⟨fv3, cv3, qv3⟩ := gN_s ev3
  refine r_getf X dX11_first_8 fl_X11_84 cv3 qv3 ?_
  obtain ⟨fs3, es3, w⟩ := w
  obtain ⟨d3, P3, E3, m3, n3, ct3, w⟩ := w
  obtain ⟨⟨x1, x2, x3⟩, w⟩ := w
  obtain ⟨x4, w⟩ := w
  refine r_callV X (As := [.ref v3]) dX11_first_11 mk_X2_copyFrom ⟨ml_X11_123, im_X2_copyFrom, se_X2_copyFrom⟩ (oF_s es3) (ci_X2).1 rfl rfl rfl (by simp [Value.category]) ⟨x1, by show 60 * (d3 + 1) + 200 ≤ 60 * D + 200; omega⟩ ⟨x2, x3⟩ ct3 x4 (fun _ z => nomatch z) (fun _ => ⟨x2, x3⟩) (fun v h3 w1 => ?_)
  have w := w v h3 w1
  have hk : kc + m3 ≤ mc ∧ ks + n3 ≤ ms := ⟨x2, x3⟩
  obtain ⟨rfl, w⟩ := w
  refine r_aload_n X dX11_first_14 rfl ?_
  obtain ⟨v5, ev5, w⟩ := w
  obtain ⟨fv5, cv5, qv5⟩ := gN_s ev5
  refine r_getf X dX11_first_15 fl_X11_56 cv5 qv5 ?_
  refine r_aload_n X dX11_first_18 rfl ?_
  obtain ⟨v6, ev6, w⟩ := w
  obtain ⟨fv6, cv6, qv6⟩ := gN_s ev6
  refine r_getf X dX11_first_19 fl_X11_32 cv6 qv6 ?_
  obtain ⟨fs6, es6, w⟩ := w
  obtain ⟨d6, P6, E6, m6, n6, ct6, w⟩ := w
  obtain ⟨⟨x1, x2, x3⟩, w⟩ := w
  obtain ⟨x4, w⟩ := w
  refine r_callV X (As := [.ref v6]) dX11_first_22 mk_X2_openBits ⟨ml_X11_159, im_X2_openBits, se_X2_openBits⟩ (oF_s es6) (ci_X2).1 rfl rfl rfl (by simp [Value.category]) ⟨x1, by show 60 * (d6 + 1) + 200 ≤ 60 * D + 200; omega⟩ ⟨x2, x3⟩ ct6 x4 (fun _ z => nomatch z) (fun _ => ⟨x2, x3⟩) (fun v h6 w1 => ?_)
  have w := w v h6 w1
  have hk : (kc + m3) + m6 ≤ mc ∧ (ks + n3) + n6 ≤ ms := ⟨x2, x3⟩
  obtain ⟨v8, rfl, w⟩ := w
  refine r_iconst X dX11_first_25 (v := -1) (by decide) ?_
  refine r_ixor X dX11_first_26 ?_
  refine r_istore_n X dX11_first_27 (by decide) rfl ?_
  refine r_iconst X dX11_first_28 (v := 1) (by decide) ?_
  refine r_istore_n X dX11_first_29 (by decide) rfl ?_
  refine VB_wk (ls' := [some (.ref l0), some (.int ((v8 ^^^ (-1 : Int32)))), some (.int ((1 : Int32))), none]) ?_ w
  exact (And.intro rfl (And.intro rfl (And.intro rfl trivial)))

set_option maxRecDepth 10000 in
theorem b_X11_first_30 {g : GG} {K : KX} {D mc ms : Nat} {Pr : Option Value → Hp → Prop} {Pt : String → Hp → Prop} {kc ks : Nat} (hg : GOK g) (hD : 8 ≤ D) (hk : kc ≤ mc ∧ ks ≤ ms) (X : CB g K cX11_first 4 yX11_first (some (.int)) []) (l0 : Nat) (l1 : Int32) (l2 : Int32) (h : Hp)
    (w : (((60 : Int32) < l2 → Pr (some (.int ((-1 : Int32)))) h) ∧ (¬ (60 : Int32) < l2 → (∃ v1, gN h l0 10 11 = some v1 ∧ (∃ v2, gN h l0 10 6 = some v2 ∧ (∃ fs2, oF h v1 2 = some fs2 ∧ (∃ d2 P2 E2 m2 n2, CT g d2 yX2_passDay (wsC yX2_passDay cX2_passDay 3 none) [.ref v1, .ref v2] h m2 n2 P2 E2 ∧ (d2 + 1 ≤ D ∧ kc + m2 ≤ mc ∧ ks + n2 ≤ ms) ∧ (∀ E h', E2 E h' → Pt E h') ∧ (∀ v h2, P2 v h2 → v = none ∧ (∃ v4, gN h2 l0 10 11 = some v4 ∧ (∃ v5, gN h2 l0 10 6 = some v5 ∧ (∃ fs5, oF h2 v4 2 = some fs5 ∧ (∃ d5 P5 E5 m5 n5, CT g d5 yX2_openBits (wsC yX2_openBits cX2_openBits 4 (some (.int))) [.ref v4, .ref v5] h2 m5 n5 P5 E5 ∧ (d5 + 1 ≤ D ∧ (kc + m2) + m5 ≤ mc ∧ (ks + n2) + n5 ≤ ms) ∧ (∀ E h', E5 E h' → Pt E h') ∧ (∀ v h5, P5 v h5 → ∃ v7, v = some (.int v7) ∧ (((v7 &&& l1) = 0 → VB g K 4 D mc ms Pr Pt (((kc + m2) + m5)) (((ks + n2) + n5)) 30 [some (.ref l0), some (.int l1), some (.int ((l2 + 1))), none] [] h5) ∧ (¬ (v7 &&& l1) = 0 → (∃ d7 P7 E7 m7 n7, CT g d7 yX11_leastBit (wsC yX11_leastBit cX11_leastBit 2 (some (.int))) [.int ((v7 &&& l1))] h5 m7 n7 P7 E7 ∧ (d7 + 1 ≤ D ∧ ((kc + m2) + m5) + m7 ≤ mc ∧ ((ks + n2) + n5) + n7 ≤ ms) ∧ (∀ E h', E7 E h' → Pt E h') ∧ (∀ v h7, P7 v h7 → ∃ v9, v = some (.int v9) ∧ Pr (some (.int v9)) h7))))))))))))))))) : VB g K 4 D mc ms Pr Pt kc ks 30 [some (.ref l0), some (.int l1), some (.int l2), none] [] h := by
  obtain ⟨p, e, s, m, args, below, meth, c⟩ := K
  have X : CX g p s m args meth c cX11_first 4 yX11_first (some (.int)) [] := X
  have hz := hg s X.gk.z
  show VV g p e (rmm D mc ms) s m args below meth c 4 (QQ g below args s mc ms Pr Pt) kc ks 30 [some (.ref l0), some (.int l1), some (.int l2), none] [] h
  refine r_iload_n X dX11_first_30 rfl ?_
  refine r_bipush X dX11_first_31 (v := 60) (by decide) ?_
  refine r_icmp_gt X dX11_first_33 (tgt := 76) (by decide) (fun q => ?_) (fun q => ?_)
  · have w := w.1 q
    refine r_iconst X dX11_first_76 (v := -1) (by decide) ?_
    exact r_iret X dX11_first_77 rfl w hk.1 hk.2
  · have w := w.2 q
    refine r_aload_n X dX11_first_36 rfl ?_
    obtain ⟨v1, ev1, w⟩ := w
    obtain ⟨fv1, cv1, qv1⟩ := gN_s ev1
    refine r_getf X dX11_first_37 fl_X11_56 cv1 qv1 ?_
    refine r_aload_n X dX11_first_40 rfl ?_
    obtain ⟨v2, ev2, w⟩ := w
    obtain ⟨fv2, cv2, qv2⟩ := gN_s ev2
    refine r_getf X dX11_first_41 fl_X11_32 cv2 qv2 ?_
    obtain ⟨fs2, es2, w⟩ := w
    obtain ⟨d2, P2, E2, m2, n2, ct2, w⟩ := w
    obtain ⟨⟨x1, x2, x3⟩, w⟩ := w
    obtain ⟨x4, w⟩ := w
    refine r_callV X (As := [.ref v2]) dX11_first_44 mk_X2_passDay ⟨ml_X11_268, im_X2_passDay, se_X2_passDay⟩ (oF_s es2) (ci_X2).1 rfl rfl rfl (by simp [Value.category]) ⟨x1, by show 60 * (d2 + 1) + 200 ≤ 60 * D + 200; omega⟩ ⟨x2, x3⟩ ct2 x4 (fun _ z => nomatch z) (fun _ => ⟨x2, x3⟩) (fun v h2 w1 => ?_)
    have w := w v h2 w1
    have hk : kc + m2 ≤ mc ∧ ks + n2 ≤ ms := ⟨x2, x3⟩
    obtain ⟨rfl, w⟩ := w
    refine r_aload_n X dX11_first_47 rfl ?_
    obtain ⟨v4, ev4, w⟩ := w
    obtain ⟨fv4, cv4, qv4⟩ := gN_s ev4
    refine r_getf X dX11_first_48 fl_X11_56 cv4 qv4 ?_
    refine r_aload_n X dX11_first_51 rfl ?_
    obtain ⟨v5, ev5, w⟩ := w
    obtain ⟨fv5, cv5, qv5⟩ := gN_s ev5
    refine r_getf X dX11_first_52 fl_X11_32 cv5 qv5 ?_
    obtain ⟨fs5, es5, w⟩ := w
    obtain ⟨d5, P5, E5, m5, n5, ct5, w⟩ := w
    obtain ⟨⟨x1, x2, x3⟩, w⟩ := w
    obtain ⟨x4, w⟩ := w
    refine r_callV X (As := [.ref v5]) dX11_first_55 mk_X2_openBits ⟨ml_X11_159, im_X2_openBits, se_X2_openBits⟩ (oF_s es5) (ci_X2).1 rfl rfl rfl (by simp [Value.category]) ⟨x1, by show 60 * (d5 + 1) + 200 ≤ 60 * D + 200; omega⟩ ⟨x2, x3⟩ ct5 x4 (fun _ z => nomatch z) (fun _ => ⟨x2, x3⟩) (fun v h5 w1 => ?_)
    have w := w v h5 w1
    have hk : (kc + m2) + m5 ≤ mc ∧ (ks + n2) + n5 ≤ ms := ⟨x2, x3⟩
    obtain ⟨v7, rfl, w⟩ := w
    refine r_iload_n X dX11_first_58 rfl ?_
    refine r_iand X dX11_first_59 ?_
    refine r_istore_n X dX11_first_60 (by decide) rfl ?_
    refine r_iload_n X dX11_first_61 rfl ?_
    refine r_if_eq X dX11_first_62 (tgt := 70) (by decide) (fun q => ?_) (fun q => ?_)
    · have w := w.1 q
      refine r_iinc X dX11_first_70 rfl (v := (l2 + 1)) rfl (by decide) rfl ?_
      refine r_goto X dX11_first_73 (tgt := 30) (by decide) ?_
      refine VB_wk (ls' := [some (.ref l0), some (.int l1), some (.int ((l2 + 1))), none]) ?_ w
      exact (And.intro rfl (And.intro rfl (And.intro rfl trivial)))
    · have w := w.2 q
      refine r_iload_n X dX11_first_65 rfl ?_
      obtain ⟨d7, P7, E7, m7, n7, ct7, w⟩ := w
      obtain ⟨⟨x1, x2, x3⟩, w⟩ := w
      obtain ⟨x4, w⟩ := w
      refine r_callS X (As := [.int ((v7 &&& l1))]) dX11_first_66 mk_X11_leastBit ⟨ml_X11_272, sm_X11_leastBit⟩ rfl rfl (by simp [Value.category]) ⟨x1, by show 60 * (d7 + 1) + 200 ≤ 60 * D + 200; omega⟩ ⟨x2, x3⟩ ct7 x4 (fun _ z => nomatch z) (fun _ => ⟨x2, x3⟩) (fun v h7 w1 => ?_)
      have w := w v h7 w1
      have hk : ((kc + m2) + m5) + m7 ≤ mc ∧ ((ks + n2) + n5) + n7 ≤ ms := ⟨x2, x3⟩
      obtain ⟨v9, rfl, w⟩ := w
      exact r_iret X dX11_first_69 rfl w hk.1 hk.2

set_option maxRecDepth 10000 in
theorem b_X11_forget_0 {g : GG} {K : KX} {D mc ms : Nat} {Pr : Option Value → Hp → Prop} {Pt : String → Hp → Prop} {kc ks : Nat} (hg : GOK g) (hD : 8 ≤ D) (hk : kc ≤ mc ∧ ks ≤ ms) (X : CB g K cX11_forget 1 yX11_forget none []) (l0 : Nat) (h : Hp)
    (w : (∃ v1, gN h l0 10 8 = some v1 ∧ (∃ v2, gN h v1 3 2 = some v2 ∧ (∃ fs2, oF h v2 7 = some fs2 ∧ (∃ d2 P2 E2 m2 n2, CT g d2 yX7_clear (wsC yX7_clear cX7_clear 1 none) [.ref v2] h m2 n2 P2 E2 ∧ (d2 + 1 ≤ D ∧ kc + m2 ≤ mc ∧ ks + n2 ≤ ms) ∧ (∀ E h', E2 E h' → Pt E h') ∧ (∀ v h2, P2 v h2 → v = none ∧ Pr none h2)))))) : VB g K 1 D mc ms Pr Pt kc ks 0 [some (.ref l0)] [] h := by
  obtain ⟨p, e, s, m, args, below, meth, c⟩ := K
  have X : CX g p s m args meth c cX11_forget 1 yX11_forget none [] := X
  have hz := hg s X.gk.z
  show VV g p e (rmm D mc ms) s m args below meth c 1 (QQ g below args s mc ms Pr Pt) kc ks 0 [some (.ref l0)] [] h
  refine r_aload_n X dX11_forget_0 rfl ?_
  obtain ⟨v1, ev1, w⟩ := w
  obtain ⟨fv1, cv1, qv1⟩ := gN_s ev1
  refine r_getf X dX11_forget_1 fl_X11_42 cv1 qv1 ?_
  obtain ⟨v2, ev2, w⟩ := w
  obtain ⟨fv2, cv2, qv2⟩ := gN_s ev2
  refine r_getf X dX11_forget_4 fl_X11_134 cv2 qv2 ?_
  obtain ⟨fs2, es2, w⟩ := w
  obtain ⟨d2, P2, E2, m2, n2, ct2, w⟩ := w
  obtain ⟨⟨x1, x2, x3⟩, w⟩ := w
  obtain ⟨x4, w⟩ := w
  refine r_callV X (As := []) dX11_forget_7 mk_X7_clear ⟨ml_X11_138, im_X7_clear, se_X7_clear⟩ (oF_s es2) (ci_X7).1 rfl rfl rfl (by simp [Value.category]) ⟨x1, by show 60 * (d2 + 1) + 200 ≤ 60 * D + 200; omega⟩ ⟨x2, x3⟩ ct2 x4 (fun _ z => nomatch z) (fun _ => ⟨x2, x3⟩) (fun v h2 w1 => ?_)
  have w := w v h2 w1
  have hk : kc + m2 ≤ mc ∧ ks + n2 ≤ ms := ⟨x2, x3⟩
  obtain ⟨rfl, w⟩ := w
  exact r_vret X dX11_forget_10 rfl w hk.1 hk.2

set_option maxRecDepth 10000 in
theorem b_X11_gales_0 {g : GG} {K : KX} {D mc ms : Nat} {Pr : Option Value → Hp → Prop} {Pt : String → Hp → Prop} {kc ks : Nat} (hg : GOK g) (hD : 8 ≤ D) (hk : kc ≤ mc ∧ ks ≤ ms) (X : CB g K cX11_gales 7 yX11_gales (some (.int)) []) (l0 : Nat) (l1 : Int32) (l2 : Int32) (h : Hp)
    (w : ((l1 < (1 : Int32) → VB g K 7 D mc ms Pr Pt kc ks 20 [none, none, none, none, none, none, none] [] h) ∧ (¬ l1 < (1 : Int32) → (((5 : Int32) < l1 → VB g K 7 D mc ms Pr Pt kc ks 20 [none, none, none, none, none, none, none] [] h) ∧ (¬ (5 : Int32) < l1 → ((l2 < 0 → VB g K 7 D mc ms Pr Pt kc ks 20 [none, none, none, none, none, none, none] [] h) ∧ (¬ l2 < 0 → ((l2 ≤ (10 : Int32) → (∃ v1, gN h l0 10 8 = some v1 ∧ (∃ v2, gN h v1 3 0 = some v2 ∧ (∃ v3, gN h l0 10 6 = some v3 ∧ (∃ fs3, oF h v2 2 = some fs3 ∧ (∃ d3 P3 E3 m3 n3, CT g d3 yX2_openBits (wsC yX2_openBits cX2_openBits 4 (some (.int))) [.ref v2, .ref v3] h m3 n3 P3 E3 ∧ (d3 + 1 ≤ D ∧ kc + m3 ≤ mc ∧ ks + n3 ≤ ms) ∧ (∀ E h', E3 E h' → Pt E h') ∧ (∀ v h3, P3 v h3 → ∃ v5, v = some (.int v5) ∧ VB g K 7 D mc ms Pr Pt ((kc + m3)) ((ks + n3)) 54 [some (.ref l0), some (.int l1), some (.int l2), some (.int ((v5 ^^^ (-1 : Int32)))), some (.int ((0 : Int32))), some (.int ((0 : Int32))), none] [] h3))))))) ∧ (¬ l2 ≤ (10 : Int32) → VB g K 7 D mc ms Pr Pt kc ks 20 [none, none, none, none, none, none, none] [] h))))))))) : VB g K 7 D mc ms Pr Pt kc ks 0 [some (.ref l0), some (.int l1), some (.int l2), none, none, none, none] [] h := by
  obtain ⟨p, e, s, m, args, below, meth, c⟩ := K
  have X : CX g p s m args meth c cX11_gales 7 yX11_gales (some (.int)) [] := X
  have hz := hg s X.gk.z
  show VV g p e (rmm D mc ms) s m args below meth c 7 (QQ g below args s mc ms Pr Pt) kc ks 0 [some (.ref l0), some (.int l1), some (.int l2), none, none, none, none] [] h
  refine r_iload_n X dX11_gales_0 rfl ?_
  refine r_iconst X dX11_gales_1 (v := 1) (by decide) ?_
  refine r_icmp_lt X dX11_gales_2 (tgt := 20) (by decide) (fun q => ?_) (fun q => ?_)
  · have w := w.1 q
    refine VB_wk (ls' := [none, none, none, none, none, none, none]) ?_ w
    exact trivial
  · have w := w.2 q
    refine r_iload_n X dX11_gales_5 rfl ?_
    refine r_iconst X dX11_gales_6 (v := 5) (by decide) ?_
    refine r_icmp_gt X dX11_gales_7 (tgt := 20) (by decide) (fun q => ?_) (fun q => ?_)
    · have w := w.1 q
      refine VB_wk (ls' := [none, none, none, none, none, none, none]) ?_ w
      exact trivial
    · have w := w.2 q
      refine r_iload_n X dX11_gales_10 rfl ?_
      refine r_if_lt X dX11_gales_11 (tgt := 20) (by decide) (fun q => ?_) (fun q => ?_)
      · have w := w.1 q
        refine VB_wk (ls' := [none, none, none, none, none, none, none]) ?_ w
        exact trivial
      · have w := w.2 q
        refine r_iload_n X dX11_gales_14 rfl ?_
        refine r_bipush X dX11_gales_15 (v := 10) (by decide) ?_
        refine r_icmp_le X dX11_gales_17 (tgt := 31) (by decide) (fun q => ?_) (fun q => ?_)
        · have w := w.1 q
          refine r_aload_n X dX11_gales_31 rfl ?_
          obtain ⟨v1, ev1, w⟩ := w
          obtain ⟨fv1, cv1, qv1⟩ := gN_s ev1
          refine r_getf X dX11_gales_32 fl_X11_42 cv1 qv1 ?_
          obtain ⟨v2, ev2, w⟩ := w
          obtain ⟨fv2, cv2, qv2⟩ := gN_s ev2
          refine r_getf X dX11_gales_35 fl_X11_84 cv2 qv2 ?_
          refine r_aload_n X dX11_gales_38 rfl ?_
          obtain ⟨v3, ev3, w⟩ := w
          obtain ⟨fv3, cv3, qv3⟩ := gN_s ev3
          refine r_getf X dX11_gales_39 fl_X11_32 cv3 qv3 ?_
          obtain ⟨fs3, es3, w⟩ := w
          obtain ⟨d3, P3, E3, m3, n3, ct3, w⟩ := w
          obtain ⟨⟨x1, x2, x3⟩, w⟩ := w
          obtain ⟨x4, w⟩ := w
          refine r_callV X (As := [.ref v3]) dX11_gales_42 mk_X2_openBits ⟨ml_X11_159, im_X2_openBits, se_X2_openBits⟩ (oF_s es3) (ci_X2).1 rfl rfl rfl (by simp [Value.category]) ⟨x1, by show 60 * (d3 + 1) + 200 ≤ 60 * D + 200; omega⟩ ⟨x2, x3⟩ ct3 x4 (fun _ z => nomatch z) (fun _ => ⟨x2, x3⟩) (fun v h3 w1 => ?_)
          have w := w v h3 w1
          have hk : kc + m3 ≤ mc ∧ ks + n3 ≤ ms := ⟨x2, x3⟩
          obtain ⟨v5, rfl, w⟩ := w
          refine r_iconst X dX11_gales_45 (v := -1) (by decide) ?_
          refine r_ixor X dX11_gales_46 ?_
          refine r_istore_n X dX11_gales_47 (by decide) rfl ?_
          refine r_iconst X dX11_gales_48 (v := 0) (by decide) ?_
          refine r_istore X dX11_gales_49 (by decide) rfl ?_
          refine r_iconst X dX11_gales_51 (v := 0) (by decide) ?_
          refine r_istore X dX11_gales_52 (by decide) rfl ?_
          refine VB_wk (ls' := [some (.ref l0), some (.int l1), some (.int l2), some (.int ((v5 ^^^ (-1 : Int32)))), some (.int ((0 : Int32))), some (.int ((0 : Int32))), none]) ?_ w
          exact (And.intro rfl (And.intro rfl (And.intro rfl (And.intro rfl (And.intro rfl (And.intro rfl trivial))))))
        · have w := w.2 q
          refine VB_wk (ls' := [none, none, none, none, none, none, none]) ?_ w
          exact trivial

set_option maxRecDepth 10000 in
theorem b_X11_gales_20 {g : GG} {K : KX} {D mc ms : Nat} {Pr : Option Value → Hp → Prop} {Pt : String → Hp → Prop} {kc ks : Nat} (hg : GOK g) (hD : 8 ≤ D) (hk : kc ≤ mc ∧ ks ≤ ms) (X : CB g K cX11_gales 7 yX11_gales (some (.int)) [])  (h : Hp)
    (w : ((kc + 1 ≤ mc ∧ ks + 6 ≤ ms) ∧ Pt "java/lang/IllegalArgumentException" (h ++ [dead]))) : VB g K 7 D mc ms Pr Pt kc ks 20 [none, none, none, none, none, none, none] [] h := by
  obtain ⟨p, e, s, m, args, below, meth, c⟩ := K
  have X : CX g p s m args meth c cX11_gales 7 yX11_gales (some (.int)) [] := X
  have hz := hg s X.gk.z
  show VV g p e (rmm D mc ms) s m args below meth c 7 (QQ g below args s mc ms Pr Pt) kc ks 20 [none, none, none, none, none, none, none] [] h
  obtain ⟨q1, w⟩ := w
  exact r_throwSW X hz.1 (hz.2.1 (RX11, 95, 368, 99, "java/lang/IllegalArgumentException", "no such days or tenths") (by decide)) dX11_gales_20 dX11_gales_23 dX11_gales_24 dX11_gales_27 dX11_gales_30 (fun _ z => nomatch z) (by refine ⟨?_, ?_, q1.1, q1.2⟩ <;> simp [rmm, Value.category] <;> omega) q1.1 q1.2 w

set_option maxRecDepth 10000 in
theorem b_X11_gales_54 {g : GG} {K : KX} {D mc ms : Nat} {Pr : Option Value → Hp → Prop} {Pt : String → Hp → Prop} {kc ks : Nat} (hg : GOK g) (hD : 8 ≤ D) (hk : kc ≤ mc ∧ ks ≤ ms) (X : CB g K cX11_gales 7 yX11_gales (some (.int)) []) (l0 : Nat) (l1 : Int32) (l2 : Int32) (l3 : Int32) (l4 : Int32) (l5 : Int32) (h : Hp)
    (w : ((((1 : Int32) <<< (l1 &&& 31)) ≤ l5 → Pr (some (.int l4)) h) ∧ (¬ ((1 : Int32) <<< (l1 &&& 31)) ≤ l5 → (∃ d0 P0 E0 m0 n0, CT g d0 yX11_weightOf (wsC yX11_weightOf cX11_weightOf 5 (some (.int))) [.int l5, .int l1, .int l2] h m0 n0 P0 E0 ∧ (d0 + 1 ≤ D ∧ kc + m0 ≤ mc ∧ ks + n0 ≤ ms) ∧ (∀ E h', E0 E h' → Pt E h') ∧ (∀ v h0, P0 v h0 → ∃ v2, v = some (.int v2) ∧ ((v2 ≤ 0 → VB g K 7 D mc ms Pr Pt ((kc + m0)) ((ks + n0)) 106 [some (.ref l0), some (.int l1), some (.int l2), some (.int l3), some (.int l4), some (.int l5), none] [] h0) ∧ (¬ v2 ≤ 0 → (∃ fs2, oF h0 l0 10 = some fs2 ∧ (∃ d2 P2 E2 m2 n2, CT g d2 yX11_blow (wsC yX11_blow cX11_blow 4 none) [.ref l0, .int l5, .int l1] h0 m2 n2 P2 E2 ∧ (d2 + 1 ≤ D ∧ (kc + m0) + m2 ≤ mc ∧ (ks + n0) + n2 ≤ ms) ∧ (∀ E h', E2 E h' → Pt E h') ∧ (∀ v h2, P2 v h2 → v = none ∧ (∃ v4, gN h2 l0 10 11 = some v4 ∧ (∃ v5, gN h2 l0 10 6 = some v5 ∧ (∃ fs5, oF h2 v4 2 = some fs5 ∧ (∃ d5 P5 E5 m5 n5, CT g d5 yX2_openBits (wsC yX2_openBits cX2_openBits 4 (some (.int))) [.ref v4, .ref v5] h2 m5 n5 P5 E5 ∧ (d5 + 1 ≤ D ∧ ((kc + m0) + m2) + m5 ≤ mc ∧ ((ks + n0) + n2) + n5 ≤ ms) ∧ (∀ E h', E5 E h' → Pt E h') ∧ (∀ v h5, P5 v h5 → ∃ v7, v = some (.int v7) ∧ (((v7 &&& l3) = 0 → VB g K 7 D mc ms Pr Pt ((((kc + m0) + m2) + m5)) ((((ks + n0) + n2) + n5)) 106 [some (.ref l0), some (.int l1), some (.int l2), some (.int l3), some (.int l4), some (.int l5), none] [] h5) ∧ (¬ (v7 &&& l3) = 0 → VB g K 7 D mc ms Pr Pt ((((kc + m0) + m2) + m5)) ((((ks + n0) + n2) + n5)) 106 [some (.ref l0), some (.int l1), some (.int l2), some (.int l3), some (.int ((l4 + v2))), some (.int l5), none] [] h5))))))))))))))))) : VB g K 7 D mc ms Pr Pt kc ks 54 [some (.ref l0), some (.int l1), some (.int l2), some (.int l3), some (.int l4), some (.int l5), none] [] h := by
  obtain ⟨p, e, s, m, args, below, meth, c⟩ := K
  have X : CX g p s m args meth c cX11_gales 7 yX11_gales (some (.int)) [] := X
  have hz := hg s X.gk.z
  show VV g p e (rmm D mc ms) s m args below meth c 7 (QQ g below args s mc ms Pr Pt) kc ks 54 [some (.ref l0), some (.int l1), some (.int l2), some (.int l3), some (.int l4), some (.int l5), none] [] h
  refine r_iload X dX11_gales_54 rfl ?_
  refine r_iconst X dX11_gales_56 (v := 1) (by decide) ?_
  refine r_iload_n X dX11_gales_57 rfl ?_
  refine r_ishl X dX11_gales_58 ?_
  refine r_icmp_ge X dX11_gales_59 (tgt := 112) (by decide) (fun q => ?_) (fun q => ?_)
  · have w := w.1 q
    refine r_iload X dX11_gales_112 rfl ?_
    exact r_iret X dX11_gales_114 rfl w hk.1 hk.2
  · have w := w.2 q
    refine r_iload X dX11_gales_62 rfl ?_
    refine r_iload_n X dX11_gales_64 rfl ?_
    refine r_iload_n X dX11_gales_65 rfl ?_
    obtain ⟨d0, P0, E0, m0, n0, ct0, w⟩ := w
    obtain ⟨⟨x1, x2, x3⟩, w⟩ := w
    obtain ⟨x4, w⟩ := w
    refine r_callS X (As := [.int l5, .int l1, .int l2]) dX11_gales_66 mk_X11_weightOf ⟨ml_X11_370, sm_X11_weightOf⟩ rfl rfl (by simp [Value.category]) ⟨x1, by show 60 * (d0 + 1) + 200 ≤ 60 * D + 200; omega⟩ ⟨x2, x3⟩ ct0 x4 (fun _ z => nomatch z) (fun _ => ⟨x2, x3⟩) (fun v h0 w1 => ?_)
    have w := w v h0 w1
    have hk : kc + m0 ≤ mc ∧ ks + n0 ≤ ms := ⟨x2, x3⟩
    obtain ⟨v2, rfl, w⟩ := w
    refine r_istore X dX11_gales_69 (by decide) rfl ?_
    refine r_iload X dX11_gales_71 rfl ?_
    refine r_if_le X dX11_gales_73 (tgt := 106) (by decide) (fun q => ?_) (fun q => ?_)
    · have w := w.1 q
      refine VB_wk (ls' := [some (.ref l0), some (.int l1), some (.int l2), some (.int l3), some (.int l4), some (.int l5), none]) ?_ w
      exact (And.intro rfl (And.intro rfl (And.intro rfl (And.intro rfl (And.intro rfl (And.intro rfl trivial))))))
    · have w := w.2 q
      refine r_aload_n X dX11_gales_76 rfl ?_
      refine r_iload X dX11_gales_77 rfl ?_
      refine r_iload_n X dX11_gales_79 rfl ?_
      obtain ⟨fs2, es2, w⟩ := w
      obtain ⟨d2, P2, E2, m2, n2, ct2, w⟩ := w
      obtain ⟨⟨x1, x2, x3⟩, w⟩ := w
      obtain ⟨x4, w⟩ := w
      refine r_callV X (As := [.int l5, .int l1]) dX11_gales_80 mk_X11_blow ⟨ml_X11_374, im_X11_blow, se_X11_blow⟩ (oF_s es2) (ci_X11).1 rfl rfl rfl (by simp [Value.category]) ⟨x1, by show 60 * (d2 + 1) + 200 ≤ 60 * D + 200; omega⟩ ⟨x2, x3⟩ ct2 x4 (fun _ z => nomatch z) (fun _ => ⟨x2, x3⟩) (fun v h2 w1 => ?_)
      have w := w v h2 w1
      have hk : (kc + m0) + m2 ≤ mc ∧ (ks + n0) + n2 ≤ ms := ⟨x2, x3⟩
      obtain ⟨rfl, w⟩ := w
      refine r_aload_n X dX11_gales_83 rfl ?_
      obtain ⟨v4, ev4, w⟩ := w
      obtain ⟨fv4, cv4, qv4⟩ := gN_s ev4
      refine r_getf X dX11_gales_84 fl_X11_56 cv4 qv4 ?_
      refine r_aload_n X dX11_gales_87 rfl ?_
      obtain ⟨v5, ev5, w⟩ := w
      obtain ⟨fv5, cv5, qv5⟩ := gN_s ev5
      refine r_getf X dX11_gales_88 fl_X11_32 cv5 qv5 ?_
      obtain ⟨fs5, es5, w⟩ := w
      obtain ⟨d5, P5, E5, m5, n5, ct5, w⟩ := w
      obtain ⟨⟨x1, x2, x3⟩, w⟩ := w
      obtain ⟨x4, w⟩ := w
      refine r_callV X (As := [.ref v5]) dX11_gales_91 mk_X2_openBits ⟨ml_X11_159, im_X2_openBits, se_X2_openBits⟩ (oF_s es5) (ci_X2).1 rfl rfl rfl (by simp [Value.category]) ⟨x1, by show 60 * (d5 + 1) + 200 ≤ 60 * D + 200; omega⟩ ⟨x2, x3⟩ ct5 x4 (fun _ z => nomatch z) (fun _ => ⟨x2, x3⟩) (fun v h5 w1 => ?_)
      have w := w v h5 w1
      have hk : ((kc + m0) + m2) + m5 ≤ mc ∧ ((ks + n0) + n2) + n5 ≤ ms := ⟨x2, x3⟩
      obtain ⟨v7, rfl, w⟩ := w
      refine r_iload_n X dX11_gales_94 rfl ?_
      refine r_iand X dX11_gales_95 ?_
      refine r_if_eq X dX11_gales_96 (tgt := 106) (by decide) (fun q => ?_) (fun q => ?_)
      · have w := w.1 q
        refine VB_wk (ls' := [some (.ref l0), some (.int l1), some (.int l2), some (.int l3), some (.int l4), some (.int l5), none]) ?_ w
        exact (And.intro rfl (And.intro rfl (And.intro rfl (And.intro rfl (And.intro rfl (And.intro rfl trivial))))))
      · have w := w.2 q
        refine r_iload X dX11_gales_99 rfl ?_
        refine r_iload X dX11_gales_101 rfl ?_
        refine r_iadd X dX11_gales_103 ?_
        refine r_istore X dX11_gales_104 (by decide) rfl ?_
        refine VB_wk (ls' := [some (.ref l0), some (.int l1), some (.int l2), some (.int l3), some (.int ((l4 + v2))), some (.int l5), none]) ?_ w
        exact (And.intro rfl (And.intro rfl (And.intro rfl (And.intro rfl (And.intro rfl (And.intro rfl trivial))))))

set_option maxRecDepth 10000 in
theorem b_X11_gales_106 {g : GG} {K : KX} {D mc ms : Nat} {Pr : Option Value → Hp → Prop} {Pt : String → Hp → Prop} {kc ks : Nat} (hg : GOK g) (hD : 8 ≤ D) (hk : kc ≤ mc ∧ ks ≤ ms) (X : CB g K cX11_gales 7 yX11_gales (some (.int)) []) (l0 : Nat) (l1 : Int32) (l2 : Int32) (l3 : Int32) (l4 : Int32) (l5 : Int32) (h : Hp)
    (w : VB g K 7 D mc ms Pr Pt kc ks 54 [some (.ref l0), some (.int l1), some (.int l2), some (.int l3), some (.int l4), some (.int ((l5 + 1))), none] [] h) : VB g K 7 D mc ms Pr Pt kc ks 106 [some (.ref l0), some (.int l1), some (.int l2), some (.int l3), some (.int l4), some (.int l5), none] [] h := by
  obtain ⟨p, e, s, m, args, below, meth, c⟩ := K
  have X : CX g p s m args meth c cX11_gales 7 yX11_gales (some (.int)) [] := X
  have hz := hg s X.gk.z
  show VV g p e (rmm D mc ms) s m args below meth c 7 (QQ g below args s mc ms Pr Pt) kc ks 106 [some (.ref l0), some (.int l1), some (.int l2), some (.int l3), some (.int l4), some (.int l5), none] [] h
  refine r_iinc X dX11_gales_106 rfl (v := (l5 + 1)) rfl (by decide) rfl ?_
  refine r_goto X dX11_gales_109 (tgt := 54) (by decide) ?_
  refine VB_wk (ls' := [some (.ref l0), some (.int l1), some (.int l2), some (.int l3), some (.int l4), some (.int ((l5 + 1))), none]) ?_ w
  exact (And.intro rfl (And.intro rfl (And.intro rfl (And.intro rfl (And.intro rfl (And.intro rfl trivial))))))

set_option maxRecDepth 10000 in
theorem b_X11_game_0 {g : GG} {K : KX} {D mc ms : Nat} {Pr : Option Value → Hp → Prop} {Pt : String → Hp → Prop} {kc ks : Nat} (hg : GOK g) (hD : 8 ≤ D) (hk : kc ≤ mc ∧ ks ≤ ms) (X : CB g K cX11_game 7 yX11_game (some (.int)) []) (l0 : Nat) (l1 : Int32) (l2 : Int32) (l3 : Int32) (h : Hp)
    (w : (∃ fs0, oF h l0 10 = some fs0 ∧ (∃ d0 P0 E0 m0 n0, CT g d0 yX11_needWoman (wsC yX11_needWoman cX11_needWoman 2 none) [.ref l0, .int l1] h m0 n0 P0 E0 ∧ (d0 + 1 ≤ D ∧ kc + m0 ≤ mc ∧ ks + n0 ≤ ms) ∧ (∀ E h', E0 E h' → Pt E h') ∧ (∀ v h0, P0 v h0 → v = none ∧ (∃ fs1, oF h0 l0 10 = some fs1 ∧ (∃ d1 P1 E1 m1 n1, CT g d1 yX11_needWoman (wsC yX11_needWoman cX11_needWoman 2 none) [.ref l0, .int l2] h0 m1 n1 P1 E1 ∧ (d1 + 1 ≤ D ∧ (kc + m0) + m1 ≤ mc ∧ (ks + n0) + n1 ≤ ms) ∧ (∀ E h', E1 E h' → Pt E h') ∧ (∀ v h1, P1 v h1 → v = none ∧ (∃ d2 P2 E2 m2 n2, CT g d2 yX11_needWhat (wsC yX11_needWhat cX11_needWhat 2 none) [.int l3, .int ((1 : Int32))] h1 m2 n2 P2 E2 ∧ (d2 + 1 ≤ D ∧ ((kc + m0) + m1) + m2 ≤ mc ∧ ((ks + n0) + n1) + n2 ≤ ms) ∧ (∀ E h', E2 E h' → Pt E h') ∧ (∀ v h2, P2 v h2 → v = none ∧ ((¬ l1 = l2 → VB g K 7 D mc ms Pr Pt ((((kc + m0) + m1) + m2)) ((((ks + n0) + n1) + n2)) 34 [some (.ref l0), some (.int l1), some (.int l2), some (.int l3), some (.int ((0 : Int32))), none, none] [] h2) ∧ (l1 = l2 → (((((kc + m0) + m1) + m2) + 1 ≤ mc ∧ (((ks + n0) + n1) + n2) + 6 ≤ ms) ∧ Pt "java/lang/IllegalArgumentException" (h2 ++ [dead]))))))))))))) : VB g K 7 D mc ms Pr Pt kc ks 0 [some (.ref l0), some (.int l1), some (.int l2), some (.int l3), none, none, none] [] h := by
  obtain ⟨p, e, s, m, args, below, meth, c⟩ := K
  have X : CX g p s m args meth c cX11_game 7 yX11_game (some (.int)) [] := X
  have hz := hg s X.gk.z
  show VV g p e (rmm D mc ms) s m args below meth c 7 (QQ g below args s mc ms Pr Pt) kc ks 0 [some (.ref l0), some (.int l1), some (.int l2), some (.int l3), none, none, none] [] h
  refine r_aload_n X dX11_game_0 rfl ?_
  refine r_iload_n X dX11_game_1 rfl ?_
  obtain ⟨fs0, es0, w⟩ := w
  obtain ⟨d0, P0, E0, m0, n0, ct0, w⟩ := w
  obtain ⟨⟨x1, x2, x3⟩, w⟩ := w
  obtain ⟨x4, w⟩ := w
  refine r_callV X (As := [.int l1]) dX11_game_2 mk_X11_needWoman ⟨ml_X11_207, im_X11_needWoman, se_X11_needWoman⟩ (oF_s es0) (ci_X11).1 rfl rfl rfl (by simp [Value.category]) ⟨x1, by show 60 * (d0 + 1) + 200 ≤ 60 * D + 200; omega⟩ ⟨x2, x3⟩ ct0 x4 (fun _ z => nomatch z) (fun _ => ⟨x2, x3⟩) (fun v h0 w1 => ?_)
  have w := w v h0 w1
  have hk : kc + m0 ≤ mc ∧ ks + n0 ≤ ms := ⟨x2, x3⟩
  obtain ⟨rfl, w⟩ := w
  refine r_aload_n X dX11_game_5 rfl ?_
  refine r_iload_n X dX11_game_6 rfl ?_
  obtain ⟨fs1, es1, w⟩ := w
  obtain ⟨d1, P1, E1, m1, n1, ct1, w⟩ := w
  obtain ⟨⟨x1, x2, x3⟩, w⟩ := w
  obtain ⟨x4, w⟩ := w
  refine r_callV X (As := [.int l2]) dX11_game_7 mk_X11_needWoman ⟨ml_X11_207, im_X11_needWoman, se_X11_needWoman⟩ (oF_s es1) (ci_X11).1 rfl rfl rfl (by simp [Value.category]) ⟨x1, by show 60 * (d1 + 1) + 200 ≤ 60 * D + 200; omega⟩ ⟨x2, x3⟩ ct1 x4 (fun _ z => nomatch z) (fun _ => ⟨x2, x3⟩) (fun v h1 w1 => ?_)
  have w := w v h1 w1
  have hk : (kc + m0) + m1 ≤ mc ∧ (ks + n0) + n1 ≤ ms := ⟨x2, x3⟩
  obtain ⟨rfl, w⟩ := w
  refine r_iload_n X dX11_game_10 rfl ?_
  refine r_iconst X dX11_game_11 (v := 1) (by decide) ?_
  obtain ⟨d2, P2, E2, m2, n2, ct2, w⟩ := w
  obtain ⟨⟨x1, x2, x3⟩, w⟩ := w
  obtain ⟨x4, w⟩ := w
  refine r_callS X (As := [.int l3, .int ((1 : Int32))]) dX11_game_12 mk_X11_needWhat ⟨ml_X11_250, sm_X11_needWhat⟩ rfl rfl (by simp [Value.category]) ⟨x1, by show 60 * (d2 + 1) + 200 ≤ 60 * D + 200; omega⟩ ⟨x2, x3⟩ ct2 x4 (fun _ z => nomatch z) (fun _ => ⟨x2, x3⟩) (fun v h2 w1 => ?_)
  have w := w v h2 w1
  have hk : ((kc + m0) + m1) + m2 ≤ mc ∧ ((ks + n0) + n1) + n2 ≤ ms := ⟨x2, x3⟩
  obtain ⟨rfl, w⟩ := w
  refine r_iload_n X dX11_game_15 rfl ?_
  refine r_iload_n X dX11_game_16 rfl ?_
  refine r_icmp_ne X dX11_game_17 (tgt := 31) (by decide) (fun q => ?_) (fun q => ?_)
  · have w := w.1 q
    refine r_iconst X dX11_game_31 (v := 0) (by decide) ?_
    refine r_istore X dX11_game_32 (by decide) rfl ?_
    refine VB_wk (ls' := [some (.ref l0), some (.int l1), some (.int l2), some (.int l3), some (.int ((0 : Int32))), none, none]) ?_ w
    exact (And.intro rfl (And.intro rfl (And.intro rfl (And.intro rfl (And.intro rfl trivial)))))
  · have w := w.2 q
    obtain ⟨q4, w⟩ := w
    exact r_throwSW X hz.1 (hz.2.1 (RX11, 95, 380, 99, "java/lang/IllegalArgumentException", "a game is of two women") (by decide)) dX11_game_20 dX11_game_23 dX11_game_24 dX11_game_27 dX11_game_30 (fun _ z => nomatch z) (by refine ⟨?_, ?_, q4.1, q4.2⟩ <;> simp [rmm, Value.category] <;> omega) q4.1 q4.2 w

set_option maxRecDepth 10000 in
theorem b_X11_game_34 {g : GG} {K : KX} {D mc ms : Nat} {Pr : Option Value → Hp → Prop} {Pt : String → Hp → Prop} {kc ks : Nat} (hg : GOK g) (hD : 8 ≤ D) (hk : kc ≤ mc ∧ ks ≤ ms) (X : CB g K cX11_game 7 yX11_game (some (.int)) []) (l0 : Nat) (l1 : Int32) (l2 : Int32) (l3 : Int32) (l4 : Int32) (h : Hp)
    (w : (((4 : Int32) ≤ l4 → VB g K 7 D mc ms Pr Pt kc ks 63 [some (.ref l0), none, none, some (.int l3), some (.int ((0 : Int32))), some (.int ((-1 : Int32))), some (.int ((3 : Int32)))] [] h) ∧ (¬ (4 : Int32) ≤ l4 → (∃ fs0, oF h l0 10 = some fs0 ∧ (∃ d0 P0 E0 m0 n0, CT g d0 yX11_playCouple (wsC yX11_playCouple cX11_playCouple 6 none) [.ref l0, .int l1, .int l2, .int l4] h m0 n0 P0 E0 ∧ (d0 + 1 ≤ D ∧ kc + m0 ≤ mc ∧ ks + n0 ≤ ms) ∧ (∀ E h', E0 E h' → Pt E h') ∧ (∀ v h0, P0 v h0 → v = none ∧ VB g K 7 D mc ms Pr Pt ((kc + m0)) ((ks + n0)) 34 [some (.ref l0), some (.int l1), some (.int l2), some (.int l3), some (.int ((l4 + 1))), none, none] [] h0)))))) : VB g K 7 D mc ms Pr Pt kc ks 34 [some (.ref l0), some (.int l1), some (.int l2), some (.int l3), some (.int l4), none, none] [] h := by
  obtain ⟨p, e, s, m, args, below, meth, c⟩ := K
  have X : CX g p s m args meth c cX11_game 7 yX11_game (some (.int)) [] := X
  have hz := hg s X.gk.z
  show VV g p e (rmm D mc ms) s m args below meth c 7 (QQ g below args s mc ms Pr Pt) kc ks 34 [some (.ref l0), some (.int l1), some (.int l2), some (.int l3), some (.int l4), none, none] [] h
  refine r_iload X dX11_game_34 rfl ?_
  refine r_iconst X dX11_game_36 (v := 4) (by decide) ?_
  refine r_icmp_ge X dX11_game_37 (tgt := 54) (by decide) (fun q => ?_) (fun q => ?_)
  · have w := w.1 q
    refine r_iconst X dX11_game_54 (v := 0) (by decide) ?_
    refine r_istore X dX11_game_55 (by decide) rfl ?_
    refine r_iconst X dX11_game_57 (v := -1) (by decide) ?_
    refine r_istore X dX11_game_58 (by decide) rfl ?_
    refine r_iconst X dX11_game_60 (v := 3) (by decide) ?_
    refine r_istore X dX11_game_61 (by decide) rfl ?_
    refine VB_wk (ls' := [some (.ref l0), none, none, some (.int l3), some (.int ((0 : Int32))), some (.int ((-1 : Int32))), some (.int ((3 : Int32)))]) ?_ w
    exact (And.intro rfl (And.intro rfl (And.intro rfl (And.intro rfl (And.intro rfl trivial)))))
  · have w := w.2 q
    refine r_aload_n X dX11_game_40 rfl ?_
    refine r_iload_n X dX11_game_41 rfl ?_
    refine r_iload_n X dX11_game_42 rfl ?_
    refine r_iload X dX11_game_43 rfl ?_
    obtain ⟨fs0, es0, w⟩ := w
    obtain ⟨d0, P0, E0, m0, n0, ct0, w⟩ := w
    obtain ⟨⟨x1, x2, x3⟩, w⟩ := w
    obtain ⟨x4, w⟩ := w
    refine r_callV X (As := [.int l1, .int l2, .int l4]) dX11_game_45 mk_X11_playCouple ⟨ml_X11_382, im_X11_playCouple, se_X11_playCouple⟩ (oF_s es0) (ci_X11).1 rfl rfl rfl (by simp [Value.category]) ⟨x1, by show 60 * (d0 + 1) + 200 ≤ 60 * D + 200; omega⟩ ⟨x2, x3⟩ ct0 x4 (fun _ z => nomatch z) (fun _ => ⟨x2, x3⟩) (fun v h0 w1 => ?_)
    have w := w v h0 w1
    have hk : kc + m0 ≤ mc ∧ ks + n0 ≤ ms := ⟨x2, x3⟩
    obtain ⟨rfl, w⟩ := w
    refine r_iinc X dX11_game_48 rfl (v := (l4 + 1)) rfl (by decide) rfl ?_
    refine r_goto X dX11_game_51 (tgt := 34) (by decide) ?_
    refine VB_wk (ls' := [some (.ref l0), some (.int l1), some (.int l2), some (.int l3), some (.int ((l4 + 1))), none, none]) ?_ w
    exact (And.intro rfl (And.intro rfl (And.intro rfl (And.intro rfl (And.intro rfl trivial)))))

set_option maxRecDepth 10000 in
theorem b_X11_game_63 {g : GG} {K : KX} {D mc ms : Nat} {Pr : Option Value → Hp → Prop} {Pt : String → Hp → Prop} {kc ks : Nat} (hg : GOK g) (hD : 8 ≤ D) (hk : kc ≤ mc ∧ ks ≤ ms) (X : CB g K cX11_game 7 yX11_game (some (.int)) []) (l0 : Nat) (l3 : Int32) (l4 : Int32) (l5 : Int32) (l6 : Int32) (h : Hp)
    (w : ((l6 < 0 → ((¬ l3 = 0 → Pr (some (.int l5)) h) ∧ (l3 = 0 → Pr (some (.int l4)) h))) ∧ (¬ l6 < 0 → (∃ fs0, oF h l0 10 = some fs0 ∧ (∃ d0 P0 E0 m0 n0, CT g d0 yX11_rests (wsC yX11_rests cX11_rests 4 (some (.boolean))) [.ref l0, .int l6] h m0 n0 P0 E0 ∧ (d0 + 1 ≤ D ∧ kc + m0 ≤ mc ∧ ks + n0 ≤ ms) ∧ (∀ E h', E0 E h' → Pt E h') ∧ (∀ v h0, P0 v h0 → ∃ v2, v = some (.int v2) ∧ ((v2 = 0 → VB g K 7 D mc ms Pr Pt ((kc + m0)) ((ks + n0)) 94 [some (.ref l0), none, none, some (.int l3), some (.int l4), some (.int l5), some (.int l6)] [] h0) ∧ (¬ v2 = 0 → VB g K 7 D mc ms Pr Pt ((kc + m0)) ((ks + n0)) 94 [some (.ref l0), none, none, some (.int l3), some (.int ((l4 + 1))), some (.int ((((10 : Int32) * (l6 >>> ((1 : Int32) &&& 31))) + (l6 &&& (1 : Int32))))), some (.int l6)] [] h0)))))))) : VB g K 7 D mc ms Pr Pt kc ks 63 [some (.ref l0), none, none, some (.int l3), some (.int l4), some (.int l5), some (.int l6)] [] h := by
  obtain ⟨p, e, s, m, args, below, meth, c⟩ := K
  have X : CX g p s m args meth c cX11_game 7 yX11_game (some (.int)) [] := X
  have hz := hg s X.gk.z
  show VV g p e (rmm D mc ms) s m args below meth c 7 (QQ g below args s mc ms Pr Pt) kc ks 63 [some (.ref l0), none, none, some (.int l3), some (.int l4), some (.int l5), some (.int l6)] [] h
  refine r_iload X dX11_game_63 rfl ?_
  refine r_if_lt X dX11_game_65 (tgt := 100) (by decide) (fun q => ?_) (fun q => ?_)
  · have w := w.1 q
    refine r_iload_n X dX11_game_100 rfl ?_
    refine r_if_ne X dX11_game_101 (tgt := 109) (by decide) (fun q => ?_) (fun q => ?_)
    · have w := w.1 q
      refine r_iload X dX11_game_109 rfl ?_
      exact r_iret X dX11_game_111 rfl w hk.1 hk.2
    · have w := w.2 q
      refine r_iload X dX11_game_104 rfl ?_
      refine r_goto X dX11_game_106 (tgt := 111) (by decide) ?_
      exact r_iret X dX11_game_111 rfl w hk.1 hk.2
  · have w := w.2 q
    refine r_aload_n X dX11_game_68 rfl ?_
    refine r_iload X dX11_game_69 rfl ?_
    obtain ⟨fs0, es0, w⟩ := w
    obtain ⟨d0, P0, E0, m0, n0, ct0, w⟩ := w
    obtain ⟨⟨x1, x2, x3⟩, w⟩ := w
    obtain ⟨x4, w⟩ := w
    refine r_callV X (As := [.int l6]) dX11_game_71 mk_X11_rests ⟨ml_X11_385, im_X11_rests, se_X11_rests⟩ (oF_s es0) (ci_X11).1 rfl rfl rfl (by simp [Value.category]) ⟨x1, by show 60 * (d0 + 1) + 200 ≤ 60 * D + 200; omega⟩ ⟨x2, x3⟩ ct0 x4 (fun _ z => nomatch z) (fun _ => ⟨x2, x3⟩) (fun v h0 w1 => ?_)
    have w := w v h0 w1
    have hk : kc + m0 ≤ mc ∧ ks + n0 ≤ ms := ⟨x2, x3⟩
    obtain ⟨v2, rfl, w⟩ := w
    refine r_if_eq X dX11_game_74 (tgt := 94) (by decide) (fun q => ?_) (fun q => ?_)
    · have w := w.1 q
      refine VB_wk (ls' := [some (.ref l0), none, none, some (.int l3), some (.int l4), some (.int l5), some (.int l6)]) ?_ w
      exact (And.intro rfl (And.intro rfl (And.intro rfl (And.intro rfl (And.intro rfl trivial)))))
    · have w := w.2 q
      refine r_iinc X dX11_game_77 rfl (v := (l4 + 1)) rfl (by decide) rfl ?_
      refine r_bipush X dX11_game_80 (v := 10) (by decide) ?_
      refine r_iload X dX11_game_82 rfl ?_
      refine r_iconst X dX11_game_84 (v := 1) (by decide) ?_
      refine r_ishr X dX11_game_85 ?_
      refine r_imul X dX11_game_86 ?_
      refine r_iload X dX11_game_87 rfl ?_
      refine r_iconst X dX11_game_89 (v := 1) (by decide) ?_
      refine r_iand X dX11_game_90 ?_
      refine r_iadd X dX11_game_91 ?_
      refine r_istore X dX11_game_92 (by decide) rfl ?_
      refine VB_wk (ls' := [some (.ref l0), none, none, some (.int l3), some (.int ((l4 + 1))), some (.int ((((10 : Int32) * (l6 >>> ((1 : Int32) &&& 31))) + (l6 &&& (1 : Int32))))), some (.int l6)]) ?_ w
      exact (And.intro rfl (And.intro rfl (And.intro rfl (And.intro rfl (And.intro rfl trivial)))))

set_option maxRecDepth 10000 in
theorem b_X11_game_94 {g : GG} {K : KX} {D mc ms : Nat} {Pr : Option Value → Hp → Prop} {Pt : String → Hp → Prop} {kc ks : Nat} (hg : GOK g) (hD : 8 ≤ D) (hk : kc ≤ mc ∧ ks ≤ ms) (X : CB g K cX11_game 7 yX11_game (some (.int)) []) (l0 : Nat) (l3 : Int32) (l4 : Int32) (l5 : Int32) (l6 : Int32) (h : Hp)
    (w : VB g K 7 D mc ms Pr Pt kc ks 63 [some (.ref l0), none, none, some (.int l3), some (.int l4), some (.int l5), some (.int ((l6 + (-1))))] [] h) : VB g K 7 D mc ms Pr Pt kc ks 94 [some (.ref l0), none, none, some (.int l3), some (.int l4), some (.int l5), some (.int l6)] [] h := by
  obtain ⟨p, e, s, m, args, below, meth, c⟩ := K
  have X : CX g p s m args meth c cX11_game 7 yX11_game (some (.int)) [] := X
  have hz := hg s X.gk.z
  show VV g p e (rmm D mc ms) s m args below meth c 7 (QQ g below args s mc ms Pr Pt) kc ks 94 [some (.ref l0), none, none, some (.int l3), some (.int l4), some (.int l5), some (.int l6)] [] h
  refine r_iinc X dX11_game_94 rfl (v := (l6 + (-1))) rfl (by decide) rfl ?_
  refine r_goto X dX11_game_97 (tgt := 63) (by decide) ?_
  refine VB_wk (ls' := [some (.ref l0), none, none, some (.int l3), some (.int l4), some (.int l5), some (.int ((l6 + (-1))))]) ?_ w
  exact (And.intro rfl (And.intro rfl (And.intro rfl (And.intro rfl (And.intro rfl trivial)))))

set_option maxRecDepth 10000 in
theorem b_X11_gaps_0 {g : GG} {K : KX} {D mc ms : Nat} {Pr : Option Value → Hp → Prop} {Pt : String → Hp → Prop} {kc ks : Nat} (hg : GOK g) (hD : 8 ≤ D) (hk : kc ≤ mc ∧ ks ≤ ms) (X : CB g K cX11_gaps 1 yX11_gaps (some (.int)) []) (l0 : Nat) (h : Hp)
    (w : (∃ v1, gN h l0 10 8 = some v1 ∧ (∃ v2, gN h v1 3 0 = some v2 ∧ (∃ v3, gN h l0 10 6 = some v3 ∧ (∃ fs3, oF h v2 2 = some fs3 ∧ (∃ d3 P3 E3 m3 n3, CT g d3 yX2_openBits (wsC yX2_openBits cX2_openBits 4 (some (.int))) [.ref v2, .ref v3] h m3 n3 P3 E3 ∧ (d3 + 1 ≤ D ∧ kc + m3 ≤ mc ∧ ks + n3 ≤ ms) ∧ (∀ E h', E3 E h' → Pt E h') ∧ (∀ v h3, P3 v h3 → ∃ v5, v = some (.int v5) ∧ (∃ fs5, oF h3 l0 10 = some fs5 ∧ (∃ d5 P5 E5 m5 n5, CT g d5 yX11_rowsOf (wsC yX11_rowsOf cX11_rowsOf 4 (some (.int))) [.ref l0, .int v5] h3 m5 n5 P5 E5 ∧ (d5 + 1 ≤ D ∧ (kc + m3) + m5 ≤ mc ∧ (ks + n3) + n5 ≤ ms) ∧ (∀ E h', E5 E h' → Pt E h') ∧ (∀ v h5, P5 v h5 → ∃ v7, v = some (.int v7) ∧ Pr (some (.int v7)) h5)))))))))) : VB g K 1 D mc ms Pr Pt kc ks 0 [some (.ref l0)] [] h := by
  obtain ⟨p, e, s, m, args, below, meth, c⟩ := K
  have X : CX g p s m args meth c cX11_gaps 1 yX11_gaps (some (.int)) [] := X
  have hz := hg s X.gk.z
  show VV g p e (rmm D mc ms) s m args below meth c 1 (QQ g below args s mc ms Pr Pt) kc ks 0 [some (.ref l0)] [] h
  refine r_aload_n X dX11_gaps_0 rfl ?_
  refine r_aload_n X dX11_gaps_1 rfl ?_
  obtain ⟨v1, ev1, w⟩ := w
  obtain ⟨fv1, cv1, qv1⟩ := gN_s ev1
  refine r_getf X dX11_gaps_2 fl_X11_42 cv1 qv1 ?_
  obtain ⟨v2, ev2, w⟩ := w
  obtain ⟨fv2, cv2, qv2⟩ := gN_s ev2
  refine r_getf X dX11_gaps_5 fl_X11_84 cv2 qv2 ?_
  refine r_aload_n X dX11_gaps_8 rfl ?_
  obtain ⟨v3, ev3, w⟩ := w
  obtain ⟨fv3, cv3, qv3⟩ := gN_s ev3
  refine r_getf X dX11_gaps_9 fl_X11_32 cv3 qv3 ?_
  obtain ⟨fs3, es3, w⟩ := w
  obtain ⟨d3, P3, E3, m3, n3, ct3, w⟩ := w
  obtain ⟨⟨x1, x2, x3⟩, w⟩ := w
  obtain ⟨x4, w⟩ := w
  refine r_callV X (As := [.ref v3]) dX11_gaps_12 mk_X2_openBits ⟨ml_X11_159, im_X2_openBits, se_X2_openBits⟩ (oF_s es3) (ci_X2).1 rfl rfl rfl (by simp [Value.category]) ⟨x1, by show 60 * (d3 + 1) + 200 ≤ 60 * D + 200; omega⟩ ⟨x2, x3⟩ ct3 x4 (fun _ z => nomatch z) (fun _ => ⟨x2, x3⟩) (fun v h3 w1 => ?_)
  have w := w v h3 w1
  have hk : kc + m3 ≤ mc ∧ ks + n3 ≤ ms := ⟨x2, x3⟩
  obtain ⟨v5, rfl, w⟩ := w
  obtain ⟨fs5, es5, w⟩ := w
  obtain ⟨d5, P5, E5, m5, n5, ct5, w⟩ := w
  obtain ⟨⟨x1, x2, x3⟩, w⟩ := w
  obtain ⟨x4, w⟩ := w
  refine r_callV X (As := [.int v5]) dX11_gaps_15 mk_X11_rowsOf ⟨ml_X11_323, im_X11_rowsOf, se_X11_rowsOf⟩ (oF_s es5) (ci_X11).1 rfl rfl rfl (by simp [Value.category]) ⟨x1, by show 60 * (d5 + 1) + 200 ≤ 60 * D + 200; omega⟩ ⟨x2, x3⟩ ct5 x4 (fun _ z => nomatch z) (fun _ => ⟨x2, x3⟩) (fun v h5 w1 => ?_)
  have w := w v h5 w1
  have hk : (kc + m3) + m5 ≤ mc ∧ (ks + n3) + n5 ≤ ms := ⟨x2, x3⟩
  obtain ⟨v7, rfl, w⟩ := w
  exact r_iret X dX11_gaps_18 rfl w hk.1 hk.2

set_option maxRecDepth 10000 in
theorem b_X11_go_0 {g : GG} {K : KX} {D mc ms : Nat} {Pr : Option Value → Hp → Prop} {Pt : String → Hp → Prop} {kc ks : Nat} (hg : GOK g) (hD : 8 ≤ D) (hk : kc ≤ mc ∧ ks ≤ ms) (X : CB g K cX11_go 4 yX11_go (some (.int)) []) (l0 : Nat) (l1 : Int32) (l2 : Int32) (h : Hp)
    (w : (∃ fs0, oF h l0 10 = some fs0 ∧ (∃ d0 P0 E0 m0 n0, CT g d0 yX11_needWoman (wsC yX11_needWoman cX11_needWoman 2 none) [.ref l0, .int l1] h m0 n0 P0 E0 ∧ (d0 + 1 ≤ D ∧ kc + m0 ≤ mc ∧ ks + n0 ≤ ms) ∧ (∀ E h', E0 E h' → Pt E h') ∧ (∀ v h0, P0 v h0 → v = none ∧ (∃ fs1, oF h0 l0 10 = some fs1 ∧ (∃ d1 P1 E1 m1 n1, CT g d1 yX11_needStretch (wsC yX11_needStretch cX11_needStretch 2 none) [.ref l0, .int l2] h0 m1 n1 P1 E1 ∧ (d1 + 1 ≤ D ∧ (kc + m0) + m1 ≤ mc ∧ (ks + n0) + n1 ≤ ms) ∧ (∀ E h', E1 E h' → Pt E h') ∧ (∀ v h1, P1 v h1 → v = none ∧ (∃ v3, gN h1 l0 10 8 = some v3 ∧ (∃ v4, gN h1 v3 3 0 = some v4 ∧ (∃ v5, gN h1 v4 2 4 = some v5 ∧ (∃ v6, aI h1 0 v5 l1 = some v6 ∧ ((¬ v6 = l2 → (∃ v7, gN h1 l0 10 8 = some v7 ∧ (∃ v8, gN h1 v7 3 1 = some v8 ∧ (∃ v9, gN h1 l0 10 8 = some v9 ∧ (∃ v10, gN h1 v9 3 0 = some v10 ∧ (∃ fs10, oF h1 v8 4 = some fs10 ∧ (∃ d10 P10 E10 m10 n10, CT g d10 yX4_keep (wsC yX4_keep cX4_keep 2 none) [.ref v8, .ref v10] h1 m10 n10 P10 E10 ∧ (d10 + 1 ≤ D ∧ ((kc + m0) + m1) + m10 ≤ mc ∧ ((ks + n0) + n1) + n10 ≤ ms) ∧ (∀ E h', E10 E h' → Pt E h') ∧ (∀ v h10, P10 v h10 → v = none ∧ (∃ v12, gN h10 l0 10 8 = some v12 ∧ (∃ v13, gN h10 v12 3 0 = some v13 ∧ (∃ v14, gN h10 v13 2 4 = some v14 ∧ (∃ h15, uI h10 0 v14 l1 l2 = some h15 ∧ Pr (some (.int v6)) h15)))))))))))) ∧ (v6 = l2 → (∃ fs15, oF h1 l0 10 = some fs15 ∧ (∃ d15 P15 E15 m15 n15, CT g d15 yX11_refuseAct (wsC yX11_refuseAct cX11_refuseAct 1 (some (.int))) [.ref l0] h1 m15 n15 P15 E15 ∧ (d15 + 1 ≤ D ∧ ((kc + m0) + m1) + m15 ≤ mc ∧ ((ks + n0) + n1) + n15 ≤ ms) ∧ (∀ E h', E15 E h' → Pt E h') ∧ (∀ v h15, P15 v h15 → ∃ v17, v = some (.int v17) ∧ Pr (some (.int v17)) h15)))))))))))))))) : VB g K 4 D mc ms Pr Pt kc ks 0 [some (.ref l0), some (.int l1), some (.int l2), none] [] h := by
  obtain ⟨p, e, s, m, args, below, meth, c⟩ := K
  have X : CX g p s m args meth c cX11_go 4 yX11_go (some (.int)) [] := X
  have hz := hg s X.gk.z
  show VV g p e (rmm D mc ms) s m args below meth c 4 (QQ g below args s mc ms Pr Pt) kc ks 0 [some (.ref l0), some (.int l1), some (.int l2), none] [] h
  refine r_aload_n X dX11_go_0 rfl ?_
  refine r_iload_n X dX11_go_1 rfl ?_
  obtain ⟨fs0, es0, w⟩ := w
  obtain ⟨d0, P0, E0, m0, n0, ct0, w⟩ := w
  obtain ⟨⟨x1, x2, x3⟩, w⟩ := w
  obtain ⟨x4, w⟩ := w
  refine r_callV X (As := [.int l1]) dX11_go_2 mk_X11_needWoman ⟨ml_X11_207, im_X11_needWoman, se_X11_needWoman⟩ (oF_s es0) (ci_X11).1 rfl rfl rfl (by simp [Value.category]) ⟨x1, by show 60 * (d0 + 1) + 200 ≤ 60 * D + 200; omega⟩ ⟨x2, x3⟩ ct0 x4 (fun _ z => nomatch z) (fun _ => ⟨x2, x3⟩) (fun v h0 w1 => ?_)
  have w := w v h0 w1
  have hk : kc + m0 ≤ mc ∧ ks + n0 ≤ ms := ⟨x2, x3⟩
  obtain ⟨rfl, w⟩ := w
  refine r_aload_n X dX11_go_5 rfl ?_
  refine r_iload_n X dX11_go_6 rfl ?_
  obtain ⟨fs1, es1, w⟩ := w
  obtain ⟨d1, P1, E1, m1, n1, ct1, w⟩ := w
  obtain ⟨⟨x1, x2, x3⟩, w⟩ := w
  obtain ⟨x4, w⟩ := w
  refine r_callV X (As := [.int l2]) dX11_go_7 mk_X11_needStretch ⟨ml_X11_179, im_X11_needStretch, se_X11_needStretch⟩ (oF_s es1) (ci_X11).1 rfl rfl rfl (by simp [Value.category]) ⟨x1, by show 60 * (d1 + 1) + 200 ≤ 60 * D + 200; omega⟩ ⟨x2, x3⟩ ct1 x4 (fun _ z => nomatch z) (fun _ => ⟨x2, x3⟩) (fun v h1 w1 => ?_)
  have w := w v h1 w1
  have hk : (kc + m0) + m1 ≤ mc ∧ (ks + n0) + n1 ≤ ms := ⟨x2, x3⟩
  obtain ⟨rfl, w⟩ := w
  refine r_aload_n X dX11_go_10 rfl ?_
  obtain ⟨v3, ev3, w⟩ := w
  obtain ⟨fv3, cv3, qv3⟩ := gN_s ev3
  refine r_getf X dX11_go_11 fl_X11_42 cv3 qv3 ?_
  obtain ⟨v4, ev4, w⟩ := w
  obtain ⟨fv4, cv4, qv4⟩ := gN_s ev4
  refine r_getf X dX11_go_14 fl_X11_84 cv4 qv4 ?_
  obtain ⟨v5, ev5, w⟩ := w
  obtain ⟨fv5, cv5, qv5⟩ := gN_s ev5
  refine r_getf X dX11_go_17 fl_X11_213 cv5 qv5 ?_
  refine r_iload_n X dX11_go_20 rfl ?_
  obtain ⟨v6, ev6, w⟩ := w
  obtain ⟨nv6, fv6, cv6, iv6, qv6⟩ := aI_s ev6
  refine r_iald X dX11_go_21 cv6 iv6 ?_
  rw [qv6]
  refine r_istore_n X dX11_go_22 (by decide) rfl ?_
  refine r_iload_n X dX11_go_23 rfl ?_
  refine r_iload_n X dX11_go_24 rfl ?_
  refine r_icmp_ne X dX11_go_25 (tgt := 33) (by decide) (fun q => ?_) (fun q => ?_)
  · have w := w.1 q
    refine r_aload_n X dX11_go_33 rfl ?_
    obtain ⟨v7, ev7, w⟩ := w
    obtain ⟨fv7, cv7, qv7⟩ := gN_s ev7
    refine r_getf X dX11_go_34 fl_X11_42 cv7 qv7 ?_
    obtain ⟨v8, ev8, w⟩ := w
    obtain ⟨fv8, cv8, qv8⟩ := gN_s ev8
    refine r_getf X dX11_go_37 fl_X11_127 cv8 qv8 ?_
    refine r_aload_n X dX11_go_40 rfl ?_
    obtain ⟨v9, ev9, w⟩ := w
    obtain ⟨fv9, cv9, qv9⟩ := gN_s ev9
    refine r_getf X dX11_go_41 fl_X11_42 cv9 qv9 ?_
    obtain ⟨v10, ev10, w⟩ := w
    obtain ⟨fv10, cv10, qv10⟩ := gN_s ev10
    refine r_getf X dX11_go_44 fl_X11_84 cv10 qv10 ?_
    obtain ⟨fs10, es10, w⟩ := w
    obtain ⟨d10, P10, E10, m10, n10, ct10, w⟩ := w
    obtain ⟨⟨x1, x2, x3⟩, w⟩ := w
    obtain ⟨x4, w⟩ := w
    refine r_callV X (As := [.ref v10]) dX11_go_47 mk_X4_keep ⟨ml_X11_225, im_X4_keep, se_X4_keep⟩ (oF_s es10) (ci_X4).1 rfl rfl rfl (by simp [Value.category]) ⟨x1, by show 60 * (d10 + 1) + 200 ≤ 60 * D + 200; omega⟩ ⟨x2, x3⟩ ct10 x4 (fun _ z => nomatch z) (fun _ => ⟨x2, x3⟩) (fun v h10 w1 => ?_)
    have w := w v h10 w1
    have hk : ((kc + m0) + m1) + m10 ≤ mc ∧ ((ks + n0) + n1) + n10 ≤ ms := ⟨x2, x3⟩
    obtain ⟨rfl, w⟩ := w
    refine r_aload_n X dX11_go_50 rfl ?_
    obtain ⟨v12, ev12, w⟩ := w
    obtain ⟨fv12, cv12, qv12⟩ := gN_s ev12
    refine r_getf X dX11_go_51 fl_X11_42 cv12 qv12 ?_
    obtain ⟨v13, ev13, w⟩ := w
    obtain ⟨fv13, cv13, qv13⟩ := gN_s ev13
    refine r_getf X dX11_go_54 fl_X11_84 cv13 qv13 ?_
    obtain ⟨v14, ev14, w⟩ := w
    obtain ⟨fv14, cv14, qv14⟩ := gN_s ev14
    refine r_getf X dX11_go_57 fl_X11_213 cv14 qv14 ?_
    refine r_iload_n X dX11_go_60 rfl ?_
    refine r_iload_n X dX11_go_61 rfl ?_
    obtain ⟨h15, eh15, w⟩ := w
    obtain ⟨nh15, fh15, ch15, ih15, rh15⟩ := uI_s eh15
    subst rh15
    refine r_iast X dX11_go_62 ch15 ih15 ?_
    refine r_iload_n X dX11_go_63 rfl ?_
    exact r_iret X dX11_go_64 rfl w hk.1 hk.2
  · have w := w.2 q
    refine r_aload_n X dX11_go_28 rfl ?_
    obtain ⟨fs15, es15, w⟩ := w
    obtain ⟨d15, P15, E15, m15, n15, ct15, w⟩ := w
    obtain ⟨⟨x1, x2, x3⟩, w⟩ := w
    obtain ⟨x4, w⟩ := w
    refine r_callV X (As := []) dX11_go_29 mk_X11_refuseAct ⟨ml_X11_221, im_X11_refuseAct, se_X11_refuseAct⟩ (oF_s es15) (ci_X11).1 rfl rfl rfl (by simp [Value.category]) ⟨x1, by show 60 * (d15 + 1) + 200 ≤ 60 * D + 200; omega⟩ ⟨x2, x3⟩ ct15 x4 (fun _ z => nomatch z) (fun _ => ⟨x2, x3⟩) (fun v h15 w1 => ?_)
    have w := w v h15 w1
    have hk : ((kc + m0) + m1) + m15 ≤ mc ∧ ((ks + n0) + n1) + n15 ≤ ms := ⟨x2, x3⟩
    obtain ⟨v17, rfl, w⟩ := w
    exact r_iret X dX11_go_32 rfl w hk.1 hk.2

set_option maxRecDepth 10000 in
theorem b_X11_image_0 {g : GG} {K : KX} {D mc ms : Nat} {Pr : Option Value → Hp → Prop} {Pt : String → Hp → Prop} {kc ks : Nat} (hg : GOK g) (hD : 8 ≤ D) (hk : kc ≤ mc ∧ ks ≤ ms) (X : CB g K cX11_image 1 yX11_image none []) (l0 : Nat) (h : Hp)
    (w : (∃ v1, gN h l0 10 9 = some v1 ∧ (∃ v2, gN h l0 10 8 = some v2 ∧ (∃ fs2, oF h v1 3 = some fs2 ∧ (∃ d2 P2 E2 m2 n2, CT g d2 yX3_copyFrom (wsC yX3_copyFrom cX3_copyFrom 2 none) [.ref v1, .ref v2] h m2 n2 P2 E2 ∧ (d2 + 1 ≤ D ∧ kc + m2 ≤ mc ∧ ks + n2 ≤ ms) ∧ (∀ E h', E2 E h' → Pt E h') ∧ (∀ v h2, P2 v h2 → v = none ∧ (isB ((1 : Int32)) ∧ (∃ h4, pF h2 l0 10 10 (.int ((1 : Int32))) = some h4 ∧ Pr none h4)))))))) : VB g K 1 D mc ms Pr Pt kc ks 0 [some (.ref l0)] [] h := by
  obtain ⟨p, e, s, m, args, below, meth, c⟩ := K
  have X : CX g p s m args meth c cX11_image 1 yX11_image none [] := X
  have hz := hg s X.gk.z
  show VV g p e (rmm D mc ms) s m args below meth c 1 (QQ g below args s mc ms Pr Pt) kc ks 0 [some (.ref l0)] [] h
  refine r_aload_n X dX11_image_0 rfl ?_
  obtain ⟨v1, ev1, w⟩ := w
  obtain ⟨fv1, cv1, qv1⟩ := gN_s ev1
  refine r_getf X dX11_image_1 fl_X11_46 cv1 qv1 ?_
  refine r_aload_n X dX11_image_4 rfl ?_
  obtain ⟨v2, ev2, w⟩ := w
  obtain ⟨fv2, cv2, qv2⟩ := gN_s ev2
  refine r_getf X dX11_image_5 fl_X11_42 cv2 qv2 ?_
  obtain ⟨fs2, es2, w⟩ := w
  obtain ⟨d2, P2, E2, m2, n2, ct2, w⟩ := w
  obtain ⟨⟨x1, x2, x3⟩, w⟩ := w
  obtain ⟨x4, w⟩ := w
  refine r_callV X (As := [.ref v2]) dX11_image_8 mk_X3_copyFrom ⟨ml_X11_407, im_X3_copyFrom, se_X3_copyFrom⟩ (oF_s es2) (ci_X3).1 rfl rfl rfl (by simp [Value.category]) ⟨x1, by show 60 * (d2 + 1) + 200 ≤ 60 * D + 200; omega⟩ ⟨x2, x3⟩ ct2 x4 (fun _ z => nomatch z) (fun _ => ⟨x2, x3⟩) (fun v h2 w1 => ?_)
  have w := w v h2 w1
  have hk : kc + m2 ≤ mc ∧ ks + n2 ≤ ms := ⟨x2, x3⟩
  obtain ⟨rfl, w⟩ := w
  refine r_aload_n X dX11_image_11 rfl ?_
  refine r_iconst X dX11_image_12 (v := 1) (by decide) ?_
  obtain ⟨bh4, w⟩ := w
  obtain ⟨h4, eh4, w⟩ := w
  obtain ⟨fh4, ch4, lh4, rh4⟩ := pF_s eh4
  subst rh4
  refine r_putf X dX11_image_13 fw_X11_49 ch4 lh4 (isB_n bh4) (isB_f bh4) ?_
  exact r_vret X dX11_image_16 rfl w hk.1 hk.2

set_option maxRecDepth 10000 in
theorem b_X11_init_0 {g : GG} {K : KX} {D mc ms : Nat} {Pr : Option Value → Hp → Prop} {Pt : String → Hp → Prop} {kc ks : Nat} (hg : GOK g) (hD : 8 ≤ D) (hk : kc ≤ mc ∧ ks ≤ ms) (X : CB g K cX11_init 1 yX11_init none []) (l0 : Nat) (h : Hp)
    (w : ((kc + 1 ≤ mc ∧ ks + 700 ≤ ms) ∧ (∃ h2, pF ((h ++ [arr0 1 700])) l0 10 0 (.ref ((h).length)) = some h2 ∧ (∃ h3, pF h2 l0 10 1 (.int ((0 : Int32))) = some h3 ∧ (∃ h4, pF h3 l0 10 2 (.int ((-1 : Int32))) = some h4 ∧ VB g K 1 D mc ms Pr Pt ((kc + 1)) ((ks + 700)) 23 [some (.ref l0)] [] h4))))) : VB g K 1 D mc ms Pr Pt kc ks 0 [some (.ref l0)] [] h := by
  obtain ⟨p, e, s, m, args, below, meth, c⟩ := K
  have X : CX g p s m args meth c cX11_init 1 yX11_init none [] := X
  have hz := hg s X.gk.z
  show VV g p e (rmm D mc ms) s m args below meth c 1 (QQ g below args s mc ms Pr Pt) kc ks 0 [some (.ref l0)] [] h
  refine r_aload_n X dX11_init_0 rfl ?_
  refine r_objInit X dX11_init_1 ob_X11_3 (by show 1 ≤ D; omega) (by simp [rmm, Value.category]) ?_
  refine r_aload_n X dX11_init_4 rfl ?_
  refine r_sipush X dX11_init_5 (v := 700) (by decide) ?_
  obtain ⟨q1, w⟩ := w
  refine r_newa X dX11_init_8 (t := 1) (N := 700) (by decide) rfl ar_byte (by decide) (by decide) (by decide) q1.1 q1.2 ?_
  have hk : (kc + 1) ≤ mc ∧ (ks + 700) ≤ ms := q1
  obtain ⟨h2, eh2, w⟩ := w
  obtain ⟨fh2, ch2, lh2, rh2⟩ := pF_s eh2
  subst rh2
  refine r_putF X dX11_init_10 fw_X11_9 rfl ch2 lh2 rfl rfl ?_
  refine r_aload_n X dX11_init_13 rfl ?_
  refine r_iconst X dX11_init_14 (v := 0) (by decide) ?_
  obtain ⟨h3, eh3, w⟩ := w
  obtain ⟨fh3, ch3, lh3, rh3⟩ := pF_s eh3
  subst rh3
  refine r_putf X dX11_init_15 fw_X11_13 ch3 lh3 rfl rfl ?_
  refine r_aload_n X dX11_init_18 rfl ?_
  refine r_iconst X dX11_init_19 (v := -1) (by decide) ?_
  obtain ⟨h4, eh4, w⟩ := w
  obtain ⟨fh4, ch4, lh4, rh4⟩ := pF_s eh4
  subst rh4
  refine r_putf X dX11_init_20 fw_X11_17 ch4 lh4 rfl rfl ?_
  refine VB_wk (ls' := [some (.ref l0)]) ?_ w
  exact (And.intro rfl trivial)

set_option maxRecDepth 10000 in
theorem b_X11_init_23 {g : GG} {K : KX} {D mc ms : Nat} {Pr : Option Value → Hp → Prop} {Pt : String → Hp → Prop} {kc ks : Nat} (hg : GOK g) (hD : 8 ≤ D) (hk : kc ≤ mc ∧ ks ≤ ms) (X : CB g K cX11_init 1 yX11_init none []) (l0 : Nat) (h : Hp)
    (w : (∃ h1, pF h l0 10 3 (.int ((0 : Int32))) = some h1 ∧ (∃ h2, pF h1 l0 10 4 (.int ((0 : Int32))) = some h2 ∧ (∃ h3, pF h2 l0 10 5 (.int ((0 : Int32))) = some h3 ∧ VB g K 1 D mc ms Pr Pt kc ks 38 [some (.ref l0)] [] h3)))) : VB g K 1 D mc ms Pr Pt kc ks 23 [some (.ref l0)] [] h := by
  obtain ⟨p, e, s, m, args, below, meth, c⟩ := K
  have X : CX g p s m args meth c cX11_init 1 yX11_init none [] := X
  have hz := hg s X.gk.z
  show VV g p e (rmm D mc ms) s m args below meth c 1 (QQ g below args s mc ms Pr Pt) kc ks 23 [some (.ref l0)] [] h
  refine r_aload_n X dX11_init_23 rfl ?_
  refine r_iconst X dX11_init_24 (v := 0) (by decide) ?_
  obtain ⟨h1, eh1, w⟩ := w
  obtain ⟨fh1, ch1, lh1, rh1⟩ := pF_s eh1
  subst rh1
  refine r_putf X dX11_init_25 fw_X11_20 ch1 lh1 rfl rfl ?_
  refine r_aload_n X dX11_init_28 rfl ?_
  refine r_iconst X dX11_init_29 (v := 0) (by decide) ?_
  obtain ⟨h2, eh2, w⟩ := w
  obtain ⟨fh2, ch2, lh2, rh2⟩ := pF_s eh2
  subst rh2
  refine r_putf X dX11_init_30 fw_X11_23 ch2 lh2 rfl rfl ?_
  refine r_aload_n X dX11_init_33 rfl ?_
  refine r_iconst X dX11_init_34 (v := 0) (by decide) ?_
  obtain ⟨h3, eh3, w⟩ := w
  obtain ⟨fh3, ch3, lh3, rh3⟩ := pF_s eh3
  subst rh3
  refine r_putf X dX11_init_35 fw_X11_26 ch3 lh3 rfl rfl ?_
  refine VB_wk (ls' := [some (.ref l0)]) ?_ w
  exact (And.intro rfl trivial)

set_option maxRecDepth 10000 in
theorem b_X11_init_38 {g : GG} {K : KX} {D mc ms : Nat} {Pr : Option Value → Hp → Prop} {Pt : String → Hp → Prop} {kc ks : Nat} (hg : GOK g) (hD : 8 ≤ D) (hk : kc ≤ mc ∧ ks ≤ ms) (X : CB g K cX11_init 1 yX11_init none []) (l0 : Nat) (h : Hp)
    (w : ((kc + 1 ≤ mc ∧ ks + 12 ≤ ms) ∧ (∃ d1 P1 m1 n1, CT g d1 yX9_init (wsC yX9_init cX9_init 1 none) [.ref ((h).length)] ((h ++ [.inr (9, [.int 0, .int 0, .int 0, .int 0, .int 0, .null, .null, .null, .null, .null, .int 0, .null])])) m1 n1 P1 noT ∧ (d1 + 1 ≤ D ∧ (kc + 1) + m1 ≤ mc ∧ (ks + 12) + n1 ≤ ms) ∧ (∀ v h1, P1 v h1 → v = none ∧ (∃ h3, pF h1 l0 10 6 (.ref ((h).length)) = some h3 ∧ ((((kc + 1) + m1) + 1 ≤ mc ∧ ((ks + 12) + n1) + 12 ≤ ms) ∧ (∃ d4 P4 m4 n4, CT g d4 yX9_init (wsC yX9_init cX9_init 1 none) [.ref ((h3).length)] ((h3 ++ [.inr (9, [.int 0, .int 0, .int 0, .int 0, .int 0, .null, .null, .null, .null, .null, .int 0, .null])])) m4 n4 P4 noT ∧ (d4 + 1 ≤ D ∧ (((kc + 1) + m1) + 1) + m4 ≤ mc ∧ (((ks + 12) + n1) + 12) + n4 ≤ ms) ∧ (∀ v h4, P4 v h4 → v = none ∧ (∃ h6, pF h4 l0 10 7 (.ref ((h3).length)) = some h6 ∧ ((((((kc + 1) + m1) + 1) + m4) + 1 ≤ mc ∧ ((((ks + 12) + n1) + 12) + n4) + 3 ≤ ms) ∧ (∃ d7 P7 m7 n7, CT g d7 yX3_init (wsC yX3_init cX3_init 1 none) [.ref ((h6).length)] ((h6 ++ [.inr (3, [.null, .null, .null])])) m7 n7 P7 noT ∧ (d7 + 1 ≤ D ∧ (((((kc + 1) + m1) + 1) + m4) + 1) + m7 ≤ mc ∧ (((((ks + 12) + n1) + 12) + n4) + 3) + n7 ≤ ms) ∧ (∀ v h7, P7 v h7 → v = none ∧ (∃ h9, pF h7 l0 10 8 (.ref ((h6).length)) = some h9 ∧ VB g K 1 D mc ms Pr Pt (((((((kc + 1) + m1) + 1) + m4) + 1) + m7)) (((((((ks + 12) + n1) + 12) + n4) + 3) + n7)) 71 [some (.ref l0)] [] h9))))))))))))) : VB g K 1 D mc ms Pr Pt kc ks 38 [some (.ref l0)] [] h := by
  obtain ⟨p, e, s, m, args, below, meth, c⟩ := K
  have X : CX g p s m args meth c cX11_init 1 yX11_init none [] := X
  have hz := hg s X.gk.z
  show VV g p e (rmm D mc ms) s m args below meth c 1 (QQ g below args s mc ms Pr Pt) kc ks 38 [some (.ref l0)] [] h
  refine r_aload_n X dX11_init_38 rfl ?_
  obtain ⟨q1, w⟩ := w
  refine r_new X dX11_init_39 ci_X9 nc_X11_29 (fs := [.int 0, .int 0, .int 0, .int 0, .int 0, .null, .null, .null, .null, .null, .int 0, .null]) rfl q1.1 q1.2 ?_
  have hk : (kc + 1) ≤ mc ∧ (ks + 12) ≤ ms := q1
  refine r_dup X dX11_init_42 rfl ?_
  obtain ⟨d1, P1, m1, n1, ct1, w⟩ := w
  obtain ⟨⟨x1, x2, x3⟩, w⟩ := w
  refine r_callIN X (As := []) dX11_init_43 mk_X9_init im_X9_init (hz.2.2.1 (.methodLinkNest RX11 31 yX9_init "HorizonSeam") (by decide +kernel)) rfl rfl rfl (by simp [Value.category]) ⟨x1, by show 60 * (d1 + 1) + 200 ≤ 60 * D + 200; omega⟩ ⟨x2, x3⟩ ct1 (fun v h1 w1 => ?_)
  have w := w v h1 w1
  have hk : (kc + 1) + m1 ≤ mc ∧ (ks + 12) + n1 ≤ ms := ⟨x2, x3⟩
  obtain ⟨rfl, w⟩ := w
  obtain ⟨h3, eh3, w⟩ := w
  obtain ⟨fh3, ch3, lh3, rh3⟩ := pF_s eh3
  subst rh3
  refine r_putf X dX11_init_46 fw_X11_32 ch3 lh3 rfl rfl ?_
  refine r_aload_n X dX11_init_49 rfl ?_
  obtain ⟨q4, w⟩ := w
  refine r_new X dX11_init_50 ci_X9 nc_X11_29 (fs := [.int 0, .int 0, .int 0, .int 0, .int 0, .null, .null, .null, .null, .null, .int 0, .null]) rfl q4.1 q4.2 ?_
  have hk : (((kc + 1) + m1) + 1) ≤ mc ∧ (((ks + 12) + n1) + 12) ≤ ms := q4
  refine r_dup X dX11_init_53 rfl ?_
  obtain ⟨d4, P4, m4, n4, ct4, w⟩ := w
  obtain ⟨⟨x1, x2, x3⟩, w⟩ := w
  refine r_callIN X (As := []) dX11_init_54 mk_X9_init im_X9_init (hz.2.2.1 (.methodLinkNest RX11 31 yX9_init "HorizonSeam") (by decide +kernel)) rfl rfl rfl (by simp [Value.category]) ⟨x1, by show 60 * (d4 + 1) + 200 ≤ 60 * D + 200; omega⟩ ⟨x2, x3⟩ ct4 (fun v h4 w1 => ?_)
  have w := w v h4 w1
  have hk : (((kc + 1) + m1) + 1) + m4 ≤ mc ∧ (((ks + 12) + n1) + 12) + n4 ≤ ms := ⟨x2, x3⟩
  obtain ⟨rfl, w⟩ := w
  obtain ⟨h6, eh6, w⟩ := w
  obtain ⟨fh6, ch6, lh6, rh6⟩ := pF_s eh6
  subst rh6
  refine r_putf X dX11_init_57 fw_X11_36 ch6 lh6 rfl rfl ?_
  refine r_aload_n X dX11_init_60 rfl ?_
  obtain ⟨q7, w⟩ := w
  refine r_new X dX11_init_61 ci_X3 nc_X11_39 (fs := [.null, .null, .null]) rfl q7.1 q7.2 ?_
  have hk : (((((kc + 1) + m1) + 1) + m4) + 1) ≤ mc ∧ (((((ks + 12) + n1) + 12) + n4) + 3) ≤ ms := q7
  refine r_dup X dX11_init_64 rfl ?_
  obtain ⟨d7, P7, m7, n7, ct7, w⟩ := w
  obtain ⟨⟨x1, x2, x3⟩, w⟩ := w
  refine r_callIN X (As := []) dX11_init_65 mk_X3_init im_X3_init (hz.2.2.1 (.methodLinkNest RX11 41 yX3_init "HorizonSeam") (by decide +kernel)) rfl rfl rfl (by simp [Value.category]) ⟨x1, by show 60 * (d7 + 1) + 200 ≤ 60 * D + 200; omega⟩ ⟨x2, x3⟩ ct7 (fun v h7 w1 => ?_)
  have w := w v h7 w1
  have hk : (((((kc + 1) + m1) + 1) + m4) + 1) + m7 ≤ mc ∧ (((((ks + 12) + n1) + 12) + n4) + 3) + n7 ≤ ms := ⟨x2, x3⟩
  obtain ⟨rfl, w⟩ := w
  obtain ⟨h9, eh9, w⟩ := w
  obtain ⟨fh9, ch9, lh9, rh9⟩ := pF_s eh9
  subst rh9
  refine r_putF X dX11_init_68 fw_X11_42 rfl ch9 lh9 rfl rfl ?_
  refine VB_wk (ls' := [some (.ref l0)]) ?_ w
  exact (And.intro rfl trivial)

set_option maxRecDepth 10000 in
theorem b_X11_init_71 {g : GG} {K : KX} {D mc ms : Nat} {Pr : Option Value → Hp → Prop} {Pt : String → Hp → Prop} {kc ks : Nat} (hg : GOK g) (hD : 8 ≤ D) (hk : kc ≤ mc ∧ ks ≤ ms) (X : CB g K cX11_init 1 yX11_init none []) (l0 : Nat) (h : Hp)
    (w : ((kc + 1 ≤ mc ∧ ks + 3 ≤ ms) ∧ (∃ d1 P1 m1 n1, CT g d1 yX3_init (wsC yX3_init cX3_init 1 none) [.ref ((h).length)] ((h ++ [.inr (3, [.null, .null, .null])])) m1 n1 P1 noT ∧ (d1 + 1 ≤ D ∧ (kc + 1) + m1 ≤ mc ∧ (ks + 3) + n1 ≤ ms) ∧ (∀ v h1, P1 v h1 → v = none ∧ (∃ h3, pF h1 l0 10 9 (.ref ((h).length)) = some h3 ∧ (isB ((0 : Int32)) ∧ (∃ h4, pF h3 l0 10 10 (.int ((0 : Int32))) = some h4 ∧ ((((kc + 1) + m1) + 1 ≤ mc ∧ ((ks + 3) + n1) + 7 ≤ ms) ∧ (∃ d5 P5 m5 n5, CT g d5 yX2_init (wsC yX2_init cX2_init 1 none) [.ref ((h4).length)] ((h4 ++ [.inr (2, [.int 0, .null, .null, .null, .null, .null, .null])])) m5 n5 P5 noT ∧ (d5 + 1 ≤ D ∧ (((kc + 1) + m1) + 1) + m5 ≤ mc ∧ (((ks + 3) + n1) + 7) + n5 ≤ ms) ∧ (∀ v h5, P5 v h5 → v = none ∧ (∃ h7, pF h5 l0 10 11 (.ref ((h4).length)) = some h7 ∧ VB g K 1 D mc ms Pr Pt (((((kc + 1) + m1) + 1) + m5)) (((((ks + 3) + n1) + 7) + n5)) 98 [some (.ref l0)] [] h7))))))))))) : VB g K 1 D mc ms Pr Pt kc ks 71 [some (.ref l0)] [] h := by
  obtain ⟨p, e, s, m, args, below, meth, c⟩ := K
  have X : CX g p s m args meth c cX11_init 1 yX11_init none [] := X
  have hz := hg s X.gk.z
  show VV g p e (rmm D mc ms) s m args below meth c 1 (QQ g below args s mc ms Pr Pt) kc ks 71 [some (.ref l0)] [] h
  refine r_aload_n X dX11_init_71 rfl ?_
  obtain ⟨q1, w⟩ := w
  refine r_new X dX11_init_72 ci_X3 nc_X11_39 (fs := [.null, .null, .null]) rfl q1.1 q1.2 ?_
  have hk : (kc + 1) ≤ mc ∧ (ks + 3) ≤ ms := q1
  refine r_dup X dX11_init_75 rfl ?_
  obtain ⟨d1, P1, m1, n1, ct1, w⟩ := w
  obtain ⟨⟨x1, x2, x3⟩, w⟩ := w
  refine r_callIN X (As := []) dX11_init_76 mk_X3_init im_X3_init (hz.2.2.1 (.methodLinkNest RX11 41 yX3_init "HorizonSeam") (by decide +kernel)) rfl rfl rfl (by simp [Value.category]) ⟨x1, by show 60 * (d1 + 1) + 200 ≤ 60 * D + 200; omega⟩ ⟨x2, x3⟩ ct1 (fun v h1 w1 => ?_)
  have w := w v h1 w1
  have hk : (kc + 1) + m1 ≤ mc ∧ (ks + 3) + n1 ≤ ms := ⟨x2, x3⟩
  obtain ⟨rfl, w⟩ := w
  obtain ⟨h3, eh3, w⟩ := w
  obtain ⟨fh3, ch3, lh3, rh3⟩ := pF_s eh3
  subst rh3
  refine r_putF X dX11_init_79 fw_X11_46 rfl ch3 lh3 rfl rfl ?_
  refine r_aload_n X dX11_init_82 rfl ?_
  refine r_iconst X dX11_init_83 (v := 0) (by decide) ?_
  obtain ⟨bh4, w⟩ := w
  obtain ⟨h4, eh4, w⟩ := w
  obtain ⟨fh4, ch4, lh4, rh4⟩ := pF_s eh4
  subst rh4
  refine r_putf X dX11_init_84 fw_X11_49 ch4 lh4 (isB_n bh4) (isB_f bh4) ?_
  refine r_aload_n X dX11_init_87 rfl ?_
  obtain ⟨q5, w⟩ := w
  refine r_new X dX11_init_88 ci_X2 nc_X11_53 (fs := [.int 0, .null, .null, .null, .null, .null, .null]) rfl q5.1 q5.2 ?_
  have hk : (((kc + 1) + m1) + 1) ≤ mc ∧ (((ks + 3) + n1) + 7) ≤ ms := q5
  refine r_dup X dX11_init_91 rfl ?_
  obtain ⟨d5, P5, m5, n5, ct5, w⟩ := w
  obtain ⟨⟨x1, x2, x3⟩, w⟩ := w
  refine r_callIN X (As := []) dX11_init_92 mk_X2_init im_X2_init (hz.2.2.1 (.methodLinkNest RX11 55 yX2_init "HorizonSeam") (by decide +kernel)) rfl rfl rfl (by simp [Value.category]) ⟨x1, by show 60 * (d5 + 1) + 200 ≤ 60 * D + 200; omega⟩ ⟨x2, x3⟩ ct5 (fun v h5 w1 => ?_)
  have w := w v h5 w1
  have hk : (((kc + 1) + m1) + 1) + m5 ≤ mc ∧ (((ks + 3) + n1) + 7) + n5 ≤ ms := ⟨x2, x3⟩
  obtain ⟨rfl, w⟩ := w
  obtain ⟨h7, eh7, w⟩ := w
  obtain ⟨fh7, ch7, lh7, rh7⟩ := pF_s eh7
  subst rh7
  refine r_putF X dX11_init_95 fw_X11_56 rfl ch7 lh7 rfl rfl ?_
  refine VB_wk (ls' := [some (.ref l0)]) ?_ w
  exact (And.intro rfl trivial)

set_option maxRecDepth 10000 in
theorem b_X11_init_98 {g : GG} {K : KX} {D mc ms : Nat} {Pr : Option Value → Hp → Prop} {Pt : String → Hp → Prop} {kc ks : Nat} (hg : GOK g) (hD : 8 ≤ D) (hk : kc ≤ mc ∧ ks ≤ ms) (X : CB g K cX11_init 1 yX11_init none []) (l0 : Nat) (h : Hp)
    (w : ((kc + 1 ≤ mc ∧ ks + 7 ≤ ms) ∧ (∃ d1 P1 m1 n1, CT g d1 yX2_init (wsC yX2_init cX2_init 1 none) [.ref ((h).length)] ((h ++ [.inr (2, [.int 0, .null, .null, .null, .null, .null, .null])])) m1 n1 P1 noT ∧ (d1 + 1 ≤ D ∧ (kc + 1) + m1 ≤ mc ∧ (ks + 7) + n1 ≤ ms) ∧ (∀ v h1, P1 v h1 → v = none ∧ (∃ h3, pF h1 l0 10 12 (.ref ((h).length)) = some h3 ∧ ((((kc + 1) + m1) + 1 ≤ mc ∧ ((ks + 7) + n1) + 6 ≤ ms) ∧ (∃ d4 P4 m4 n4, CT g d4 yX0_init (wsC yX0_init cX0_init 1 none) [.ref ((h3).length)] ((h3 ++ [.inr (0, [.int 0, .int 0, .null, .null, .null, .null])])) m4 n4 P4 noT ∧ (d4 + 1 ≤ D ∧ (((kc + 1) + m1) + 1) + m4 ≤ mc ∧ (((ks + 7) + n1) + 6) + n4 ≤ ms) ∧ (∀ v h4, P4 v h4 → v = none ∧ (∃ h6, pF h4 l0 10 13 (.ref ((h3).length)) = some h6 ∧ (∃ h7, pF h6 l0 10 14 (.int ((0 : Int32))) = some h7 ∧ VB g K 1 D mc ms Pr Pt (((((kc + 1) + m1) + 1) + m4)) (((((ks + 7) + n1) + 6) + n4)) 125 [some (.ref l0)] [] h7)))))))))) : VB g K 1 D mc ms Pr Pt kc ks 98 [some (.ref l0)] [] h := by
  obtain ⟨p, e, s, m, args, below, meth, c⟩ := K
  have X : CX g p s m args meth c cX11_init 1 yX11_init none [] := X
  have hz := hg s X.gk.z
  show VV g p e (rmm D mc ms) s m args below meth c 1 (QQ g below args s mc ms Pr Pt) kc ks 98 [some (.ref l0)] [] h
  refine r_aload_n X dX11_init_98 rfl ?_
  obtain ⟨q1, w⟩ := w
  refine r_new X dX11_init_99 ci_X2 nc_X11_53 (fs := [.int 0, .null, .null, .null, .null, .null, .null]) rfl q1.1 q1.2 ?_
  have hk : (kc + 1) ≤ mc ∧ (ks + 7) ≤ ms := q1
  refine r_dup X dX11_init_102 rfl ?_
  obtain ⟨d1, P1, m1, n1, ct1, w⟩ := w
  obtain ⟨⟨x1, x2, x3⟩, w⟩ := w
  refine r_callIN X (As := []) dX11_init_103 mk_X2_init im_X2_init (hz.2.2.1 (.methodLinkNest RX11 55 yX2_init "HorizonSeam") (by decide +kernel)) rfl rfl rfl (by simp [Value.category]) ⟨x1, by show 60 * (d1 + 1) + 200 ≤ 60 * D + 200; omega⟩ ⟨x2, x3⟩ ct1 (fun v h1 w1 => ?_)
  have w := w v h1 w1
  have hk : (kc + 1) + m1 ≤ mc ∧ (ks + 7) + n1 ≤ ms := ⟨x2, x3⟩
  obtain ⟨rfl, w⟩ := w
  obtain ⟨h3, eh3, w⟩ := w
  obtain ⟨fh3, ch3, lh3, rh3⟩ := pF_s eh3
  subst rh3
  refine r_putF X dX11_init_106 fw_X11_60 rfl ch3 lh3 rfl rfl ?_
  refine r_aload_n X dX11_init_109 rfl ?_
  obtain ⟨q4, w⟩ := w
  refine r_new X dX11_init_110 ci_X0 nc_X11_63 (fs := [.int 0, .int 0, .null, .null, .null, .null]) rfl q4.1 q4.2 ?_
  have hk : (((kc + 1) + m1) + 1) ≤ mc ∧ (((ks + 7) + n1) + 6) ≤ ms := q4
  refine r_dup X dX11_init_113 rfl ?_
  obtain ⟨d4, P4, m4, n4, ct4, w⟩ := w
  obtain ⟨⟨x1, x2, x3⟩, w⟩ := w
  refine r_callIN X (As := []) dX11_init_114 mk_X0_init im_X0_init (hz.2.2.1 (.methodLinkNest RX11 65 yX0_init "HorizonSeam") (by decide +kernel)) rfl rfl rfl (by simp [Value.category]) ⟨x1, by show 60 * (d4 + 1) + 200 ≤ 60 * D + 200; omega⟩ ⟨x2, x3⟩ ct4 (fun v h4 w1 => ?_)
  have w := w v h4 w1
  have hk : (((kc + 1) + m1) + 1) + m4 ≤ mc ∧ (((ks + 7) + n1) + 6) + n4 ≤ ms := ⟨x2, x3⟩
  obtain ⟨rfl, w⟩ := w
  obtain ⟨h6, eh6, w⟩ := w
  obtain ⟨fh6, ch6, lh6, rh6⟩ := pF_s eh6
  subst rh6
  refine r_putF X dX11_init_117 fw_X11_66 rfl ch6 lh6 rfl rfl ?_
  refine r_aload_n X dX11_init_120 rfl ?_
  refine r_iconst X dX11_init_121 (v := 0) (by decide) ?_
  obtain ⟨h7, eh7, w⟩ := w
  obtain ⟨fh7, ch7, lh7, rh7⟩ := pF_s eh7
  subst rh7
  refine r_putf X dX11_init_122 fw_X11_70 ch7 lh7 rfl rfl ?_
  refine VB_wk (ls' := [some (.ref l0)]) ?_ w
  exact (And.intro rfl trivial)

set_option maxRecDepth 10000 in
theorem b_X11_init_125 {g : GG} {K : KX} {D mc ms : Nat} {Pr : Option Value → Hp → Prop} {Pt : String → Hp → Prop} {kc ks : Nat} (hg : GOK g) (hD : 8 ≤ D) (hk : kc ≤ mc ∧ ks ≤ ms) (X : CB g K cX11_init 1 yX11_init none []) (l0 : Nat) (h : Hp)
    (w : ((kc + 1 ≤ mc ∧ ks + 3 ≤ ms) ∧ (∃ d1 P1 m1 n1, CT g d1 yX8_init (wsC yX8_init cX8_init 1 none) [.ref ((h).length)] ((h ++ [.inr (8, [.null, .null, .int 0])])) m1 n1 P1 noT ∧ (d1 + 1 ≤ D ∧ (kc + 1) + m1 ≤ mc ∧ (ks + 3) + n1 ≤ ms) ∧ (∀ v h1, P1 v h1 → v = none ∧ (∃ h3, pF h1 l0 10 15 (.ref ((h).length)) = some h3 ∧ ((((kc + 1) + m1) + 1 ≤ mc ∧ ((ks + 3) + n1) + 8 ≤ ms) ∧ (∃ h5, pF ((h3 ++ [arr0 0 8])) l0 10 16 (.ref ((h3).length)) = some h5 ∧ (∃ v6, gN h5 l0 10 6 = some v6 ∧ (∃ v7, gN h5 l0 10 8 = some v7 ∧ (∃ v8, gN h5 v7 3 0 = some v8 ∧ (∃ d8 P8 E8 m8 n8, CT g d8 yX11_fillUp (wsC yX11_fillUp cX11_fillUp 3 none) [.ref v6, .ref v8] h5 m8 n8 P8 E8 ∧ (d8 + 1 ≤ D ∧ (((kc + 1) + m1) + 1) + m8 ≤ mc ∧ (((ks + 3) + n1) + 8) + n8 ≤ ms) ∧ (∀ E h', E8 E h' → Pt E h') ∧ (∀ v h8, P8 v h8 → v = none ∧ Pr none h8)))))))))))) : VB g K 1 D mc ms Pr Pt kc ks 125 [some (.ref l0)] [] h := by
  obtain ⟨p, e, s, m, args, below, meth, c⟩ := K
  have X : CX g p s m args meth c cX11_init 1 yX11_init none [] := X
  have hz := hg s X.gk.z
  show VV g p e (rmm D mc ms) s m args below meth c 1 (QQ g below args s mc ms Pr Pt) kc ks 125 [some (.ref l0)] [] h
  refine r_aload_n X dX11_init_125 rfl ?_
  obtain ⟨q1, w⟩ := w
  refine r_new X dX11_init_126 ci_X8 nc_X11_73 (fs := [.null, .null, .int 0]) rfl q1.1 q1.2 ?_
  have hk : (kc + 1) ≤ mc ∧ (ks + 3) ≤ ms := q1
  refine r_dup X dX11_init_129 rfl ?_
  obtain ⟨d1, P1, m1, n1, ct1, w⟩ := w
  obtain ⟨⟨x1, x2, x3⟩, w⟩ := w
  refine r_callIN X (As := []) dX11_init_130 mk_X8_init im_X8_init (hz.2.2.1 (.methodLinkNest RX11 75 yX8_init "HorizonSeam") (by decide +kernel)) rfl rfl rfl (by simp [Value.category]) ⟨x1, by show 60 * (d1 + 1) + 200 ≤ 60 * D + 200; omega⟩ ⟨x2, x3⟩ ct1 (fun v h1 w1 => ?_)
  have w := w v h1 w1
  have hk : (kc + 1) + m1 ≤ mc ∧ (ks + 3) + n1 ≤ ms := ⟨x2, x3⟩
  obtain ⟨rfl, w⟩ := w
  obtain ⟨h3, eh3, w⟩ := w
  obtain ⟨fh3, ch3, lh3, rh3⟩ := pF_s eh3
  subst rh3
  refine r_putF X dX11_init_133 fw_X11_76 rfl ch3 lh3 rfl rfl ?_
  refine r_aload_n X dX11_init_136 rfl ?_
  refine r_bipush X dX11_init_137 (v := 8) (by decide) ?_
  obtain ⟨q4, w⟩ := w
  refine r_newa X dX11_init_139 (t := 0) (N := 8) (by decide) rfl ar_int (by decide) (by decide) (by decide) q4.1 q4.2 ?_
  have hk : (((kc + 1) + m1) + 1) ≤ mc ∧ (((ks + 3) + n1) + 8) ≤ ms := q4
  obtain ⟨h5, eh5, w⟩ := w
  obtain ⟨fh5, ch5, lh5, rh5⟩ := pF_s eh5
  subst rh5
  refine r_putF X dX11_init_141 fw_X11_80 rfl ch5 lh5 rfl rfl ?_
  refine r_aload_n X dX11_init_144 rfl ?_
  obtain ⟨v6, ev6, w⟩ := w
  obtain ⟨fv6, cv6, qv6⟩ := gN_s ev6
  refine r_getf X dX11_init_145 fl_X11_32 cv6 qv6 ?_
  refine r_aload_n X dX11_init_148 rfl ?_
  obtain ⟨v7, ev7, w⟩ := w
  obtain ⟨fv7, cv7, qv7⟩ := gN_s ev7
  refine r_getf X dX11_init_149 fl_X11_42 cv7 qv7 ?_
  obtain ⟨v8, ev8, w⟩ := w
  obtain ⟨fv8, cv8, qv8⟩ := gN_s ev8
  refine r_getf X dX11_init_152 fl_X11_84 cv8 qv8 ?_
  obtain ⟨d8, P8, E8, m8, n8, ct8, w⟩ := w
  obtain ⟨⟨x1, x2, x3⟩, w⟩ := w
  obtain ⟨x4, w⟩ := w
  refine r_callS X (As := [.ref v6, .ref v8]) dX11_init_155 mk_X11_fillUp ⟨ml_X11_87, sm_X11_fillUp⟩ rfl rfl (by simp [Value.category]) ⟨x1, by show 60 * (d8 + 1) + 200 ≤ 60 * D + 200; omega⟩ ⟨x2, x3⟩ ct8 x4 (fun _ z => nomatch z) (fun _ => ⟨x2, x3⟩) (fun v h8 w1 => ?_)
  have w := w v h8 w1
  have hk : (((kc + 1) + m1) + 1) + m8 ≤ mc ∧ (((ks + 3) + n1) + 8) + n8 ≤ ms := ⟨x2, x3⟩
  obtain ⟨rfl, w⟩ := w
  exact r_vret X dX11_init_158 rfl w hk.1 hk.2

set_option maxRecDepth 10000 in
theorem b_X11_isStretch_0 {g : GG} {K : KX} {D mc ms : Nat} {Pr : Option Value → Hp → Prop} {Pt : String → Hp → Prop} {kc ks : Nat} (hg : GOK g) (hD : 8 ≤ D) (hk : kc ≤ mc ∧ ks ≤ ms) (X : CB g K cX11_isStretch 2 yX11_isStretch (some (.boolean)) []) (l0 : Nat) (l1 : Int32) (h : Hp)
    (w : ((l1 < 0 → (isB ((0 : Int32)) ∧ Pr (some (.int ((0 : Int32)))) h)) ∧ (¬ l1 < 0 → (∃ v1, gN h l0 10 6 = some v1 ∧ (∃ v2, gI h v1 9 0 = some v2 ∧ ((v2 ≤ l1 → (isB ((0 : Int32)) ∧ Pr (some (.int ((0 : Int32)))) h)) ∧ (¬ v2 ≤ l1 → (isB ((1 : Int32)) ∧ Pr (some (.int ((1 : Int32)))) h)))))))) : VB g K 2 D mc ms Pr Pt kc ks 0 [some (.ref l0), some (.int l1)] [] h := by
  obtain ⟨p, e, s, m, args, below, meth, c⟩ := K
  have X : CX g p s m args meth c cX11_isStretch 2 yX11_isStretch (some (.boolean)) [] := X
  have hz := hg s X.gk.z
  show VV g p e (rmm D mc ms) s m args below meth c 2 (QQ g below args s mc ms Pr Pt) kc ks 0 [some (.ref l0), some (.int l1)] [] h
  refine r_iload_n X dX11_isStretch_0 rfl ?_
  refine r_if_lt X dX11_isStretch_1 (tgt := 19) (by decide) (fun q => ?_) (fun q => ?_)
  · have w := w.1 q
    refine r_iconst X dX11_isStretch_19 (v := 0) (by decide) ?_
    exact r_zret X dX11_isStretch_20 rfl (isB_n w.1) w.2 hk.1 hk.2
  · have w := w.2 q
    refine r_iload_n X dX11_isStretch_4 rfl ?_
    refine r_aload_n X dX11_isStretch_5 rfl ?_
    obtain ⟨v1, ev1, w⟩ := w
    obtain ⟨fv1, cv1, qv1⟩ := gN_s ev1
    refine r_getf X dX11_isStretch_6 fl_X11_32 cv1 qv1 ?_
    obtain ⟨v2, ev2, w⟩ := w
    obtain ⟨fv2, cv2, qv2⟩ := gI_s ev2
    refine r_getf X dX11_isStretch_9 fl_X11_141 cv2 qv2 ?_
    refine r_icmp_ge X dX11_isStretch_12 (tgt := 19) (by decide) (fun q => ?_) (fun q => ?_)
    · have w := w.1 q
      refine r_iconst X dX11_isStretch_19 (v := 0) (by decide) ?_
      exact r_zret X dX11_isStretch_20 rfl (isB_n w.1) w.2 hk.1 hk.2
    · have w := w.2 q
      refine r_iconst X dX11_isStretch_15 (v := 1) (by decide) ?_
      refine r_goto X dX11_isStretch_16 (tgt := 20) (by decide) ?_
      exact r_zret X dX11_isStretch_20 rfl (isB_n w.1) w.2 hk.1 hk.2

set_option maxRecDepth 10000 in
theorem b_X11_later_0 {g : GG} {K : KX} {D mc ms : Nat} {Pr : Option Value → Hp → Prop} {Pt : String → Hp → Prop} {kc ks : Nat} (hg : GOK g) (hD : 8 ≤ D) (hk : kc ≤ mc ∧ ks ≤ ms) (X : CB g K cX11_later 3 yX11_later (some (.int)) []) (l0 : Nat) (l1 : Int32) (l2 : Int32) (h : Hp)
    (w : (∃ d0 P0 E0 m0 n0, CT g d0 yX11_needWhat (wsC yX11_needWhat cX11_needWhat 2 none) [.int l2, .int ((3 : Int32))] h m0 n0 P0 E0 ∧ (d0 + 1 ≤ D ∧ kc + m0 ≤ mc ∧ ks + n0 ≤ ms) ∧ (∀ E h', E0 E h' → Pt E h') ∧ (∀ v h0, P0 v h0 → v = none ∧ (∃ d1 P1 E1 m1 n1, CT g d1 yX11_needDays (wsC yX11_needDays cX11_needDays 2 none) [.int l1, .int ((0 : Int32))] h0 m1 n1 P1 E1 ∧ (d1 + 1 ≤ D ∧ (kc + m0) + m1 ≤ mc ∧ (ks + n0) + n1 ≤ ms) ∧ (∀ E h', E1 E h' → Pt E h') ∧ (∀ v h1, P1 v h1 → v = none ∧ (∃ fs2, oF h1 l0 10 = some fs2 ∧ (∃ d2 P2 E2 m2 n2, CT g d2 yX11_lookAhead (wsC yX11_lookAhead cX11_lookAhead 2 none) [.ref l0, .int l1] h1 m2 n2 P2 E2 ∧ (d2 + 1 ≤ D ∧ ((kc + m0) + m1) + m2 ≤ mc ∧ ((ks + n0) + n1) + n2 ≤ ms) ∧ (∀ E h', E2 E h' → Pt E h') ∧ (∀ v h2, P2 v h2 → v = none ∧ ((((l2).toInt < 0 ∨ 2 < (l2).toInt) → (∃ v4, gN h2 l0 10 8 = some v4 ∧ (∃ v5, gN h2 v4 3 0 = some v5 ∧ (∃ v6, gN h2 l0 10 6 = some v6 ∧ (∃ fs6, oF h2 v5 2 = some fs6 ∧ (∃ d6 P6 E6 m6 n6, CT g d6 yX2_threadOfAll (wsC yX2_threadOfAll cX2_threadOfAll 4 (some (.int))) [.ref v5, .ref v6] h2 m6 n6 P6 E6 ∧ (d6 + 1 ≤ D ∧ (((kc + m0) + m1) + m2) + m6 ≤ mc ∧ (((ks + n0) + n1) + n2) + n6 ≤ ms) ∧ (∀ E h', E6 E h' → Pt E h') ∧ (∀ v h6, P6 v h6 → ∃ v8, v = some (.int v8) ∧ (∃ v9, gN h6 l0 10 11 = some v9 ∧ (∃ v10, gN h6 l0 10 6 = some v10 ∧ (∃ fs10, oF h6 v9 2 = some fs10 ∧ (∃ d10 P10 E10 m10 n10, CT g d10 yX2_threadOfAll (wsC yX2_threadOfAll cX2_threadOfAll 4 (some (.int))) [.ref v9, .ref v10] h6 m10 n10 P10 E10 ∧ (d10 + 1 ≤ D ∧ ((((kc + m0) + m1) + m2) + m6) + m10 ≤ mc ∧ ((((ks + n0) + n1) + n2) + n6) + n10 ≤ ms) ∧ (∀ E h', E10 E h' → Pt E h') ∧ (∀ v h10, P10 v h10 → ∃ v12, v = some (.int v12) ∧ Pr (some (.int ((v8 - v12)))) h10)))))))))))) ∧ (((l2).toInt = 0 → (∃ v13, gN h2 l0 10 11 = some v13 ∧ (∃ v14, gN h2 l0 10 6 = some v14 ∧ (∃ fs14, oF h2 v13 2 = some fs14 ∧ (∃ d14 P14 E14 m14 n14, CT g d14 yX2_openBits (wsC yX2_openBits cX2_openBits 4 (some (.int))) [.ref v13, .ref v14] h2 m14 n14 P14 E14 ∧ (d14 + 1 ≤ D ∧ (((kc + m0) + m1) + m2) + m14 ≤ mc ∧ (((ks + n0) + n1) + n2) + n14 ≤ ms) ∧ (∀ E h', E14 E h' → Pt E h') ∧ (∀ v h14, P14 v h14 → ∃ v16, v = some (.int v16) ∧ Pr (some (.int v16)) h14)))))) ∧ (((l2).toInt = 1 → (∃ v17, gN h2 l0 10 11 = some v17 ∧ (∃ v18, gN h2 l0 10 6 = some v18 ∧ (∃ fs18, oF h2 v17 2 = some fs18 ∧ (∃ d18 P18 E18 m18 n18, CT g d18 yX2_tightest (wsC yX2_tightest cX2_tightest 4 (some (.int))) [.ref v17, .ref v18] h2 m18 n18 P18 E18 ∧ (d18 + 1 ≤ D ∧ (((kc + m0) + m1) + m2) + m18 ≤ mc ∧ (((ks + n0) + n1) + n2) + n18 ≤ ms) ∧ (∀ E h', E18 E h' → Pt E h') ∧ (∀ v h18, P18 v h18 → ∃ v20, v = some (.int v20) ∧ Pr (some (.int v20)) h18)))))) ∧ ((l2).toInt = 2 → (∃ v21, gN h2 l0 10 11 = some v21 ∧ (∃ v22, gN h2 l0 10 6 = some v22 ∧ (∃ fs22, oF h2 v21 2 = some fs22 ∧ (∃ d22 P22 E22 m22 n22, CT g d22 yX2_mostStrain (wsC yX2_mostStrain cX2_mostStrain 4 (some (.int))) [.ref v21, .ref v22] h2 m22 n22 P22 E22 ∧ (d22 + 1 ≤ D ∧ (((kc + m0) + m1) + m2) + m22 ≤ mc ∧ (((ks + n0) + n1) + n2) + n22 ≤ ms) ∧ (∀ E h', E22 E h' → Pt E h') ∧ (∀ v h22, P22 v h22 → ∃ v24, v = some (.int v24) ∧ (∃ v25, gN h22 l0 10 11 = some v25 ∧ (∃ v26, gN h22 l0 10 6 = some v26 ∧ (∃ fs26, oF h22 v25 2 = some fs26 ∧ (∃ d26 P26 E26 m26 n26, CT g d26 yX2_leastStrain (wsC yX2_leastStrain cX2_leastStrain 4 (some (.int))) [.ref v25, .ref v26] h22 m26 n26 P26 E26 ∧ (d26 + 1 ≤ D ∧ ((((kc + m0) + m1) + m2) + m22) + m26 ≤ mc ∧ ((((ks + n0) + n1) + n2) + n22) + n26 ≤ ms) ∧ (∀ E h', E26 E h' → Pt E h') ∧ (∀ v h26, P26 v h26 → ∃ v28, v = some (.int v28) ∧ Pr (some (.int ((v24 - v28)))) h26)))))))))))))))))))))) : VB g K 3 D mc ms Pr Pt kc ks 0 [some (.ref l0), some (.int l1), some (.int l2)] [] h := by
  obtain ⟨p, e, s, m, args, below, meth, c⟩ := K
  have X : CX g p s m args meth c cX11_later 3 yX11_later (some (.int)) [] := X
  have hz := hg s X.gk.z
  show VV g p e (rmm D mc ms) s m args below meth c 3 (QQ g below args s mc ms Pr Pt) kc ks 0 [some (.ref l0), some (.int l1), some (.int l2)] [] h
  refine r_iload_n X dX11_later_0 rfl ?_
  refine r_iconst X dX11_later_1 (v := 3) (by decide) ?_
  obtain ⟨d0, P0, E0, m0, n0, ct0, w⟩ := w
  obtain ⟨⟨x1, x2, x3⟩, w⟩ := w
  obtain ⟨x4, w⟩ := w
  refine r_callS X (As := [.int l2, .int ((3 : Int32))]) dX11_later_2 mk_X11_needWhat ⟨ml_X11_250, sm_X11_needWhat⟩ rfl rfl (by simp [Value.category]) ⟨x1, by show 60 * (d0 + 1) + 200 ≤ 60 * D + 200; omega⟩ ⟨x2, x3⟩ ct0 x4 (fun _ z => nomatch z) (fun _ => ⟨x2, x3⟩) (fun v h0 w1 => ?_)
  have w := w v h0 w1
  have hk : kc + m0 ≤ mc ∧ ks + n0 ≤ ms := ⟨x2, x3⟩
  obtain ⟨rfl, w⟩ := w
  refine r_iload_n X dX11_later_5 rfl ?_
  refine r_iconst X dX11_later_6 (v := 0) (by decide) ?_
  obtain ⟨d1, P1, E1, m1, n1, ct1, w⟩ := w
  obtain ⟨⟨x1, x2, x3⟩, w⟩ := w
  obtain ⟨x4, w⟩ := w
  refine r_callS X (As := [.int l1, .int ((0 : Int32))]) dX11_later_7 mk_X11_needDays ⟨ml_X11_253, sm_X11_needDays⟩ rfl rfl (by simp [Value.category]) ⟨x1, by show 60 * (d1 + 1) + 200 ≤ 60 * D + 200; omega⟩ ⟨x2, x3⟩ ct1 x4 (fun _ z => nomatch z) (fun _ => ⟨x2, x3⟩) (fun v h1 w1 => ?_)
  have w := w v h1 w1
  have hk : (kc + m0) + m1 ≤ mc ∧ (ks + n0) + n1 ≤ ms := ⟨x2, x3⟩
  obtain ⟨rfl, w⟩ := w
  refine r_aload_n X dX11_later_10 rfl ?_
  refine r_iload_n X dX11_later_11 rfl ?_
  obtain ⟨fs2, es2, w⟩ := w
  obtain ⟨d2, P2, E2, m2, n2, ct2, w⟩ := w
  obtain ⟨⟨x1, x2, x3⟩, w⟩ := w
  obtain ⟨x4, w⟩ := w
  refine r_callV X (As := [.int l1]) dX11_later_12 mk_X11_lookAhead ⟨ml_X11_256, im_X11_lookAhead, se_X11_lookAhead⟩ (oF_s es2) (ci_X11).1 rfl rfl rfl (by simp [Value.category]) ⟨x1, by show 60 * (d2 + 1) + 200 ≤ 60 * D + 200; omega⟩ ⟨x2, x3⟩ ct2 x4 (fun _ z => nomatch z) (fun _ => ⟨x2, x3⟩) (fun v h2 w1 => ?_)
  have w := w v h2 w1
  have hk : ((kc + m0) + m1) + m2 ≤ mc ∧ ((ks + n0) + n1) + n2 ≤ ms := ⟨x2, x3⟩
  obtain ⟨rfl, w⟩ := w
  refine r_iload_n X dX11_later_15 rfl ?_
  refine r_table X dX11_later_16 (tgt := 92) (fun k => [44, 56, 68].getD k 0) (fun _ => by decide) (fun k y1 y2 y3 => ?_) (fun q => ?_) (fun k y1 y2 y3 => ?_)
  · rcases (by omega : k = 0 ∨ k = 1 ∨ k = 2) with rfl | rfl | rfl <;> exact ⟨_, rfl, by decide⟩
  · have w := w.1 q
    refine r_aload_n X dX11_later_92 rfl ?_
    obtain ⟨v4, ev4, w⟩ := w
    obtain ⟨fv4, cv4, qv4⟩ := gN_s ev4
    refine r_getf X dX11_later_93 fl_X11_42 cv4 qv4 ?_
    obtain ⟨v5, ev5, w⟩ := w
    obtain ⟨fv5, cv5, qv5⟩ := gN_s ev5
    refine r_getf X dX11_later_96 fl_X11_84 cv5 qv5 ?_
    refine r_aload_n X dX11_later_99 rfl ?_
    obtain ⟨v6, ev6, w⟩ := w
    obtain ⟨fv6, cv6, qv6⟩ := gN_s ev6
    refine r_getf X dX11_later_100 fl_X11_32 cv6 qv6 ?_
    obtain ⟨fs6, es6, w⟩ := w
    obtain ⟨d6, P6, E6, m6, n6, ct6, w⟩ := w
    obtain ⟨⟨x1, x2, x3⟩, w⟩ := w
    obtain ⟨x4, w⟩ := w
    refine r_callV X (As := [.ref v6]) dX11_later_103 mk_X2_threadOfAll ⟨ml_X11_166, im_X2_threadOfAll, se_X2_threadOfAll⟩ (oF_s es6) (ci_X2).1 rfl rfl rfl (by simp [Value.category]) ⟨x1, by show 60 * (d6 + 1) + 200 ≤ 60 * D + 200; omega⟩ ⟨x2, x3⟩ ct6 x4 (fun _ z => nomatch z) (fun _ => ⟨x2, x3⟩) (fun v h6 w1 => ?_)
    have w := w v h6 w1
    have hk : (((kc + m0) + m1) + m2) + m6 ≤ mc ∧ (((ks + n0) + n1) + n2) + n6 ≤ ms := ⟨x2, x3⟩
    obtain ⟨v8, rfl, w⟩ := w
    refine r_aload_n X dX11_later_106 rfl ?_
    obtain ⟨v9, ev9, w⟩ := w
    obtain ⟨fv9, cv9, qv9⟩ := gN_s ev9
    refine r_getf X dX11_later_107 fl_X11_56 cv9 qv9 ?_
    refine r_aload_n X dX11_later_110 rfl ?_
    obtain ⟨v10, ev10, w⟩ := w
    obtain ⟨fv10, cv10, qv10⟩ := gN_s ev10
    refine r_getf X dX11_later_111 fl_X11_32 cv10 qv10 ?_
    obtain ⟨fs10, es10, w⟩ := w
    obtain ⟨d10, P10, E10, m10, n10, ct10, w⟩ := w
    obtain ⟨⟨x1, x2, x3⟩, w⟩ := w
    obtain ⟨x4, w⟩ := w
    refine r_callV X (As := [.ref v10]) dX11_later_114 mk_X2_threadOfAll ⟨ml_X11_166, im_X2_threadOfAll, se_X2_threadOfAll⟩ (oF_s es10) (ci_X2).1 rfl rfl rfl (by simp [Value.category]) ⟨x1, by show 60 * (d10 + 1) + 200 ≤ 60 * D + 200; omega⟩ ⟨x2, x3⟩ ct10 x4 (fun _ z => nomatch z) (fun _ => ⟨x2, x3⟩) (fun v h10 w1 => ?_)
    have w := w v h10 w1
    have hk : ((((kc + m0) + m1) + m2) + m6) + m10 ≤ mc ∧ ((((ks + n0) + n1) + n2) + n6) + n10 ≤ ms := ⟨x2, x3⟩
    obtain ⟨v12, rfl, w⟩ := w
    refine r_isub X dX11_later_117 ?_
    exact r_iret X dX11_later_118 rfl w hk.1 hk.2
  · rcases (by omega : k = 0 ∨ k = 1 ∨ k = 2) with rfl | rfl | rfl
    · have w := w.2.1 (by omega)
      refine r_aload_n X dX11_later_44 rfl ?_
      obtain ⟨v13, ev13, w⟩ := w
      obtain ⟨fv13, cv13, qv13⟩ := gN_s ev13
      refine r_getf X dX11_later_45 fl_X11_56 cv13 qv13 ?_
      refine r_aload_n X dX11_later_48 rfl ?_
      obtain ⟨v14, ev14, w⟩ := w
      obtain ⟨fv14, cv14, qv14⟩ := gN_s ev14
      refine r_getf X dX11_later_49 fl_X11_32 cv14 qv14 ?_
      obtain ⟨fs14, es14, w⟩ := w
      obtain ⟨d14, P14, E14, m14, n14, ct14, w⟩ := w
      obtain ⟨⟨x1, x2, x3⟩, w⟩ := w
      obtain ⟨x4, w⟩ := w
      refine r_callV X (As := [.ref v14]) dX11_later_52 mk_X2_openBits ⟨ml_X11_159, im_X2_openBits, se_X2_openBits⟩ (oF_s es14) (ci_X2).1 rfl rfl rfl (by simp [Value.category]) ⟨x1, by show 60 * (d14 + 1) + 200 ≤ 60 * D + 200; omega⟩ ⟨x2, x3⟩ ct14 x4 (fun _ z => nomatch z) (fun _ => ⟨x2, x3⟩) (fun v h14 w1 => ?_)
      have w := w v h14 w1
      have hk : (((kc + m0) + m1) + m2) + m14 ≤ mc ∧ (((ks + n0) + n1) + n2) + n14 ≤ ms := ⟨x2, x3⟩
      obtain ⟨v16, rfl, w⟩ := w
      exact r_iret X dX11_later_55 rfl w hk.1 hk.2
    · have w := w.2.2.1 (by omega)
      refine r_aload_n X dX11_later_56 rfl ?_
      obtain ⟨v17, ev17, w⟩ := w
      obtain ⟨fv17, cv17, qv17⟩ := gN_s ev17
      refine r_getf X dX11_later_57 fl_X11_56 cv17 qv17 ?_
      refine r_aload_n X dX11_later_60 rfl ?_
      obtain ⟨v18, ev18, w⟩ := w
      obtain ⟨fv18, cv18, qv18⟩ := gN_s ev18
      refine r_getf X dX11_later_61 fl_X11_32 cv18 qv18 ?_
      obtain ⟨fs18, es18, w⟩ := w
      obtain ⟨d18, P18, E18, m18, n18, ct18, w⟩ := w
      obtain ⟨⟨x1, x2, x3⟩, w⟩ := w
      obtain ⟨x4, w⟩ := w
      refine r_callV X (As := [.ref v18]) dX11_later_64 mk_X2_tightest ⟨ml_X11_259, im_X2_tightest, se_X2_tightest⟩ (oF_s es18) (ci_X2).1 rfl rfl rfl (by simp [Value.category]) ⟨x1, by show 60 * (d18 + 1) + 200 ≤ 60 * D + 200; omega⟩ ⟨x2, x3⟩ ct18 x4 (fun _ z => nomatch z) (fun _ => ⟨x2, x3⟩) (fun v h18 w1 => ?_)
      have w := w v h18 w1
      have hk : (((kc + m0) + m1) + m2) + m18 ≤ mc ∧ (((ks + n0) + n1) + n2) + n18 ≤ ms := ⟨x2, x3⟩
      obtain ⟨v20, rfl, w⟩ := w
      exact r_iret X dX11_later_67 rfl w hk.1 hk.2
    · have w := w.2.2.2 (by omega)
      refine r_aload_n X dX11_later_68 rfl ?_
      obtain ⟨v21, ev21, w⟩ := w
      obtain ⟨fv21, cv21, qv21⟩ := gN_s ev21
      refine r_getf X dX11_later_69 fl_X11_56 cv21 qv21 ?_
      refine r_aload_n X dX11_later_72 rfl ?_
      obtain ⟨v22, ev22, w⟩ := w
      obtain ⟨fv22, cv22, qv22⟩ := gN_s ev22
      refine r_getf X dX11_later_73 fl_X11_32 cv22 qv22 ?_
      obtain ⟨fs22, es22, w⟩ := w
      obtain ⟨d22, P22, E22, m22, n22, ct22, w⟩ := w
      obtain ⟨⟨x1, x2, x3⟩, w⟩ := w
      obtain ⟨x4, w⟩ := w
      refine r_callV X (As := [.ref v22]) dX11_later_76 mk_X2_mostStrain ⟨ml_X11_262, im_X2_mostStrain, se_X2_mostStrain⟩ (oF_s es22) (ci_X2).1 rfl rfl rfl (by simp [Value.category]) ⟨x1, by show 60 * (d22 + 1) + 200 ≤ 60 * D + 200; omega⟩ ⟨x2, x3⟩ ct22 x4 (fun _ z => nomatch z) (fun _ => ⟨x2, x3⟩) (fun v h22 w1 => ?_)
      have w := w v h22 w1
      have hk : (((kc + m0) + m1) + m2) + m22 ≤ mc ∧ (((ks + n0) + n1) + n2) + n22 ≤ ms := ⟨x2, x3⟩
      obtain ⟨v24, rfl, w⟩ := w
      refine r_aload_n X dX11_later_79 rfl ?_
      obtain ⟨v25, ev25, w⟩ := w
      obtain ⟨fv25, cv25, qv25⟩ := gN_s ev25
      refine r_getf X dX11_later_80 fl_X11_56 cv25 qv25 ?_
      refine r_aload_n X dX11_later_83 rfl ?_
      obtain ⟨v26, ev26, w⟩ := w
      obtain ⟨fv26, cv26, qv26⟩ := gN_s ev26
      refine r_getf X dX11_later_84 fl_X11_32 cv26 qv26 ?_
      obtain ⟨fs26, es26, w⟩ := w
      obtain ⟨d26, P26, E26, m26, n26, ct26, w⟩ := w
      obtain ⟨⟨x1, x2, x3⟩, w⟩ := w
      obtain ⟨x4, w⟩ := w
      refine r_callV X (As := [.ref v26]) dX11_later_87 mk_X2_leastStrain ⟨ml_X11_265, im_X2_leastStrain, se_X2_leastStrain⟩ (oF_s es26) (ci_X2).1 rfl rfl rfl (by simp [Value.category]) ⟨x1, by show 60 * (d26 + 1) + 200 ≤ 60 * D + 200; omega⟩ ⟨x2, x3⟩ ct26 x4 (fun _ z => nomatch z) (fun _ => ⟨x2, x3⟩) (fun v h26 w1 => ?_)
      have w := w v h26 w1
      have hk : ((((kc + m0) + m1) + m2) + m22) + m26 ≤ mc ∧ ((((ks + n0) + n1) + n2) + n22) + n26 ≤ ms := ⟨x2, x3⟩
      obtain ⟨v28, rfl, w⟩ := w
      refine r_isub X dX11_later_90 ?_
      exact r_iret X dX11_later_91 rfl w hk.1 hk.2

set_option maxRecDepth 10000 in
theorem b_X11_leastBit_0 {g : GG} {K : KX} {D mc ms : Nat} {Pr : Option Value → Hp → Prop} {Pt : String → Hp → Prop} {kc ks : Nat} (hg : GOK g) (hD : 8 ≤ D) (hk : kc ≤ mc ∧ ks ≤ ms) (X : CB g K cX11_leastBit 2 yX11_leastBit (some (.int)) []) (l0 : Int32) (h : Hp)
    (w : VB g K 2 D mc ms Pr Pt kc ks 2 [some (.int l0), some (.int ((0 : Int32)))] [] h) : VB g K 2 D mc ms Pr Pt kc ks 0 [some (.int l0), none] [] h := by
  obtain ⟨p, e, s, m, args, below, meth, c⟩ := K
  have X : CX g p s m args meth c cX11_leastBit 2 yX11_leastBit (some (.int)) [] := X
  have hz := hg s X.gk.z
  show VV g p e (rmm D mc ms) s m args below meth c 2 (QQ g below args s mc ms Pr Pt) kc ks 0 [some (.int l0), none] [] h
  refine r_iconst X dX11_leastBit_0 (v := 0) (by decide) ?_
  refine r_istore_n X dX11_leastBit_1 (by decide) rfl ?_
  refine VB_wk (ls' := [some (.int l0), some (.int ((0 : Int32)))]) ?_ w
  exact (And.intro rfl (And.intro rfl trivial))

set_option maxRecDepth 10000 in
theorem b_X11_leastBit_2 {g : GG} {K : KX} {D mc ms : Nat} {Pr : Option Value → Hp → Prop} {Pt : String → Hp → Prop} {kc ks : Nat} (hg : GOK g) (hD : 8 ≤ D) (hk : kc ≤ mc ∧ ks ≤ ms) (X : CB g K cX11_leastBit 2 yX11_leastBit (some (.int)) []) (l0 : Int32) (l1 : Int32) (h : Hp)
    (w : (((32 : Int32) ≤ l1 → Pr (some (.int ((-1 : Int32)))) h) ∧ (¬ (32 : Int32) ≤ l1 → ((¬ ((l0 >>> (l1 &&& 31)) &&& (1 : Int32)) = (1 : Int32) → VB g K 2 D mc ms Pr Pt kc ks 2 [some (.int l0), some (.int ((l1 + 1)))] [] h) ∧ (((l0 >>> (l1 &&& 31)) &&& (1 : Int32)) = (1 : Int32) → Pr (some (.int l1)) h))))) : VB g K 2 D mc ms Pr Pt kc ks 2 [some (.int l0), some (.int l1)] [] h := by
  obtain ⟨p, e, s, m, args, below, meth, c⟩ := K
  have X : CX g p s m args meth c cX11_leastBit 2 yX11_leastBit (some (.int)) [] := X
  have hz := hg s X.gk.z
  show VV g p e (rmm D mc ms) s m args below meth c 2 (QQ g below args s mc ms Pr Pt) kc ks 2 [some (.int l0), some (.int l1)] [] h
  refine r_iload_n X dX11_leastBit_2 rfl ?_
  refine r_bipush X dX11_leastBit_3 (v := 32) (by decide) ?_
  refine r_icmp_ge X dX11_leastBit_5 (tgt := 25) (by decide) (fun q => ?_) (fun q => ?_)
  · have w := w.1 q
    refine r_iconst X dX11_leastBit_25 (v := -1) (by decide) ?_
    exact r_iret X dX11_leastBit_26 rfl w hk.1 hk.2
  · have w := w.2 q
    refine r_iload_n X dX11_leastBit_8 rfl ?_
    refine r_iload_n X dX11_leastBit_9 rfl ?_
    refine r_ishr X dX11_leastBit_10 ?_
    refine r_iconst X dX11_leastBit_11 (v := 1) (by decide) ?_
    refine r_iand X dX11_leastBit_12 ?_
    refine r_iconst X dX11_leastBit_13 (v := 1) (by decide) ?_
    refine r_icmp_ne X dX11_leastBit_14 (tgt := 19) (by decide) (fun q => ?_) (fun q => ?_)
    · have w := w.1 q
      refine r_iinc X dX11_leastBit_19 rfl (v := (l1 + 1)) rfl (by decide) rfl ?_
      refine r_goto X dX11_leastBit_22 (tgt := 2) (by decide) ?_
      refine VB_wk (ls' := [some (.int l0), some (.int ((l1 + 1)))]) ?_ w
      exact (And.intro rfl (And.intro rfl trivial))
    · have w := w.2 q
      refine r_iload_n X dX11_leastBit_17 rfl ?_
      exact r_iret X dX11_leastBit_18 rfl w hk.1 hk.2

set_option maxRecDepth 10000 in
theorem b_X11_load_0 {g : GG} {K : KX} {D mc ms : Nat} {Pr : Option Value → Hp → Prop} {Pt : String → Hp → Prop} {kc ks : Nat} (hg : GOK g) (hD : 8 ≤ D) (hk : kc ≤ mc ∧ ks ≤ ms) (X : CB g K cX11_load 2 yX11_load (some (.int)) []) (l0 : Nat) (l1 : Int32) (h : Hp)
    (w : ((l1 < 0 → VB g K 2 D mc ms Pr Pt kc ks 10 [none, none] [] h) ∧ (¬ l1 < 0 → ((l1 ≤ (99 : Int32) → (∃ v1, gN h l0 10 8 = some v1 ∧ (∃ v2, gN h v1 3 0 = some v2 ∧ (∃ v3, gN h l0 10 6 = some v3 ∧ (∃ fs3, oF h v2 2 = some fs3 ∧ (∃ d3 P3 E3 m3 n3, CT g d3 yX2_strainedBits (wsC yX2_strainedBits cX2_strainedBits 5 (some (.int))) [.ref v2, .ref v3, .int l1] h m3 n3 P3 E3 ∧ (d3 + 1 ≤ D ∧ kc + m3 ≤ mc ∧ ks + n3 ≤ ms) ∧ (∀ E h', E3 E h' → Pt E h') ∧ (∀ v h3, P3 v h3 → ∃ v5, v = some (.int v5) ∧ (∃ fs5, oF h3 l0 10 = some fs5 ∧ (∃ d5 P5 E5 m5 n5, CT g d5 yX11_rowsOf (wsC yX11_rowsOf cX11_rowsOf 4 (some (.int))) [.ref l0, .int v5] h3 m5 n5 P5 E5 ∧ (d5 + 1 ≤ D ∧ (kc + m3) + m5 ≤ mc ∧ (ks + n3) + n5 ≤ ms) ∧ (∀ E h', E5 E h' → Pt E h') ∧ (∀ v h5, P5 v h5 → ∃ v7, v = some (.int v7) ∧ Pr (some (.int v7)) h5)))))))))) ∧ (¬ l1 ≤ (99 : Int32) → VB g K 2 D mc ms Pr Pt kc ks 10 [none, none] [] h))))) : VB g K 2 D mc ms Pr Pt kc ks 0 [some (.ref l0), some (.int l1)] [] h := by
  obtain ⟨p, e, s, m, args, below, meth, c⟩ := K
  have X : CX g p s m args meth c cX11_load 2 yX11_load (some (.int)) [] := X
  have hz := hg s X.gk.z
  show VV g p e (rmm D mc ms) s m args below meth c 2 (QQ g below args s mc ms Pr Pt) kc ks 0 [some (.ref l0), some (.int l1)] [] h
  refine r_iload_n X dX11_load_0 rfl ?_
  refine r_if_lt X dX11_load_1 (tgt := 10) (by decide) (fun q => ?_) (fun q => ?_)
  · have w := w.1 q
    refine VB_wk (ls' := [none, none]) ?_ w
    exact trivial
  · have w := w.2 q
    refine r_iload_n X dX11_load_4 rfl ?_
    refine r_bipush X dX11_load_5 (v := 99) (by decide) ?_
    refine r_icmp_le X dX11_load_7 (tgt := 21) (by decide) (fun q => ?_) (fun q => ?_)
    · have w := w.1 q
      refine r_aload_n X dX11_load_21 rfl ?_
      refine r_aload_n X dX11_load_22 rfl ?_
      obtain ⟨v1, ev1, w⟩ := w
      obtain ⟨fv1, cv1, qv1⟩ := gN_s ev1
      refine r_getf X dX11_load_23 fl_X11_42 cv1 qv1 ?_
      obtain ⟨v2, ev2, w⟩ := w
      obtain ⟨fv2, cv2, qv2⟩ := gN_s ev2
      refine r_getf X dX11_load_26 fl_X11_84 cv2 qv2 ?_
      refine r_aload_n X dX11_load_29 rfl ?_
      obtain ⟨v3, ev3, w⟩ := w
      obtain ⟨fv3, cv3, qv3⟩ := gN_s ev3
      refine r_getf X dX11_load_30 fl_X11_32 cv3 qv3 ?_
      refine r_iload_n X dX11_load_33 rfl ?_
      obtain ⟨fs3, es3, w⟩ := w
      obtain ⟨d3, P3, E3, m3, n3, ct3, w⟩ := w
      obtain ⟨⟨x1, x2, x3⟩, w⟩ := w
      obtain ⟨x4, w⟩ := w
      refine r_callV X (As := [.ref v3, .int l1]) dX11_load_34 mk_X2_strainedBits ⟨ml_X11_328, im_X2_strainedBits, se_X2_strainedBits⟩ (oF_s es3) (ci_X2).1 rfl rfl rfl (by simp [Value.category]) ⟨x1, by show 60 * (d3 + 1) + 200 ≤ 60 * D + 200; omega⟩ ⟨x2, x3⟩ ct3 x4 (fun _ z => nomatch z) (fun _ => ⟨x2, x3⟩) (fun v h3 w1 => ?_)
      have w := w v h3 w1
      have hk : kc + m3 ≤ mc ∧ ks + n3 ≤ ms := ⟨x2, x3⟩
      obtain ⟨v5, rfl, w⟩ := w
      obtain ⟨fs5, es5, w⟩ := w
      obtain ⟨d5, P5, E5, m5, n5, ct5, w⟩ := w
      obtain ⟨⟨x1, x2, x3⟩, w⟩ := w
      obtain ⟨x4, w⟩ := w
      refine r_callV X (As := [.int v5]) dX11_load_37 mk_X11_rowsOf ⟨ml_X11_323, im_X11_rowsOf, se_X11_rowsOf⟩ (oF_s es5) (ci_X11).1 rfl rfl rfl (by simp [Value.category]) ⟨x1, by show 60 * (d5 + 1) + 200 ≤ 60 * D + 200; omega⟩ ⟨x2, x3⟩ ct5 x4 (fun _ z => nomatch z) (fun _ => ⟨x2, x3⟩) (fun v h5 w1 => ?_)
      have w := w v h5 w1
      have hk : (kc + m3) + m5 ≤ mc ∧ (ks + n3) + n5 ≤ ms := ⟨x2, x3⟩
      obtain ⟨v7, rfl, w⟩ := w
      exact r_iret X dX11_load_40 rfl w hk.1 hk.2
    · have w := w.2 q
      refine VB_wk (ls' := [none, none]) ?_ w
      exact trivial

set_option maxRecDepth 10000 in
theorem b_X11_load_10 {g : GG} {K : KX} {D mc ms : Nat} {Pr : Option Value → Hp → Prop} {Pt : String → Hp → Prop} {kc ks : Nat} (hg : GOK g) (hD : 8 ≤ D) (hk : kc ≤ mc ∧ ks ≤ ms) (X : CB g K cX11_load 2 yX11_load (some (.int)) [])  (h : Hp)
    (w : ((kc + 1 ≤ mc ∧ ks + 6 ≤ ms) ∧ Pt "java/lang/IllegalArgumentException" (h ++ [dead]))) : VB g K 2 D mc ms Pr Pt kc ks 10 [none, none] [] h := by
  obtain ⟨p, e, s, m, args, below, meth, c⟩ := K
  have X : CX g p s m args meth c cX11_load 2 yX11_load (some (.int)) [] := X
  have hz := hg s X.gk.z
  show VV g p e (rmm D mc ms) s m args below meth c 2 (QQ g below args s mc ms Pr Pt) kc ks 10 [none, none] [] h
  obtain ⟨q1, w⟩ := w
  exact r_throwSW X hz.1 (hz.2.1 (RX11, 95, 326, 99, "java/lang/IllegalArgumentException", "no stretch has such strain") (by decide)) dX11_load_10 dX11_load_13 dX11_load_14 dX11_load_17 dX11_load_20 (fun _ z => nomatch z) (by refine ⟨?_, ?_, q1.1, q1.2⟩ <;> simp [rmm, Value.category] <;> omega) q1.1 q1.2 w

set_option maxRecDepth 10000 in
theorem b_X11_look_0 {g : GG} {K : KX} {D mc ms : Nat} {Pr : Option Value → Hp → Prop} {Pt : String → Hp → Prop} {kc ks : Nat} (hg : GOK g) (hD : 8 ≤ D) (hk : kc ≤ mc ∧ ks ≤ ms) (X : CB g K cX11_look 6 yX11_look (some (.int)) []) (l0 : Nat) (l1 : Int32) (h : Hp)
    (w : (∃ d0 P0 E0 m0 n0, CT g d0 yX11_needWhat (wsC yX11_needWhat cX11_needWhat 2 none) [.int l1, .int ((1 : Int32))] h m0 n0 P0 E0 ∧ (d0 + 1 ≤ D ∧ kc + m0 ≤ mc ∧ ks + n0 ≤ ms) ∧ (∀ E h', E0 E h' → Pt E h') ∧ (∀ v h0, P0 v h0 → v = none ∧ (∃ v2, gN h0 l0 10 13 = some v2 ∧ (∃ v3, gN h0 l0 10 6 = some v3 ∧ (∃ v4, gN h0 l0 10 8 = some v4 ∧ (∃ fs4, oF h0 v2 0 = some fs4 ∧ (∃ d4 P4 E4 m4 n4, CT g d4 yX0_weighTears (wsC yX0_weighTears cX0_weighTears 8 none) [.ref v2, .ref v3, .ref v4, .int ((5 : Int32))] h0 m4 n4 P4 E4 ∧ (d4 + 1 ≤ D ∧ (kc + m0) + m4 ≤ mc ∧ (ks + n0) + n4 ≤ ms) ∧ (∀ E h', E4 E h' → Pt E h') ∧ (∀ v h4, P4 v h4 → v = none ∧ VB g K 6 D mc ms Pr Pt (((kc + m0) + m4)) (((ks + n0) + n4)) 28 [some (.ref l0), some (.int l1), some (.int ((-1 : Int32))), some (.int ((0 : Int32))), some (.int ((0 : Int32))), none] [] h4))))))))) : VB g K 6 D mc ms Pr Pt kc ks 0 [some (.ref l0), some (.int l1), none, none, none, none] [] h := by
  obtain ⟨p, e, s, m, args, below, meth, c⟩ := K
  have X : CX g p s m args meth c cX11_look 6 yX11_look (some (.int)) [] := X
  have hz := hg s X.gk.z
  show VV g p e (rmm D mc ms) s m args below meth c 6 (QQ g below args s mc ms Pr Pt) kc ks 0 [some (.ref l0), some (.int l1), none, none, none, none] [] h
  refine r_iload_n X dX11_look_0 rfl ?_
  refine r_iconst X dX11_look_1 (v := 1) (by decide) ?_
  obtain ⟨d0, P0, E0, m0, n0, ct0, w⟩ := w
  obtain ⟨⟨x1, x2, x3⟩, w⟩ := w
  obtain ⟨x4, w⟩ := w
  refine r_callS X (As := [.int l1, .int ((1 : Int32))]) dX11_look_2 mk_X11_needWhat ⟨ml_X11_250, sm_X11_needWhat⟩ rfl rfl (by simp [Value.category]) ⟨x1, by show 60 * (d0 + 1) + 200 ≤ 60 * D + 200; omega⟩ ⟨x2, x3⟩ ct0 x4 (fun _ z => nomatch z) (fun _ => ⟨x2, x3⟩) (fun v h0 w1 => ?_)
  have w := w v h0 w1
  have hk : kc + m0 ≤ mc ∧ ks + n0 ≤ ms := ⟨x2, x3⟩
  obtain ⟨rfl, w⟩ := w
  refine r_aload_n X dX11_look_5 rfl ?_
  obtain ⟨v2, ev2, w⟩ := w
  obtain ⟨fv2, cv2, qv2⟩ := gN_s ev2
  refine r_getf X dX11_look_6 fl_X11_66 cv2 qv2 ?_
  refine r_aload_n X dX11_look_9 rfl ?_
  obtain ⟨v3, ev3, w⟩ := w
  obtain ⟨fv3, cv3, qv3⟩ := gN_s ev3
  refine r_getf X dX11_look_10 fl_X11_32 cv3 qv3 ?_
  refine r_aload_n X dX11_look_13 rfl ?_
  obtain ⟨v4, ev4, w⟩ := w
  obtain ⟨fv4, cv4, qv4⟩ := gN_s ev4
  refine r_getf X dX11_look_14 fl_X11_42 cv4 qv4 ?_
  refine r_iconst X dX11_look_17 (v := 5) (by decide) ?_
  obtain ⟨fs4, es4, w⟩ := w
  obtain ⟨d4, P4, E4, m4, n4, ct4, w⟩ := w
  obtain ⟨⟨x1, x2, x3⟩, w⟩ := w
  obtain ⟨x4, w⟩ := w
  refine r_callV X (As := [.ref v3, .ref v4, .int ((5 : Int32))]) dX11_look_18 mk_X0_weighTears ⟨ml_X11_357, im_X0_weighTears, se_X0_weighTears⟩ (oF_s es4) (ci_X0).1 rfl rfl rfl (by simp [Value.category]) ⟨x1, by show 60 * (d4 + 1) + 200 ≤ 60 * D + 200; omega⟩ ⟨x2, x3⟩ ct4 x4 (fun _ z => nomatch z) (fun _ => ⟨x2, x3⟩) (fun v h4 w1 => ?_)
  have w := w v h4 w1
  have hk : (kc + m0) + m4 ≤ mc ∧ (ks + n0) + n4 ≤ ms := ⟨x2, x3⟩
  obtain ⟨rfl, w⟩ := w
  refine r_iconst X dX11_look_21 (v := -1) (by decide) ?_
  refine r_istore_n X dX11_look_22 (by decide) rfl ?_
  refine r_iconst X dX11_look_23 (v := 0) (by decide) ?_
  refine r_istore_n X dX11_look_24 (by decide) rfl ?_
  refine r_iconst X dX11_look_25 (v := 0) (by decide) ?_
  refine r_istore X dX11_look_26 (by decide) rfl ?_
  refine VB_wk (ls' := [some (.ref l0), some (.int l1), some (.int ((-1 : Int32))), some (.int ((0 : Int32))), some (.int ((0 : Int32))), none]) ?_ w
  exact (And.intro rfl (And.intro rfl (And.intro rfl (And.intro rfl (And.intro rfl trivial)))))

set_option maxRecDepth 10000 in
theorem b_X11_look_28 {g : GG} {K : KX} {D mc ms : Nat} {Pr : Option Value → Hp → Prop} {Pt : String → Hp → Prop} {kc ks : Nat} (hg : GOK g) (hD : 8 ≤ D) (hk : kc ≤ mc ∧ ks ≤ ms) (X : CB g K cX11_look 6 yX11_look (some (.int)) []) (l0 : Nat) (l1 : Int32) (l2 : Int32) (l3 : Int32) (l4 : Int32) (h : Hp)
    (w : (∃ v1, gN h l0 10 6 = some v1 ∧ (∃ v2, gI h v1 9 0 = some v2 ∧ ((v2 ≤ l4 → ((¬ l1 = 0 → Pr (some (.int l3)) h) ∧ (l1 = 0 → Pr (some (.int l2)) h))) ∧ (¬ v2 ≤ l4 → (∃ v3, gN h l0 10 13 = some v3 ∧ (∃ fs3, oF h v3 0 = some fs3 ∧ (∃ d3 P3 E3 m3 n3, CT g d3 yX0_unlikeSeams (wsC yX0_unlikeSeams cX0_unlikeSeams 2 (some (.int))) [.ref v3, .int l4] h m3 n3 P3 E3 ∧ (d3 + 1 ≤ D ∧ kc + m3 ≤ mc ∧ ks + n3 ≤ ms) ∧ (∀ E h', E3 E h' → Pt E h') ∧ (∀ v h3, P3 v h3 → ∃ v5, v = some (.int v5) ∧ ((v5 ≤ l3 → VB g K 6 D mc ms Pr Pt ((kc + m3)) ((ks + n3)) 63 [some (.ref l0), some (.int l1), some (.int l2), some (.int l3), some (.int l4), none] [] h3) ∧ (¬ v5 ≤ l3 → VB g K 6 D mc ms Pr Pt ((kc + m3)) ((ks + n3)) 63 [some (.ref l0), some (.int l1), some (.int l4), some (.int v5), some (.int l4), none] [] h3))))))))))) : VB g K 6 D mc ms Pr Pt kc ks 28 [some (.ref l0), some (.int l1), some (.int l2), some (.int l3), some (.int l4), none] [] h := by
  obtain ⟨p, e, s, m, args, below, meth, c⟩ := K
  have X : CX g p s m args meth c cX11_look 6 yX11_look (some (.int)) [] := X
  have hz := hg s X.gk.z
  show VV g p e (rmm D mc ms) s m args below meth c 6 (QQ g below args s mc ms Pr Pt) kc ks 28 [some (.ref l0), some (.int l1), some (.int l2), some (.int l3), some (.int l4), none] [] h
  refine r_iload X dX11_look_28 rfl ?_
  refine r_aload_n X dX11_look_30 rfl ?_
  obtain ⟨v1, ev1, w⟩ := w
  obtain ⟨fv1, cv1, qv1⟩ := gN_s ev1
  refine r_getf X dX11_look_31 fl_X11_32 cv1 qv1 ?_
  obtain ⟨v2, ev2, w⟩ := w
  obtain ⟨fv2, cv2, qv2⟩ := gI_s ev2
  refine r_getf X dX11_look_34 fl_X11_141 cv2 qv2 ?_
  refine r_icmp_ge X dX11_look_37 (tgt := 69) (by decide) (fun q => ?_) (fun q => ?_)
  · have w := w.1 q
    refine r_iload_n X dX11_look_69 rfl ?_
    refine r_if_ne X dX11_look_70 (tgt := 77) (by decide) (fun q => ?_) (fun q => ?_)
    · have w := w.1 q
      refine r_iload_n X dX11_look_77 rfl ?_
      exact r_iret X dX11_look_78 rfl w hk.1 hk.2
    · have w := w.2 q
      refine r_iload_n X dX11_look_73 rfl ?_
      refine r_goto X dX11_look_74 (tgt := 78) (by decide) ?_
      exact r_iret X dX11_look_78 rfl w hk.1 hk.2
  · have w := w.2 q
    refine r_aload_n X dX11_look_40 rfl ?_
    obtain ⟨v3, ev3, w⟩ := w
    obtain ⟨fv3, cv3, qv3⟩ := gN_s ev3
    refine r_getf X dX11_look_41 fl_X11_66 cv3 qv3 ?_
    refine r_iload X dX11_look_44 rfl ?_
    obtain ⟨fs3, es3, w⟩ := w
    obtain ⟨d3, P3, E3, m3, n3, ct3, w⟩ := w
    obtain ⟨⟨x1, x2, x3⟩, w⟩ := w
    obtain ⟨x4, w⟩ := w
    refine r_callV X (As := [.int l4]) dX11_look_46 mk_X0_unlikeSeams ⟨ml_X11_365, im_X0_unlikeSeams, se_X0_unlikeSeams⟩ (oF_s es3) (ci_X0).1 rfl rfl rfl (by simp [Value.category]) ⟨x1, by show 60 * (d3 + 1) + 200 ≤ 60 * D + 200; omega⟩ ⟨x2, x3⟩ ct3 x4 (fun _ z => nomatch z) (fun _ => ⟨x2, x3⟩) (fun v h3 w1 => ?_)
    have w := w v h3 w1
    have hk : kc + m3 ≤ mc ∧ ks + n3 ≤ ms := ⟨x2, x3⟩
    obtain ⟨v5, rfl, w⟩ := w
    refine r_istore X dX11_look_49 (by decide) rfl ?_
    refine r_iload X dX11_look_51 rfl ?_
    refine r_iload_n X dX11_look_53 rfl ?_
    refine r_icmp_le X dX11_look_54 (tgt := 63) (by decide) (fun q => ?_) (fun q => ?_)
    · have w := w.1 q
      refine VB_wk (ls' := [some (.ref l0), some (.int l1), some (.int l2), some (.int l3), some (.int l4), none]) ?_ w
      exact (And.intro rfl (And.intro rfl (And.intro rfl (And.intro rfl (And.intro rfl trivial)))))
    · have w := w.2 q
      refine r_iload X dX11_look_57 rfl ?_
      refine r_istore_n X dX11_look_59 (by decide) rfl ?_
      refine r_iload X dX11_look_60 rfl ?_
      refine r_istore_n X dX11_look_62 (by decide) rfl ?_
      refine VB_wk (ls' := [some (.ref l0), some (.int l1), some (.int l4), some (.int v5), some (.int l4), none]) ?_ w
      exact (And.intro rfl (And.intro rfl (And.intro rfl (And.intro rfl (And.intro rfl trivial)))))

set_option maxRecDepth 10000 in
theorem b_X11_look_63 {g : GG} {K : KX} {D mc ms : Nat} {Pr : Option Value → Hp → Prop} {Pt : String → Hp → Prop} {kc ks : Nat} (hg : GOK g) (hD : 8 ≤ D) (hk : kc ≤ mc ∧ ks ≤ ms) (X : CB g K cX11_look 6 yX11_look (some (.int)) []) (l0 : Nat) (l1 : Int32) (l2 : Int32) (l3 : Int32) (l4 : Int32) (h : Hp)
    (w : VB g K 6 D mc ms Pr Pt kc ks 28 [some (.ref l0), some (.int l1), some (.int l2), some (.int l3), some (.int ((l4 + 1))), none] [] h) : VB g K 6 D mc ms Pr Pt kc ks 63 [some (.ref l0), some (.int l1), some (.int l2), some (.int l3), some (.int l4), none] [] h := by
  obtain ⟨p, e, s, m, args, below, meth, c⟩ := K
  have X : CX g p s m args meth c cX11_look 6 yX11_look (some (.int)) [] := X
  have hz := hg s X.gk.z
  show VV g p e (rmm D mc ms) s m args below meth c 6 (QQ g below args s mc ms Pr Pt) kc ks 63 [some (.ref l0), some (.int l1), some (.int l2), some (.int l3), some (.int l4), none] [] h
  refine r_iinc X dX11_look_63 rfl (v := (l4 + 1)) rfl (by decide) rfl ?_
  refine r_goto X dX11_look_66 (tgt := 28) (by decide) ?_
  refine VB_wk (ls' := [some (.ref l0), some (.int l1), some (.int l2), some (.int l3), some (.int ((l4 + 1))), none]) ?_ w
  exact (And.intro rfl (And.intro rfl (And.intro rfl (And.intro rfl (And.intro rfl trivial)))))

set_option maxRecDepth 10000 in
theorem b_X11_lookAhead_0 {g : GG} {K : KX} {D mc ms : Nat} {Pr : Option Value → Hp → Prop} {Pt : String → Hp → Prop} {kc ks : Nat} (hg : GOK g) (hD : 8 ≤ D) (hk : kc ≤ mc ∧ ks ≤ ms) (X : CB g K cX11_lookAhead 2 yX11_lookAhead none []) (l0 : Nat) (l1 : Int32) (h : Hp)
    (w : (∃ v1, gN h l0 10 11 = some v1 ∧ (∃ v2, gN h l0 10 8 = some v2 ∧ (∃ v3, gN h v2 3 0 = some v3 ∧ (∃ fs3, oF h v1 2 = some fs3 ∧ (∃ d3 P3 E3 m3 n3, CT g d3 yX2_copyFrom (wsC yX2_copyFrom cX2_copyFrom 2 none) [.ref v1, .ref v3] h m3 n3 P3 E3 ∧ (d3 + 1 ≤ D ∧ kc + m3 ≤ mc ∧ ks + n3 ≤ ms) ∧ (∀ E h', E3 E h' → Pt E h') ∧ (∀ v h3, P3 v h3 → v = none ∧ (∃ v5, gN h3 l0 10 11 = some v5 ∧ (∃ v6, gN h3 l0 10 6 = some v6 ∧ (∃ fs6, oF h3 v5 2 = some fs6 ∧ (∃ d6 P6 E6 m6 n6, CT g d6 yX2_passDays (wsC yX2_passDays cX2_passDays 4 none) [.ref v5, .ref v6, .int l1] h3 m6 n6 P6 E6 ∧ (d6 + 1 ≤ D ∧ (kc + m3) + m6 ≤ mc ∧ (ks + n3) + n6 ≤ ms) ∧ (∀ E h', E6 E h' → Pt E h') ∧ (∀ v h6, P6 v h6 → v = none ∧ Pr none h6)))))))))))) : VB g K 2 D mc ms Pr Pt kc ks 0 [some (.ref l0), some (.int l1)] [] h := by
  obtain ⟨p, e, s, m, args, below, meth, c⟩ := K
  have X : CX g p s m args meth c cX11_lookAhead 2 yX11_lookAhead none [] := X
  have hz := hg s X.gk.z
  show VV g p e (rmm D mc ms) s m args below meth c 2 (QQ g below args s mc ms Pr Pt) kc ks 0 [some (.ref l0), some (.int l1)] [] h
  refine r_aload_n X dX11_lookAhead_0 rfl ?_
  obtain ⟨v1, ev1, w⟩ := w
  obtain ⟨fv1, cv1, qv1⟩ := gN_s ev1
  refine r_getf X dX11_lookAhead_1 fl_X11_56 cv1 qv1 ?_
  refine r_aload_n X dX11_lookAhead_4 rfl ?_
  obtain ⟨v2, ev2, w⟩ := w
  obtain ⟨fv2, cv2, qv2⟩ := gN_s ev2
  refine r_getf X dX11_lookAhead_5 fl_X11_42 cv2 qv2 ?_
  obtain ⟨v3, ev3, w⟩ := w
  obtain ⟨fv3, cv3, qv3⟩ := gN_s ev3
  refine r_getf X dX11_lookAhead_8 fl_X11_84 cv3 qv3 ?_
  obtain ⟨fs3, es3, w⟩ := w
  obtain ⟨d3, P3, E3, m3, n3, ct3, w⟩ := w
  obtain ⟨⟨x1, x2, x3⟩, w⟩ := w
  obtain ⟨x4, w⟩ := w
  refine r_callV X (As := [.ref v3]) dX11_lookAhead_11 mk_X2_copyFrom ⟨ml_X11_123, im_X2_copyFrom, se_X2_copyFrom⟩ (oF_s es3) (ci_X2).1 rfl rfl rfl (by simp [Value.category]) ⟨x1, by show 60 * (d3 + 1) + 200 ≤ 60 * D + 200; omega⟩ ⟨x2, x3⟩ ct3 x4 (fun _ z => nomatch z) (fun _ => ⟨x2, x3⟩) (fun v h3 w1 => ?_)
  have w := w v h3 w1
  have hk : kc + m3 ≤ mc ∧ ks + n3 ≤ ms := ⟨x2, x3⟩
  obtain ⟨rfl, w⟩ := w
  refine r_aload_n X dX11_lookAhead_14 rfl ?_
  obtain ⟨v5, ev5, w⟩ := w
  obtain ⟨fv5, cv5, qv5⟩ := gN_s ev5
  refine r_getf X dX11_lookAhead_15 fl_X11_56 cv5 qv5 ?_
  refine r_aload_n X dX11_lookAhead_18 rfl ?_
  obtain ⟨v6, ev6, w⟩ := w
  obtain ⟨fv6, cv6, qv6⟩ := gN_s ev6
  refine r_getf X dX11_lookAhead_19 fl_X11_32 cv6 qv6 ?_
  refine r_iload_n X dX11_lookAhead_22 rfl ?_
  obtain ⟨fs6, es6, w⟩ := w
  obtain ⟨d6, P6, E6, m6, n6, ct6, w⟩ := w
  obtain ⟨⟨x1, x2, x3⟩, w⟩ := w
  obtain ⟨x4, w⟩ := w
  refine r_callV X (As := [.ref v6, .int l1]) dX11_lookAhead_23 mk_X2_passDays ⟨ml_X11_228, im_X2_passDays, se_X2_passDays⟩ (oF_s es6) (ci_X2).1 rfl rfl rfl (by simp [Value.category]) ⟨x1, by show 60 * (d6 + 1) + 200 ≤ 60 * D + 200; omega⟩ ⟨x2, x3⟩ ct6 x4 (fun _ z => nomatch z) (fun _ => ⟨x2, x3⟩) (fun v h6 w1 => ?_)
  have w := w v h6 w1
  have hk : (kc + m3) + m6 ≤ mc ∧ (ks + n3) + n6 ≤ ms := ⟨x2, x3⟩
  obtain ⟨rfl, w⟩ := w
  exact r_vret X dX11_lookAhead_26 rfl w hk.1 hk.2

set_option maxRecDepth 10000 in
theorem b_X11_meet_0 {g : GG} {K : KX} {D mc ms : Nat} {Pr : Option Value → Hp → Prop} {Pt : String → Hp → Prop} {kc ks : Nat} (hg : GOK g) (hD : 8 ≤ D) (hk : kc ≤ mc ∧ ks ≤ ms) (X : CB g K cX11_meet 3 yX11_meet (some (.int)) []) (l0 : Nat) (l1 : Int32) (l2 : Int32) (h : Hp)
    (w : (∃ fs0, oF h l0 10 = some fs0 ∧ (∃ d0 P0 E0 m0 n0, CT g d0 yX11_needWoman (wsC yX11_needWoman cX11_needWoman 2 none) [.ref l0, .int l1] h m0 n0 P0 E0 ∧ (d0 + 1 ≤ D ∧ kc + m0 ≤ mc ∧ ks + n0 ≤ ms) ∧ (∀ E h', E0 E h' → Pt E h') ∧ (∀ v h0, P0 v h0 → v = none ∧ (∃ fs1, oF h0 l0 10 = some fs1 ∧ (∃ d1 P1 E1 m1 n1, CT g d1 yX11_needWoman (wsC yX11_needWoman cX11_needWoman 2 none) [.ref l0, .int l2] h0 m1 n1 P1 E1 ∧ (d1 + 1 ≤ D ∧ (kc + m0) + m1 ≤ mc ∧ (ks + n0) + n1 ≤ ms) ∧ (∀ E h', E1 E h' → Pt E h') ∧ (∀ v h1, P1 v h1 → v = none ∧ ((l1 = l2 → Pr (some (.int ((-1 : Int32)))) h1) ∧ (¬ l1 = l2 → (∃ v3, gN h1 l0 10 8 = some v3 ∧ (∃ v4, gN h1 v3 3 0 = some v4 ∧ (∃ v5, gN h1 v4 2 4 = some v5 ∧ (∃ v6, aI h1 0 v5 l1 = some v6 ∧ (∃ v7, gN h1 l0 10 8 = some v7 ∧ (∃ v8, gN h1 v7 3 0 = some v8 ∧ (∃ v9, gN h1 v8 2 4 = some v9 ∧ (∃ v10, aI h1 0 v9 l2 = some v10 ∧ ((¬ v6 = v10 → Pr (some (.int ((-1 : Int32)))) h1) ∧ (v6 = v10 → Pr (some (.int ((0 : Int32)))) h1))))))))))))))))))) : VB g K 3 D mc ms Pr Pt kc ks 0 [some (.ref l0), some (.int l1), some (.int l2)] [] h := by
  obtain ⟨p, e, s, m, args, below, meth, c⟩ := K
  have X : CX g p s m args meth c cX11_meet 3 yX11_meet (some (.int)) [] := X
  have hz := hg s X.gk.z
  show VV g p e (rmm D mc ms) s m args below meth c 3 (QQ g below args s mc ms Pr Pt) kc ks 0 [some (.ref l0), some (.int l1), some (.int l2)] [] h
  refine r_aload_n X dX11_meet_0 rfl ?_
  refine r_iload_n X dX11_meet_1 rfl ?_
  obtain ⟨fs0, es0, w⟩ := w
  obtain ⟨d0, P0, E0, m0, n0, ct0, w⟩ := w
  obtain ⟨⟨x1, x2, x3⟩, w⟩ := w
  obtain ⟨x4, w⟩ := w
  refine r_callV X (As := [.int l1]) dX11_meet_2 mk_X11_needWoman ⟨ml_X11_207, im_X11_needWoman, se_X11_needWoman⟩ (oF_s es0) (ci_X11).1 rfl rfl rfl (by simp [Value.category]) ⟨x1, by show 60 * (d0 + 1) + 200 ≤ 60 * D + 200; omega⟩ ⟨x2, x3⟩ ct0 x4 (fun _ z => nomatch z) (fun _ => ⟨x2, x3⟩) (fun v h0 w1 => ?_)
  have w := w v h0 w1
  have hk : kc + m0 ≤ mc ∧ ks + n0 ≤ ms := ⟨x2, x3⟩
  obtain ⟨rfl, w⟩ := w
  refine r_aload_n X dX11_meet_5 rfl ?_
  refine r_iload_n X dX11_meet_6 rfl ?_
  obtain ⟨fs1, es1, w⟩ := w
  obtain ⟨d1, P1, E1, m1, n1, ct1, w⟩ := w
  obtain ⟨⟨x1, x2, x3⟩, w⟩ := w
  obtain ⟨x4, w⟩ := w
  refine r_callV X (As := [.int l2]) dX11_meet_7 mk_X11_needWoman ⟨ml_X11_207, im_X11_needWoman, se_X11_needWoman⟩ (oF_s es1) (ci_X11).1 rfl rfl rfl (by simp [Value.category]) ⟨x1, by show 60 * (d1 + 1) + 200 ≤ 60 * D + 200; omega⟩ ⟨x2, x3⟩ ct1 x4 (fun _ z => nomatch z) (fun _ => ⟨x2, x3⟩) (fun v h1 w1 => ?_)
  have w := w v h1 w1
  have hk : (kc + m0) + m1 ≤ mc ∧ (ks + n0) + n1 ≤ ms := ⟨x2, x3⟩
  obtain ⟨rfl, w⟩ := w
  refine r_iload_n X dX11_meet_10 rfl ?_
  refine r_iload_n X dX11_meet_11 rfl ?_
  refine r_icmp_eq X dX11_meet_12 (tgt := 46) (by decide) (fun q => ?_) (fun q => ?_)
  · have w := w.1 q
    refine r_iconst X dX11_meet_46 (v := -1) (by decide) ?_
    exact r_iret X dX11_meet_47 rfl w hk.1 hk.2
  · have w := w.2 q
    refine r_aload_n X dX11_meet_15 rfl ?_
    obtain ⟨v3, ev3, w⟩ := w
    obtain ⟨fv3, cv3, qv3⟩ := gN_s ev3
    refine r_getf X dX11_meet_16 fl_X11_42 cv3 qv3 ?_
    obtain ⟨v4, ev4, w⟩ := w
    obtain ⟨fv4, cv4, qv4⟩ := gN_s ev4
    refine r_getf X dX11_meet_19 fl_X11_84 cv4 qv4 ?_
    obtain ⟨v5, ev5, w⟩ := w
    obtain ⟨fv5, cv5, qv5⟩ := gN_s ev5
    refine r_getf X dX11_meet_22 fl_X11_213 cv5 qv5 ?_
    refine r_iload_n X dX11_meet_25 rfl ?_
    obtain ⟨v6, ev6, w⟩ := w
    obtain ⟨nv6, fv6, cv6, iv6, qv6⟩ := aI_s ev6
    refine r_iald X dX11_meet_26 cv6 iv6 ?_
    rw [qv6]
    refine r_aload_n X dX11_meet_27 rfl ?_
    obtain ⟨v7, ev7, w⟩ := w
    obtain ⟨fv7, cv7, qv7⟩ := gN_s ev7
    refine r_getf X dX11_meet_28 fl_X11_42 cv7 qv7 ?_
    obtain ⟨v8, ev8, w⟩ := w
    obtain ⟨fv8, cv8, qv8⟩ := gN_s ev8
    refine r_getf X dX11_meet_31 fl_X11_84 cv8 qv8 ?_
    obtain ⟨v9, ev9, w⟩ := w
    obtain ⟨fv9, cv9, qv9⟩ := gN_s ev9
    refine r_getf X dX11_meet_34 fl_X11_213 cv9 qv9 ?_
    refine r_iload_n X dX11_meet_37 rfl ?_
    obtain ⟨v10, ev10, w⟩ := w
    obtain ⟨nv10, fv10, cv10, iv10, qv10⟩ := aI_s ev10
    refine r_iald X dX11_meet_38 cv10 iv10 ?_
    rw [qv10]
    refine r_icmp_ne X dX11_meet_39 (tgt := 46) (by decide) (fun q => ?_) (fun q => ?_)
    · have w := w.1 q
      refine r_iconst X dX11_meet_46 (v := -1) (by decide) ?_
      exact r_iret X dX11_meet_47 rfl w hk.1 hk.2
    · have w := w.2 q
      refine r_iconst X dX11_meet_42 (v := 0) (by decide) ?_
      refine r_goto X dX11_meet_43 (tgt := 47) (by decide) ?_
      exact r_iret X dX11_meet_47 rfl w hk.1 hk.2

set_option maxRecDepth 10000 in
theorem b_X11_mend_0 {g : GG} {K : KX} {D mc ms : Nat} {Pr : Option Value → Hp → Prop} {Pt : String → Hp → Prop} {kc ks : Nat} (hg : GOK g) (hD : 8 ≤ D) (hk : kc ≤ mc ∧ ks ≤ ms) (X : CB g K cX11_mend 2 yX11_mend (some (.int)) []) (l0 : Nat) (l1 : Int32) (h : Hp)
    (w : (∃ fs0, oF h l0 10 = some fs0 ∧ (∃ d0 P0 E0 m0 n0, CT g d0 yX11_needWoman (wsC yX11_needWoman cX11_needWoman 2 none) [.ref l0, .int l1] h m0 n0 P0 E0 ∧ (d0 + 1 ≤ D ∧ kc + m0 ≤ mc ∧ ks + n0 ≤ ms) ∧ (∀ E h', E0 E h' → Pt E h') ∧ (∀ v h0, P0 v h0 → v = none ∧ (∃ v2, gN h0 l0 10 8 = some v2 ∧ (∃ v3, gN h0 v2 3 0 = some v3 ∧ (∃ v4, gN h0 v3 2 5 = some v4 ∧ (∃ v5, aI h0 0 v4 l1 = some v5 ∧ (((1 : Int32) ≤ v5 → (∃ v6, gN h0 l0 10 8 = some v6 ∧ (∃ v7, gN h0 v6 3 1 = some v7 ∧ (∃ v8, gN h0 l0 10 8 = some v8 ∧ (∃ v9, gN h0 v8 3 0 = some v9 ∧ (∃ fs9, oF h0 v7 4 = some fs9 ∧ (∃ d9 P9 E9 m9 n9, CT g d9 yX4_keep (wsC yX4_keep cX4_keep 2 none) [.ref v7, .ref v9] h0 m9 n9 P9 E9 ∧ (d9 + 1 ≤ D ∧ (kc + m0) + m9 ≤ mc ∧ (ks + n0) + n9 ≤ ms) ∧ (∀ E h', E9 E h' → Pt E h') ∧ (∀ v h9, P9 v h9 → v = none ∧ (∃ v11, gN h9 l0 10 8 = some v11 ∧ (∃ v12, gN h9 v11 3 0 = some v12 ∧ (∃ v13, gN h9 l0 10 6 = some v13 ∧ (∃ fs13, oF h9 v12 2 = some fs13 ∧ (∃ d13 P13 E13 m13 n13, CT g d13 yX2_mendBy (wsC yX2_mendBy cX2_mendBy 4 none) [.ref v12, .ref v13, .int l1] h9 m13 n13 P13 E13 ∧ (d13 + 1 ≤ D ∧ ((kc + m0) + m9) + m13 ≤ mc ∧ ((ks + n0) + n9) + n13 ≤ ms) ∧ (∀ E h', E13 E h' → Pt E h') ∧ (∀ v h13, P13 v h13 → v = none ∧ (∃ v15, gN h13 l0 10 8 = some v15 ∧ (∃ v16, gN h13 v15 3 0 = some v16 ∧ (∃ fs16, oF h13 v16 2 = some fs16 ∧ (∃ d16 P16 E16 m16 n16, CT g d16 yX2_seamWhere (wsC yX2_seamWhere cX2_seamWhere 3 (some (.int))) [.ref v16, .int l1] h13 m16 n16 P16 E16 ∧ (d16 + 1 ≤ D ∧ (((kc + m0) + m9) + m13) + m16 ≤ mc ∧ (((ks + n0) + n9) + n13) + n16 ≤ ms) ∧ (∀ E h', E16 E h' → Pt E h') ∧ (∀ v h16, P16 v h16 → ∃ v18, v = some (.int v18) ∧ Pr (some (.int v18)) h16))))))))))))))))))) ∧ (¬ (1 : Int32) ≤ v5 → (∃ fs18, oF h0 l0 10 = some fs18 ∧ (∃ d18 P18 E18 m18 n18, CT g d18 yX11_refuseAct (wsC yX11_refuseAct cX11_refuseAct 1 (some (.int))) [.ref l0] h0 m18 n18 P18 E18 ∧ (d18 + 1 ≤ D ∧ (kc + m0) + m18 ≤ mc ∧ (ks + n0) + n18 ≤ ms) ∧ (∀ E h', E18 E h' → Pt E h') ∧ (∀ v h18, P18 v h18 → ∃ v20, v = some (.int v20) ∧ Pr (some (.int v20)) h18))))))))))))) : VB g K 2 D mc ms Pr Pt kc ks 0 [some (.ref l0), some (.int l1)] [] h := by
  obtain ⟨p, e, s, m, args, below, meth, c⟩ := K
  have X : CX g p s m args meth c cX11_mend 2 yX11_mend (some (.int)) [] := X
  have hz := hg s X.gk.z
  show VV g p e (rmm D mc ms) s m args below meth c 2 (QQ g below args s mc ms Pr Pt) kc ks 0 [some (.ref l0), some (.int l1)] [] h
  refine r_aload_n X dX11_mend_0 rfl ?_
  refine r_iload_n X dX11_mend_1 rfl ?_
  obtain ⟨fs0, es0, w⟩ := w
  obtain ⟨d0, P0, E0, m0, n0, ct0, w⟩ := w
  obtain ⟨⟨x1, x2, x3⟩, w⟩ := w
  obtain ⟨x4, w⟩ := w
  refine r_callV X (As := [.int l1]) dX11_mend_2 mk_X11_needWoman ⟨ml_X11_207, im_X11_needWoman, se_X11_needWoman⟩ (oF_s es0) (ci_X11).1 rfl rfl rfl (by simp [Value.category]) ⟨x1, by show 60 * (d0 + 1) + 200 ≤ 60 * D + 200; omega⟩ ⟨x2, x3⟩ ct0 x4 (fun _ z => nomatch z) (fun _ => ⟨x2, x3⟩) (fun v h0 w1 => ?_)
  have w := w v h0 w1
  have hk : kc + m0 ≤ mc ∧ ks + n0 ≤ ms := ⟨x2, x3⟩
  obtain ⟨rfl, w⟩ := w
  refine r_aload_n X dX11_mend_5 rfl ?_
  obtain ⟨v2, ev2, w⟩ := w
  obtain ⟨fv2, cv2, qv2⟩ := gN_s ev2
  refine r_getf X dX11_mend_6 fl_X11_42 cv2 qv2 ?_
  obtain ⟨v3, ev3, w⟩ := w
  obtain ⟨fv3, cv3, qv3⟩ := gN_s ev3
  refine r_getf X dX11_mend_9 fl_X11_84 cv3 qv3 ?_
  obtain ⟨v4, ev4, w⟩ := w
  obtain ⟨fv4, cv4, qv4⟩ := gN_s ev4
  refine r_getf X dX11_mend_12 fl_X11_216 cv4 qv4 ?_
  refine r_iload_n X dX11_mend_15 rfl ?_
  obtain ⟨v5, ev5, w⟩ := w
  obtain ⟨nv5, fv5, cv5, iv5, qv5⟩ := aI_s ev5
  refine r_iald X dX11_mend_16 cv5 iv5 ?_
  rw [qv5]
  refine r_iconst X dX11_mend_17 (v := 1) (by decide) ?_
  refine r_icmp_ge X dX11_mend_18 (tgt := 26) (by decide) (fun q => ?_) (fun q => ?_)
  · have w := w.1 q
    refine r_aload_n X dX11_mend_26 rfl ?_
    obtain ⟨v6, ev6, w⟩ := w
    obtain ⟨fv6, cv6, qv6⟩ := gN_s ev6
    refine r_getf X dX11_mend_27 fl_X11_42 cv6 qv6 ?_
    obtain ⟨v7, ev7, w⟩ := w
    obtain ⟨fv7, cv7, qv7⟩ := gN_s ev7
    refine r_getf X dX11_mend_30 fl_X11_127 cv7 qv7 ?_
    refine r_aload_n X dX11_mend_33 rfl ?_
    obtain ⟨v8, ev8, w⟩ := w
    obtain ⟨fv8, cv8, qv8⟩ := gN_s ev8
    refine r_getf X dX11_mend_34 fl_X11_42 cv8 qv8 ?_
    obtain ⟨v9, ev9, w⟩ := w
    obtain ⟨fv9, cv9, qv9⟩ := gN_s ev9
    refine r_getf X dX11_mend_37 fl_X11_84 cv9 qv9 ?_
    obtain ⟨fs9, es9, w⟩ := w
    obtain ⟨d9, P9, E9, m9, n9, ct9, w⟩ := w
    obtain ⟨⟨x1, x2, x3⟩, w⟩ := w
    obtain ⟨x4, w⟩ := w
    refine r_callV X (As := [.ref v9]) dX11_mend_40 mk_X4_keep ⟨ml_X11_225, im_X4_keep, se_X4_keep⟩ (oF_s es9) (ci_X4).1 rfl rfl rfl (by simp [Value.category]) ⟨x1, by show 60 * (d9 + 1) + 200 ≤ 60 * D + 200; omega⟩ ⟨x2, x3⟩ ct9 x4 (fun _ z => nomatch z) (fun _ => ⟨x2, x3⟩) (fun v h9 w1 => ?_)
    have w := w v h9 w1
    have hk : (kc + m0) + m9 ≤ mc ∧ (ks + n0) + n9 ≤ ms := ⟨x2, x3⟩
    obtain ⟨rfl, w⟩ := w
    refine r_aload_n X dX11_mend_43 rfl ?_
    obtain ⟨v11, ev11, w⟩ := w
    obtain ⟨fv11, cv11, qv11⟩ := gN_s ev11
    refine r_getf X dX11_mend_44 fl_X11_42 cv11 qv11 ?_
    obtain ⟨v12, ev12, w⟩ := w
    obtain ⟨fv12, cv12, qv12⟩ := gN_s ev12
    refine r_getf X dX11_mend_47 fl_X11_84 cv12 qv12 ?_
    refine r_aload_n X dX11_mend_50 rfl ?_
    obtain ⟨v13, ev13, w⟩ := w
    obtain ⟨fv13, cv13, qv13⟩ := gN_s ev13
    refine r_getf X dX11_mend_51 fl_X11_32 cv13 qv13 ?_
    refine r_iload_n X dX11_mend_54 rfl ?_
    obtain ⟨fs13, es13, w⟩ := w
    obtain ⟨d13, P13, E13, m13, n13, ct13, w⟩ := w
    obtain ⟨⟨x1, x2, x3⟩, w⟩ := w
    obtain ⟨x4, w⟩ := w
    refine r_callV X (As := [.ref v13, .int l1]) dX11_mend_55 mk_X2_mendBy ⟨ml_X11_232, im_X2_mendBy, se_X2_mendBy⟩ (oF_s es13) (ci_X2).1 rfl rfl rfl (by simp [Value.category]) ⟨x1, by show 60 * (d13 + 1) + 200 ≤ 60 * D + 200; omega⟩ ⟨x2, x3⟩ ct13 x4 (fun _ z => nomatch z) (fun _ => ⟨x2, x3⟩) (fun v h13 w1 => ?_)
    have w := w v h13 w1
    have hk : ((kc + m0) + m9) + m13 ≤ mc ∧ ((ks + n0) + n9) + n13 ≤ ms := ⟨x2, x3⟩
    obtain ⟨rfl, w⟩ := w
    refine r_aload_n X dX11_mend_58 rfl ?_
    obtain ⟨v15, ev15, w⟩ := w
    obtain ⟨fv15, cv15, qv15⟩ := gN_s ev15
    refine r_getf X dX11_mend_59 fl_X11_42 cv15 qv15 ?_
    obtain ⟨v16, ev16, w⟩ := w
    obtain ⟨fv16, cv16, qv16⟩ := gN_s ev16
    refine r_getf X dX11_mend_62 fl_X11_84 cv16 qv16 ?_
    refine r_iload_n X dX11_mend_65 rfl ?_
    obtain ⟨fs16, es16, w⟩ := w
    obtain ⟨d16, P16, E16, m16, n16, ct16, w⟩ := w
    obtain ⟨⟨x1, x2, x3⟩, w⟩ := w
    obtain ⟨x4, w⟩ := w
    refine r_callV X (As := [.int l1]) dX11_mend_66 mk_X2_seamWhere ⟨ml_X11_235, im_X2_seamWhere, se_X2_seamWhere⟩ (oF_s es16) (ci_X2).1 rfl rfl rfl (by simp [Value.category]) ⟨x1, by show 60 * (d16 + 1) + 200 ≤ 60 * D + 200; omega⟩ ⟨x2, x3⟩ ct16 x4 (fun _ z => nomatch z) (fun _ => ⟨x2, x3⟩) (fun v h16 w1 => ?_)
    have w := w v h16 w1
    have hk : (((kc + m0) + m9) + m13) + m16 ≤ mc ∧ (((ks + n0) + n9) + n13) + n16 ≤ ms := ⟨x2, x3⟩
    obtain ⟨v18, rfl, w⟩ := w
    exact r_iret X dX11_mend_69 rfl w hk.1 hk.2
  · have w := w.2 q
    refine r_aload_n X dX11_mend_21 rfl ?_
    obtain ⟨fs18, es18, w⟩ := w
    obtain ⟨d18, P18, E18, m18, n18, ct18, w⟩ := w
    obtain ⟨⟨x1, x2, x3⟩, w⟩ := w
    obtain ⟨x4, w⟩ := w
    refine r_callV X (As := []) dX11_mend_22 mk_X11_refuseAct ⟨ml_X11_221, im_X11_refuseAct, se_X11_refuseAct⟩ (oF_s es18) (ci_X11).1 rfl rfl rfl (by simp [Value.category]) ⟨x1, by show 60 * (d18 + 1) + 200 ≤ 60 * D + 200; omega⟩ ⟨x2, x3⟩ ct18 x4 (fun _ z => nomatch z) (fun _ => ⟨x2, x3⟩) (fun v h18 w1 => ?_)
    have w := w v h18 w1
    have hk : (kc + m0) + m18 ≤ mc ∧ (ks + n0) + n18 ≤ ms := ⟨x2, x3⟩
    obtain ⟨v20, rfl, w⟩ := w
    exact r_iret X dX11_mend_25 rfl w hk.1 hk.2

set_option maxRecDepth 10000 in
theorem b_X11_nearest_0 {g : GG} {K : KX} {D mc ms : Nat} {Pr : Option Value → Hp → Prop} {Pt : String → Hp → Prop} {kc ks : Nat} (hg : GOK g) (hD : 8 ≤ D) (hk : kc ≤ mc ∧ ks ≤ ms) (X : CB g K cX11_nearest 6 yX11_nearest (some (.int)) []) (l0 : Nat) (l1 : Int32) (h : Hp)
    (w : (∃ fs0, oF h l0 10 = some fs0 ∧ (∃ d0 P0 E0 m0 n0, CT g d0 yX11_needStretch (wsC yX11_needStretch cX11_needStretch 2 none) [.ref l0, .int l1] h m0 n0 P0 E0 ∧ (d0 + 1 ≤ D ∧ kc + m0 ≤ mc ∧ ks + n0 ≤ ms) ∧ (∀ E h', E0 E h' → Pt E h') ∧ (∀ v h0, P0 v h0 → v = none ∧ VB g K 6 D mc ms Pr Pt ((kc + m0)) ((ks + n0)) 13 [some (.ref l0), some (.int l1), some (.int ((-1 : Int32))), some (.int ((12 : Int32))), some (.int ((0 : Int32))), none] [] h0)))) : VB g K 6 D mc ms Pr Pt kc ks 0 [some (.ref l0), some (.int l1), none, none, none, none] [] h := by
  obtain ⟨p, e, s, m, args, below, meth, c⟩ := K
  have X : CX g p s m args meth c cX11_nearest 6 yX11_nearest (some (.int)) [] := X
  have hz := hg s X.gk.z
  show VV g p e (rmm D mc ms) s m args below meth c 6 (QQ g below args s mc ms Pr Pt) kc ks 0 [some (.ref l0), some (.int l1), none, none, none, none] [] h
  refine r_aload_n X dX11_nearest_0 rfl ?_
  refine r_iload_n X dX11_nearest_1 rfl ?_
  obtain ⟨fs0, es0, w⟩ := w
  obtain ⟨d0, P0, E0, m0, n0, ct0, w⟩ := w
  obtain ⟨⟨x1, x2, x3⟩, w⟩ := w
  obtain ⟨x4, w⟩ := w
  refine r_callV X (As := [.int l1]) dX11_nearest_2 mk_X11_needStretch ⟨ml_X11_179, im_X11_needStretch, se_X11_needStretch⟩ (oF_s es0) (ci_X11).1 rfl rfl rfl (by simp [Value.category]) ⟨x1, by show 60 * (d0 + 1) + 200 ≤ 60 * D + 200; omega⟩ ⟨x2, x3⟩ ct0 x4 (fun _ z => nomatch z) (fun _ => ⟨x2, x3⟩) (fun v h0 w1 => ?_)
  have w := w v h0 w1
  have hk : kc + m0 ≤ mc ∧ ks + n0 ≤ ms := ⟨x2, x3⟩
  obtain ⟨rfl, w⟩ := w
  refine r_iconst X dX11_nearest_5 (v := -1) (by decide) ?_
  refine r_istore_n X dX11_nearest_6 (by decide) rfl ?_
  refine r_bipush X dX11_nearest_7 (v := 12) (by decide) ?_
  refine r_istore_n X dX11_nearest_9 (by decide) rfl ?_
  refine r_iconst X dX11_nearest_10 (v := 0) (by decide) ?_
  refine r_istore X dX11_nearest_11 (by decide) rfl ?_
  refine VB_wk (ls' := [some (.ref l0), some (.int l1), some (.int ((-1 : Int32))), some (.int ((12 : Int32))), some (.int ((0 : Int32))), none]) ?_ w
  exact (And.intro rfl (And.intro rfl (And.intro rfl (And.intro rfl (And.intro rfl trivial)))))

set_option maxRecDepth 10000 in
theorem b_X11_nearest_13 {g : GG} {K : KX} {D mc ms : Nat} {Pr : Option Value → Hp → Prop} {Pt : String → Hp → Prop} {kc ks : Nat} (hg : GOK g) (hD : 8 ≤ D) (hk : kc ≤ mc ∧ ks ≤ ms) (X : CB g K cX11_nearest 6 yX11_nearest (some (.int)) []) (l0 : Nat) (l1 : Int32) (l2 : Int32) (l3 : Int32) (l4 : Int32) (h : Hp)
    (w : (∃ v1, gN h l0 10 6 = some v1 ∧ (∃ v2, gI h v1 9 1 = some v2 ∧ ((v2 ≤ l4 → Pr (some (.int l2)) h) ∧ (¬ v2 ≤ l4 → (∃ v3, gN h l0 10 6 = some v3 ∧ (∃ v4, gN h l0 10 8 = some v4 ∧ (∃ v5, gN h v4 3 0 = some v5 ∧ (∃ v6, gN h v5 2 4 = some v6 ∧ (∃ v7, aI h 0 v6 l4 = some v7 ∧ (∃ fs7, oF h v3 9 = some fs7 ∧ (∃ d7 P7 E7 m7 n7, CT g d7 yX9_steps (wsC yX9_steps cX9_steps 4 (some (.int))) [.ref v3, .int v7, .int l1] h m7 n7 P7 E7 ∧ (d7 + 1 ≤ D ∧ kc + m7 ≤ mc ∧ ks + n7 ≤ ms) ∧ (∀ E h', E7 E h' → Pt E h') ∧ (∀ v h7, P7 v h7 → ∃ v9, v = some (.int v9) ∧ ((l3 ≤ v9 → VB g K 6 D mc ms Pr Pt ((kc + m7)) ((ks + n7)) 60 [some (.ref l0), some (.int l1), some (.int l2), some (.int l3), some (.int l4), none] [] h7) ∧ (¬ l3 ≤ v9 → VB g K 6 D mc ms Pr Pt ((kc + m7)) ((ks + n7)) 60 [some (.ref l0), some (.int l1), some (.int l4), some (.int v9), some (.int l4), none] [] h7))))))))))))))) : VB g K 6 D mc ms Pr Pt kc ks 13 [some (.ref l0), some (.int l1), some (.int l2), some (.int l3), some (.int l4), none] [] h := by
  obtain ⟨p, e, s, m, args, below, meth, c⟩ := K
  have X : CX g p s m args meth c cX11_nearest 6 yX11_nearest (some (.int)) [] := X
  have hz := hg s X.gk.z
  show VV g p e (rmm D mc ms) s m args below meth c 6 (QQ g below args s mc ms Pr Pt) kc ks 13 [some (.ref l0), some (.int l1), some (.int l2), some (.int l3), some (.int l4), none] [] h
  refine r_iload X dX11_nearest_13 rfl ?_
  refine r_aload_n X dX11_nearest_15 rfl ?_
  obtain ⟨v1, ev1, w⟩ := w
  obtain ⟨fv1, cv1, qv1⟩ := gN_s ev1
  refine r_getf X dX11_nearest_16 fl_X11_32 cv1 qv1 ?_
  obtain ⟨v2, ev2, w⟩ := w
  obtain ⟨fv2, cv2, qv2⟩ := gI_s ev2
  refine r_getf X dX11_nearest_19 fl_X11_144 cv2 qv2 ?_
  refine r_icmp_ge X dX11_nearest_22 (tgt := 66) (by decide) (fun q => ?_) (fun q => ?_)
  · have w := w.1 q
    refine r_iload_n X dX11_nearest_66 rfl ?_
    exact r_iret X dX11_nearest_67 rfl w hk.1 hk.2
  · have w := w.2 q
    refine r_aload_n X dX11_nearest_25 rfl ?_
    obtain ⟨v3, ev3, w⟩ := w
    obtain ⟨fv3, cv3, qv3⟩ := gN_s ev3
    refine r_getf X dX11_nearest_26 fl_X11_32 cv3 qv3 ?_
    refine r_aload_n X dX11_nearest_29 rfl ?_
    obtain ⟨v4, ev4, w⟩ := w
    obtain ⟨fv4, cv4, qv4⟩ := gN_s ev4
    refine r_getf X dX11_nearest_30 fl_X11_42 cv4 qv4 ?_
    obtain ⟨v5, ev5, w⟩ := w
    obtain ⟨fv5, cv5, qv5⟩ := gN_s ev5
    refine r_getf X dX11_nearest_33 fl_X11_84 cv5 qv5 ?_
    obtain ⟨v6, ev6, w⟩ := w
    obtain ⟨fv6, cv6, qv6⟩ := gN_s ev6
    refine r_getf X dX11_nearest_36 fl_X11_213 cv6 qv6 ?_
    refine r_iload X dX11_nearest_39 rfl ?_
    obtain ⟨v7, ev7, w⟩ := w
    obtain ⟨nv7, fv7, cv7, iv7, qv7⟩ := aI_s ev7
    refine r_iald X dX11_nearest_41 cv7 iv7 ?_
    rw [qv7]
    refine r_iload_n X dX11_nearest_42 rfl ?_
    obtain ⟨fs7, es7, w⟩ := w
    obtain ⟨d7, P7, E7, m7, n7, ct7, w⟩ := w
    obtain ⟨⟨x1, x2, x3⟩, w⟩ := w
    obtain ⟨x4, w⟩ := w
    refine r_callV X (As := [.int v7, .int l1]) dX11_nearest_43 mk_X9_steps ⟨ml_X11_334, im_X9_steps, se_X9_steps⟩ (oF_s es7) (ci_X9).1 rfl rfl rfl (by simp [Value.category]) ⟨x1, by show 60 * (d7 + 1) + 200 ≤ 60 * D + 200; omega⟩ ⟨x2, x3⟩ ct7 x4 (fun _ z => nomatch z) (fun _ => ⟨x2, x3⟩) (fun v h7 w1 => ?_)
    have w := w v h7 w1
    have hk : kc + m7 ≤ mc ∧ ks + n7 ≤ ms := ⟨x2, x3⟩
    obtain ⟨v9, rfl, w⟩ := w
    refine r_istore X dX11_nearest_46 (by decide) rfl ?_
    refine r_iload X dX11_nearest_48 rfl ?_
    refine r_iload_n X dX11_nearest_50 rfl ?_
    refine r_icmp_ge X dX11_nearest_51 (tgt := 60) (by decide) (fun q => ?_) (fun q => ?_)
    · have w := w.1 q
      refine VB_wk (ls' := [some (.ref l0), some (.int l1), some (.int l2), some (.int l3), some (.int l4), none]) ?_ w
      exact (And.intro rfl (And.intro rfl (And.intro rfl (And.intro rfl (And.intro rfl trivial)))))
    · have w := w.2 q
      refine r_iload X dX11_nearest_54 rfl ?_
      refine r_istore_n X dX11_nearest_56 (by decide) rfl ?_
      refine r_iload X dX11_nearest_57 rfl ?_
      refine r_istore_n X dX11_nearest_59 (by decide) rfl ?_
      refine VB_wk (ls' := [some (.ref l0), some (.int l1), some (.int l4), some (.int v9), some (.int l4), none]) ?_ w
      exact (And.intro rfl (And.intro rfl (And.intro rfl (And.intro rfl (And.intro rfl trivial)))))

set_option maxRecDepth 10000 in
theorem b_X11_nearest_60 {g : GG} {K : KX} {D mc ms : Nat} {Pr : Option Value → Hp → Prop} {Pt : String → Hp → Prop} {kc ks : Nat} (hg : GOK g) (hD : 8 ≤ D) (hk : kc ≤ mc ∧ ks ≤ ms) (X : CB g K cX11_nearest 6 yX11_nearest (some (.int)) []) (l0 : Nat) (l1 : Int32) (l2 : Int32) (l3 : Int32) (l4 : Int32) (h : Hp)
    (w : VB g K 6 D mc ms Pr Pt kc ks 13 [some (.ref l0), some (.int l1), some (.int l2), some (.int l3), some (.int ((l4 + 1))), none] [] h) : VB g K 6 D mc ms Pr Pt kc ks 60 [some (.ref l0), some (.int l1), some (.int l2), some (.int l3), some (.int l4), none] [] h := by
  obtain ⟨p, e, s, m, args, below, meth, c⟩ := K
  have X : CX g p s m args meth c cX11_nearest 6 yX11_nearest (some (.int)) [] := X
  have hz := hg s X.gk.z
  show VV g p e (rmm D mc ms) s m args below meth c 6 (QQ g below args s mc ms Pr Pt) kc ks 60 [some (.ref l0), some (.int l1), some (.int l2), some (.int l3), some (.int l4), none] [] h
  refine r_iinc X dX11_nearest_60 rfl (v := (l4 + 1)) rfl (by decide) rfl ?_
  refine r_goto X dX11_nearest_63 (tgt := 13) (by decide) ?_
  refine VB_wk (ls' := [some (.ref l0), some (.int l1), some (.int l2), some (.int l3), some (.int ((l4 + 1))), none]) ?_ w
  exact (And.intro rfl (And.intro rfl (And.intro rfl (And.intro rfl (And.intro rfl trivial)))))

set_option maxRecDepth 10000 in
theorem b_X11_needDays_0 {g : GG} {K : KX} {D mc ms : Nat} {Pr : Option Value → Hp → Prop} {Pt : String → Hp → Prop} {kc ks : Nat} (hg : GOK g) (hD : 8 ≤ D) (hk : kc ≤ mc ∧ ks ≤ ms) (X : CB g K cX11_needDays 2 yX11_needDays none []) (l0 : Int32) (l1 : Int32) (h : Hp)
    (w : ((l0 < l1 → VB g K 2 D mc ms Pr Pt kc ks 11 [none, none] [] h) ∧ (¬ l0 < l1 → ((l0 ≤ (60 : Int32) → Pr none h) ∧ (¬ l0 ≤ (60 : Int32) → VB g K 2 D mc ms Pr Pt kc ks 11 [none, none] [] h))))) : VB g K 2 D mc ms Pr Pt kc ks 0 [some (.int l0), some (.int l1)] [] h := by
  obtain ⟨p, e, s, m, args, below, meth, c⟩ := K
  have X : CX g p s m args meth c cX11_needDays 2 yX11_needDays none [] := X
  have hz := hg s X.gk.z
  show VV g p e (rmm D mc ms) s m args below meth c 2 (QQ g below args s mc ms Pr Pt) kc ks 0 [some (.int l0), some (.int l1)] [] h
  refine r_iload_n X dX11_needDays_0 rfl ?_
  refine r_iload_n X dX11_needDays_1 rfl ?_
  refine r_icmp_lt X dX11_needDays_2 (tgt := 11) (by decide) (fun q => ?_) (fun q => ?_)
  · have w := w.1 q
    refine VB_wk (ls' := [none, none]) ?_ w
    exact trivial
  · have w := w.2 q
    refine r_iload_n X dX11_needDays_5 rfl ?_
    refine r_bipush X dX11_needDays_6 (v := 60) (by decide) ?_
    refine r_icmp_le X dX11_needDays_8 (tgt := 22) (by decide) (fun q => ?_) (fun q => ?_)
    · have w := w.1 q
      exact r_vret X dX11_needDays_22 rfl w hk.1 hk.2
    · have w := w.2 q
      refine VB_wk (ls' := [none, none]) ?_ w
      exact trivial

set_option maxRecDepth 10000 in
theorem b_X11_needDays_11 {g : GG} {K : KX} {D mc ms : Nat} {Pr : Option Value → Hp → Prop} {Pt : String → Hp → Prop} {kc ks : Nat} (hg : GOK g) (hD : 8 ≤ D) (hk : kc ≤ mc ∧ ks ≤ ms) (X : CB g K cX11_needDays 2 yX11_needDays none [])  (h : Hp)
    (w : ((kc + 1 ≤ mc ∧ ks + 6 ≤ ms) ∧ Pt "java/lang/IllegalArgumentException" (h ++ [dead]))) : VB g K 2 D mc ms Pr Pt kc ks 11 [none, none] [] h := by
  obtain ⟨p, e, s, m, args, below, meth, c⟩ := K
  have X : CX g p s m args meth c cX11_needDays 2 yX11_needDays none [] := X
  have hz := hg s X.gk.z
  show VV g p e (rmm D mc ms) s m args below meth c 2 (QQ g below args s mc ms Pr Pt) kc ks 11 [none, none] [] h
  obtain ⟨q1, w⟩ := w
  exact r_throwSW X hz.1 (hz.2.1 (RX11, 95, 416, 99, "java/lang/IllegalArgumentException", "not so many days") (by decide)) dX11_needDays_11 dX11_needDays_14 dX11_needDays_15 dX11_needDays_18 dX11_needDays_21 (fun _ z => nomatch z) (by refine ⟨?_, ?_, q1.1, q1.2⟩ <;> simp [rmm, Value.category] <;> omega) q1.1 q1.2 w

set_option maxRecDepth 10000 in
theorem b_X11_needStretch_0 {g : GG} {K : KX} {D mc ms : Nat} {Pr : Option Value → Hp → Prop} {Pt : String → Hp → Prop} {kc ks : Nat} (hg : GOK g) (hD : 8 ≤ D) (hk : kc ≤ mc ∧ ks ≤ ms) (X : CB g K cX11_needStretch 2 yX11_needStretch none []) (l0 : Nat) (l1 : Int32) (h : Hp)
    (w : (∃ fs0, oF h l0 10 = some fs0 ∧ (∃ d0 P0 E0 m0 n0, CT g d0 yX11_isStretch (wsC yX11_isStretch cX11_isStretch 2 (some (.boolean))) [.ref l0, .int l1] h m0 n0 P0 E0 ∧ (d0 + 1 ≤ D ∧ kc + m0 ≤ mc ∧ ks + n0 ≤ ms) ∧ (∀ E h', E0 E h' → Pt E h') ∧ (∀ v h0, P0 v h0 → ∃ v2, v = some (.int v2) ∧ ((¬ v2 = 0 → Pr none h0) ∧ (v2 = 0 → (((kc + m0) + 1 ≤ mc ∧ (ks + n0) + 6 ≤ ms) ∧ Pt "java/util/NoSuchElementException" (h0 ++ [dead])))))))) : VB g K 2 D mc ms Pr Pt kc ks 0 [some (.ref l0), some (.int l1)] [] h := by
  obtain ⟨p, e, s, m, args, below, meth, c⟩ := K
  have X : CX g p s m args meth c cX11_needStretch 2 yX11_needStretch none [] := X
  have hz := hg s X.gk.z
  show VV g p e (rmm D mc ms) s m args below meth c 2 (QQ g below args s mc ms Pr Pt) kc ks 0 [some (.ref l0), some (.int l1)] [] h
  refine r_aload_n X dX11_needStretch_0 rfl ?_
  refine r_iload_n X dX11_needStretch_1 rfl ?_
  obtain ⟨fs0, es0, w⟩ := w
  obtain ⟨d0, P0, E0, m0, n0, ct0, w⟩ := w
  obtain ⟨⟨x1, x2, x3⟩, w⟩ := w
  obtain ⟨x4, w⟩ := w
  refine r_callV X (As := [.int l1]) dX11_needStretch_2 mk_X11_isStretch ⟨ml_X11_295, im_X11_isStretch, se_X11_isStretch⟩ (oF_s es0) (ci_X11).1 rfl rfl rfl (by simp [Value.category]) ⟨x1, by show 60 * (d0 + 1) + 200 ≤ 60 * D + 200; omega⟩ ⟨x2, x3⟩ ct0 x4 (fun _ z => nomatch z) (fun _ => ⟨x2, x3⟩) (fun v h0 w1 => ?_)
  have w := w v h0 w1
  have hk : kc + m0 ≤ mc ∧ ks + n0 ≤ ms := ⟨x2, x3⟩
  obtain ⟨v2, rfl, w⟩ := w
  refine r_if_ne X dX11_needStretch_5 (tgt := 19) (by decide) (fun q => ?_) (fun q => ?_)
  · have w := w.1 q
    exact r_vret X dX11_needStretch_19 rfl w hk.1 hk.2
  · have w := w.2 q
    obtain ⟨q3, w⟩ := w
    exact r_throwSW X hz.1 (hz.2.1 (RX11, 174, 410, 178, "java/util/NoSuchElementException", "no such stretch") (by decide)) dX11_needStretch_8 dX11_needStretch_11 dX11_needStretch_12 dX11_needStretch_15 dX11_needStretch_18 (fun _ z => nomatch z) (by refine ⟨?_, ?_, q3.1, q3.2⟩ <;> simp [rmm, Value.category] <;> omega) q3.1 q3.2 w

set_option maxRecDepth 10000 in
theorem b_X11_needWhat_0 {g : GG} {K : KX} {D mc ms : Nat} {Pr : Option Value → Hp → Prop} {Pt : String → Hp → Prop} {kc ks : Nat} (hg : GOK g) (hD : 8 ≤ D) (hk : kc ≤ mc ∧ ks ≤ ms) (X : CB g K cX11_needWhat 2 yX11_needWhat none []) (l0 : Int32) (l1 : Int32) (h : Hp)
    (w : ((l0 < 0 → VB g K 2 D mc ms Pr Pt kc ks 9 [none, none] [] h) ∧ (¬ l0 < 0 → ((l0 ≤ l1 → Pr none h) ∧ (¬ l0 ≤ l1 → VB g K 2 D mc ms Pr Pt kc ks 9 [none, none] [] h))))) : VB g K 2 D mc ms Pr Pt kc ks 0 [some (.int l0), some (.int l1)] [] h := by
  obtain ⟨p, e, s, m, args, below, meth, c⟩ := K
  have X : CX g p s m args meth c cX11_needWhat 2 yX11_needWhat none [] := X
  have hz := hg s X.gk.z
  show VV g p e (rmm D mc ms) s m args below meth c 2 (QQ g below args s mc ms Pr Pt) kc ks 0 [some (.int l0), some (.int l1)] [] h
  refine r_iload_n X dX11_needWhat_0 rfl ?_
  refine r_if_lt X dX11_needWhat_1 (tgt := 9) (by decide) (fun q => ?_) (fun q => ?_)
  · have w := w.1 q
    refine VB_wk (ls' := [none, none]) ?_ w
    exact trivial
  · have w := w.2 q
    refine r_iload_n X dX11_needWhat_4 rfl ?_
    refine r_iload_n X dX11_needWhat_5 rfl ?_
    refine r_icmp_le X dX11_needWhat_6 (tgt := 20) (by decide) (fun q => ?_) (fun q => ?_)
    · have w := w.1 q
      exact r_vret X dX11_needWhat_20 rfl w hk.1 hk.2
    · have w := w.2 q
      refine VB_wk (ls' := [none, none]) ?_ w
      exact trivial

set_option maxRecDepth 10000 in
theorem b_X11_needWhat_9 {g : GG} {K : KX} {D mc ms : Nat} {Pr : Option Value → Hp → Prop} {Pt : String → Hp → Prop} {kc ks : Nat} (hg : GOK g) (hD : 8 ≤ D) (hk : kc ≤ mc ∧ ks ≤ ms) (X : CB g K cX11_needWhat 2 yX11_needWhat none [])  (h : Hp)
    (w : ((kc + 1 ≤ mc ∧ ks + 6 ≤ ms) ∧ Pt "java/util/NoSuchElementException" (h ++ [dead]))) : VB g K 2 D mc ms Pr Pt kc ks 9 [none, none] [] h := by
  obtain ⟨p, e, s, m, args, below, meth, c⟩ := K
  have X : CX g p s m args meth c cX11_needWhat 2 yX11_needWhat none [] := X
  have hz := hg s X.gk.z
  show VV g p e (rmm D mc ms) s m args below meth c 2 (QQ g below args s mc ms Pr Pt) kc ks 9 [none, none] [] h
  obtain ⟨q1, w⟩ := w
  exact r_throwSW X hz.1 (hz.2.1 (RX11, 174, 414, 178, "java/util/NoSuchElementException", "no such what") (by decide)) dX11_needWhat_9 dX11_needWhat_12 dX11_needWhat_13 dX11_needWhat_16 dX11_needWhat_19 (fun _ z => nomatch z) (by refine ⟨?_, ?_, q1.1, q1.2⟩ <;> simp [rmm, Value.category] <;> omega) q1.1 q1.2 w

set_option maxRecDepth 10000 in
theorem b_X11_needWoman_0 {g : GG} {K : KX} {D mc ms : Nat} {Pr : Option Value → Hp → Prop} {Pt : String → Hp → Prop} {kc ks : Nat} (hg : GOK g) (hD : 8 ≤ D) (hk : kc ≤ mc ∧ ks ≤ ms) (X : CB g K cX11_needWoman 2 yX11_needWoman none []) (l0 : Nat) (l1 : Int32) (h : Hp)
    (w : ((l1 < 0 → VB g K 2 D mc ms Pr Pt kc ks 15 [none, none] [] h) ∧ (¬ l1 < 0 → (∃ v1, gN h l0 10 6 = some v1 ∧ (∃ v2, gI h v1 9 1 = some v2 ∧ ((l1 < v2 → Pr none h) ∧ (¬ l1 < v2 → VB g K 2 D mc ms Pr Pt kc ks 15 [none, none] [] h))))))) : VB g K 2 D mc ms Pr Pt kc ks 0 [some (.ref l0), some (.int l1)] [] h := by
  obtain ⟨p, e, s, m, args, below, meth, c⟩ := K
  have X : CX g p s m args meth c cX11_needWoman 2 yX11_needWoman none [] := X
  have hz := hg s X.gk.z
  show VV g p e (rmm D mc ms) s m args below meth c 2 (QQ g below args s mc ms Pr Pt) kc ks 0 [some (.ref l0), some (.int l1)] [] h
  refine r_iload_n X dX11_needWoman_0 rfl ?_
  refine r_if_lt X dX11_needWoman_1 (tgt := 15) (by decide) (fun q => ?_) (fun q => ?_)
  · have w := w.1 q
    refine VB_wk (ls' := [none, none]) ?_ w
    exact trivial
  · have w := w.2 q
    refine r_iload_n X dX11_needWoman_4 rfl ?_
    refine r_aload_n X dX11_needWoman_5 rfl ?_
    obtain ⟨v1, ev1, w⟩ := w
    obtain ⟨fv1, cv1, qv1⟩ := gN_s ev1
    refine r_getf X dX11_needWoman_6 fl_X11_32 cv1 qv1 ?_
    obtain ⟨v2, ev2, w⟩ := w
    obtain ⟨fv2, cv2, qv2⟩ := gI_s ev2
    refine r_getf X dX11_needWoman_9 fl_X11_144 cv2 qv2 ?_
    refine r_icmp_lt X dX11_needWoman_12 (tgt := 26) (by decide) (fun q => ?_) (fun q => ?_)
    · have w := w.1 q
      exact r_vret X dX11_needWoman_26 rfl w hk.1 hk.2
    · have w := w.2 q
      refine VB_wk (ls' := [none, none]) ?_ w
      exact trivial

set_option maxRecDepth 10000 in
theorem b_X11_needWoman_15 {g : GG} {K : KX} {D mc ms : Nat} {Pr : Option Value → Hp → Prop} {Pt : String → Hp → Prop} {kc ks : Nat} (hg : GOK g) (hD : 8 ≤ D) (hk : kc ≤ mc ∧ ks ≤ ms) (X : CB g K cX11_needWoman 2 yX11_needWoman none [])  (h : Hp)
    (w : ((kc + 1 ≤ mc ∧ ks + 6 ≤ ms) ∧ Pt "java/util/NoSuchElementException" (h ++ [dead]))) : VB g K 2 D mc ms Pr Pt kc ks 15 [none, none] [] h := by
  obtain ⟨p, e, s, m, args, below, meth, c⟩ := K
  have X : CX g p s m args meth c cX11_needWoman 2 yX11_needWoman none [] := X
  have hz := hg s X.gk.z
  show VV g p e (rmm D mc ms) s m args below meth c 2 (QQ g below args s mc ms Pr Pt) kc ks 15 [none, none] [] h
  obtain ⟨q1, w⟩ := w
  exact r_throwSW X hz.1 (hz.2.1 (RX11, 174, 412, 178, "java/util/NoSuchElementException", "no such woman") (by decide)) dX11_needWoman_15 dX11_needWoman_18 dX11_needWoman_19 dX11_needWoman_22 dX11_needWoman_25 (fun _ z => nomatch z) (by refine ⟨?_, ?_, q1.1, q1.2⟩ <;> simp [rmm, Value.category] <;> omega) q1.1 q1.2 w

set_option maxRecDepth 10000 in
theorem b_X11_opens_0 {g : GG} {K : KX} {D mc ms : Nat} {Pr : Option Value → Hp → Prop} {Pt : String → Hp → Prop} {kc ks : Nat} (hg : GOK g) (hD : 8 ≤ D) (hk : kc ≤ mc ∧ ks ≤ ms) (X : CB g K cX11_opens 3 yX11_opens (some (.int)) []) (l0 : Nat) (l1 : Int32) (h : Hp)
    (w : (∃ fs0, oF h l0 10 = some fs0 ∧ (∃ d0 P0 E0 m0 n0, CT g d0 yX11_needStretch (wsC yX11_needStretch cX11_needStretch 2 none) [.ref l0, .int l1] h m0 n0 P0 E0 ∧ (d0 + 1 ≤ D ∧ kc + m0 ≤ mc ∧ ks + n0 ≤ ms) ∧ (∀ E h', E0 E h' → Pt E h') ∧ (∀ v h0, P0 v h0 → v = none ∧ (∃ v2, gN h0 l0 10 11 = some v2 ∧ (∃ v3, gN h0 l0 10 8 = some v3 ∧ (∃ v4, gN h0 v3 3 0 = some v4 ∧ (∃ fs4, oF h0 v2 2 = some fs4 ∧ (∃ d4 P4 E4 m4 n4, CT g d4 yX2_copyFrom (wsC yX2_copyFrom cX2_copyFrom 2 none) [.ref v2, .ref v4] h0 m4 n4 P4 E4 ∧ (d4 + 1 ≤ D ∧ (kc + m0) + m4 ≤ mc ∧ (ks + n0) + n4 ≤ ms) ∧ (∀ E h', E4 E h' → Pt E h') ∧ (∀ v h4, P4 v h4 → v = none ∧ VB g K 3 D mc ms Pr Pt (((kc + m0) + m4)) (((ks + n0) + n4)) 21 [some (.ref l0), some (.int l1), some (.int ((0 : Int32)))] [] h4)))))))))) : VB g K 3 D mc ms Pr Pt kc ks 0 [some (.ref l0), some (.int l1), none] [] h := by
  obtain ⟨p, e, s, m, args, below, meth, c⟩ := K
  have X : CX g p s m args meth c cX11_opens 3 yX11_opens (some (.int)) [] := X
  have hz := hg s X.gk.z
  show VV g p e (rmm D mc ms) s m args below meth c 3 (QQ g below args s mc ms Pr Pt) kc ks 0 [some (.ref l0), some (.int l1), none] [] h
  refine r_aload_n X dX11_opens_0 rfl ?_
  refine r_iload_n X dX11_opens_1 rfl ?_
  obtain ⟨fs0, es0, w⟩ := w
  obtain ⟨d0, P0, E0, m0, n0, ct0, w⟩ := w
  obtain ⟨⟨x1, x2, x3⟩, w⟩ := w
  obtain ⟨x4, w⟩ := w
  refine r_callV X (As := [.int l1]) dX11_opens_2 mk_X11_needStretch ⟨ml_X11_179, im_X11_needStretch, se_X11_needStretch⟩ (oF_s es0) (ci_X11).1 rfl rfl rfl (by simp [Value.category]) ⟨x1, by show 60 * (d0 + 1) + 200 ≤ 60 * D + 200; omega⟩ ⟨x2, x3⟩ ct0 x4 (fun _ z => nomatch z) (fun _ => ⟨x2, x3⟩) (fun v h0 w1 => ?_)
  have w := w v h0 w1
  have hk : kc + m0 ≤ mc ∧ ks + n0 ≤ ms := ⟨x2, x3⟩
  obtain ⟨rfl, w⟩ := w
  refine r_aload_n X dX11_opens_5 rfl ?_
  obtain ⟨v2, ev2, w⟩ := w
  obtain ⟨fv2, cv2, qv2⟩ := gN_s ev2
  refine r_getf X dX11_opens_6 fl_X11_56 cv2 qv2 ?_
  refine r_aload_n X dX11_opens_9 rfl ?_
  obtain ⟨v3, ev3, w⟩ := w
  obtain ⟨fv3, cv3, qv3⟩ := gN_s ev3
  refine r_getf X dX11_opens_10 fl_X11_42 cv3 qv3 ?_
  obtain ⟨v4, ev4, w⟩ := w
  obtain ⟨fv4, cv4, qv4⟩ := gN_s ev4
  refine r_getf X dX11_opens_13 fl_X11_84 cv4 qv4 ?_
  obtain ⟨fs4, es4, w⟩ := w
  obtain ⟨d4, P4, E4, m4, n4, ct4, w⟩ := w
  obtain ⟨⟨x1, x2, x3⟩, w⟩ := w
  obtain ⟨x4, w⟩ := w
  refine r_callV X (As := [.ref v4]) dX11_opens_16 mk_X2_copyFrom ⟨ml_X11_123, im_X2_copyFrom, se_X2_copyFrom⟩ (oF_s es4) (ci_X2).1 rfl rfl rfl (by simp [Value.category]) ⟨x1, by show 60 * (d4 + 1) + 200 ≤ 60 * D + 200; omega⟩ ⟨x2, x3⟩ ct4 x4 (fun _ z => nomatch z) (fun _ => ⟨x2, x3⟩) (fun v h4 w1 => ?_)
  have w := w v h4 w1
  have hk : (kc + m0) + m4 ≤ mc ∧ (ks + n0) + n4 ≤ ms := ⟨x2, x3⟩
  obtain ⟨rfl, w⟩ := w
  refine r_iconst X dX11_opens_19 (v := 0) (by decide) ?_
  refine r_istore_n X dX11_opens_20 (by decide) rfl ?_
  refine VB_wk (ls' := [some (.ref l0), some (.int l1), some (.int ((0 : Int32)))]) ?_ w
  exact (And.intro rfl (And.intro rfl (And.intro rfl trivial)))

set_option maxRecDepth 10000 in
theorem b_X11_opens_21 {g : GG} {K : KX} {D mc ms : Nat} {Pr : Option Value → Hp → Prop} {Pt : String → Hp → Prop} {kc ks : Nat} (hg : GOK g) (hD : 8 ≤ D) (hk : kc ≤ mc ∧ ks ≤ ms) (X : CB g K cX11_opens 3 yX11_opens (some (.int)) []) (l0 : Nat) (l1 : Int32) (l2 : Int32) (h : Hp)
    (w : (((60 : Int32) < l2 → Pr (some (.int ((-1 : Int32)))) h) ∧ (¬ (60 : Int32) < l2 → (∃ v1, gN h l0 10 11 = some v1 ∧ (∃ fs1, oF h v1 2 = some fs1 ∧ (∃ d1 P1 E1 m1 n1, CT g d1 yX2_isOpen (wsC yX2_isOpen cX2_isOpen 2 (some (.boolean))) [.ref v1, .int l1] h m1 n1 P1 E1 ∧ (d1 + 1 ≤ D ∧ kc + m1 ≤ mc ∧ ks + n1 ≤ ms) ∧ (∀ E h', E1 E h' → Pt E h') ∧ (∀ v h1, P1 v h1 → ∃ v3, v = some (.int v3) ∧ ((v3 = 0 → (∃ v4, gN h1 l0 10 11 = some v4 ∧ (∃ v5, gN h1 l0 10 6 = some v5 ∧ (∃ fs5, oF h1 v4 2 = some fs5 ∧ (∃ d5 P5 E5 m5 n5, CT g d5 yX2_passDay (wsC yX2_passDay cX2_passDay 3 none) [.ref v4, .ref v5] h1 m5 n5 P5 E5 ∧ (d5 + 1 ≤ D ∧ (kc + m1) + m5 ≤ mc ∧ (ks + n1) + n5 ≤ ms) ∧ (∀ E h', E5 E h' → Pt E h') ∧ (∀ v h5, P5 v h5 → v = none ∧ VB g K 3 D mc ms Pr Pt (((kc + m1) + m5)) (((ks + n1) + n5)) 21 [some (.ref l0), some (.int l1), some (.int ((l2 + 1)))] [] h5)))))) ∧ (¬ v3 = 0 → Pr (some (.int l2)) h1))))))))) : VB g K 3 D mc ms Pr Pt kc ks 21 [some (.ref l0), some (.int l1), some (.int l2)] [] h := by
  obtain ⟨p, e, s, m, args, below, meth, c⟩ := K
  have X : CX g p s m args meth c cX11_opens 3 yX11_opens (some (.int)) [] := X
  have hz := hg s X.gk.z
  show VV g p e (rmm D mc ms) s m args below meth c 3 (QQ g below args s mc ms Pr Pt) kc ks 21 [some (.ref l0), some (.int l1), some (.int l2)] [] h
  refine r_iload_n X dX11_opens_21 rfl ?_
  refine r_bipush X dX11_opens_22 (v := 60) (by decide) ?_
  refine r_icmp_gt X dX11_opens_24 (tgt := 57) (by decide) (fun q => ?_) (fun q => ?_)
  · have w := w.1 q
    refine r_iconst X dX11_opens_57 (v := -1) (by decide) ?_
    exact r_iret X dX11_opens_58 rfl w hk.1 hk.2
  · have w := w.2 q
    refine r_aload_n X dX11_opens_27 rfl ?_
    obtain ⟨v1, ev1, w⟩ := w
    obtain ⟨fv1, cv1, qv1⟩ := gN_s ev1
    refine r_getf X dX11_opens_28 fl_X11_56 cv1 qv1 ?_
    refine r_iload_n X dX11_opens_31 rfl ?_
    obtain ⟨fs1, es1, w⟩ := w
    obtain ⟨d1, P1, E1, m1, n1, ct1, w⟩ := w
    obtain ⟨⟨x1, x2, x3⟩, w⟩ := w
    obtain ⟨x4, w⟩ := w
    refine r_callV X (As := [.int l1]) dX11_opens_32 mk_X2_isOpen ⟨ml_X11_195, im_X2_isOpen, se_X2_isOpen⟩ (oF_s es1) (ci_X2).1 rfl rfl rfl (by simp [Value.category]) ⟨x1, by show 60 * (d1 + 1) + 200 ≤ 60 * D + 200; omega⟩ ⟨x2, x3⟩ ct1 x4 (fun _ z => nomatch z) (fun _ => ⟨x2, x3⟩) (fun v h1 w1 => ?_)
    have w := w v h1 w1
    have hk : kc + m1 ≤ mc ∧ ks + n1 ≤ ms := ⟨x2, x3⟩
    obtain ⟨v3, rfl, w⟩ := w
    refine r_if_eq X dX11_opens_35 (tgt := 40) (by decide) (fun q => ?_) (fun q => ?_)
    · have w := w.1 q
      refine r_aload_n X dX11_opens_40 rfl ?_
      obtain ⟨v4, ev4, w⟩ := w
      obtain ⟨fv4, cv4, qv4⟩ := gN_s ev4
      refine r_getf X dX11_opens_41 fl_X11_56 cv4 qv4 ?_
      refine r_aload_n X dX11_opens_44 rfl ?_
      obtain ⟨v5, ev5, w⟩ := w
      obtain ⟨fv5, cv5, qv5⟩ := gN_s ev5
      refine r_getf X dX11_opens_45 fl_X11_32 cv5 qv5 ?_
      obtain ⟨fs5, es5, w⟩ := w
      obtain ⟨d5, P5, E5, m5, n5, ct5, w⟩ := w
      obtain ⟨⟨x1, x2, x3⟩, w⟩ := w
      obtain ⟨x4, w⟩ := w
      refine r_callV X (As := [.ref v5]) dX11_opens_48 mk_X2_passDay ⟨ml_X11_268, im_X2_passDay, se_X2_passDay⟩ (oF_s es5) (ci_X2).1 rfl rfl rfl (by simp [Value.category]) ⟨x1, by show 60 * (d5 + 1) + 200 ≤ 60 * D + 200; omega⟩ ⟨x2, x3⟩ ct5 x4 (fun _ z => nomatch z) (fun _ => ⟨x2, x3⟩) (fun v h5 w1 => ?_)
      have w := w v h5 w1
      have hk : (kc + m1) + m5 ≤ mc ∧ (ks + n1) + n5 ≤ ms := ⟨x2, x3⟩
      obtain ⟨rfl, w⟩ := w
      refine r_iinc X dX11_opens_51 rfl (v := (l2 + 1)) rfl (by decide) rfl ?_
      refine r_goto X dX11_opens_54 (tgt := 21) (by decide) ?_
      refine VB_wk (ls' := [some (.ref l0), some (.int l1), some (.int ((l2 + 1)))]) ?_ w
      exact (And.intro rfl (And.intro rfl (And.intro rfl trivial)))
    · have w := w.2 q
      refine r_iload_n X dX11_opens_38 rfl ?_
      exact r_iret X dX11_opens_39 rfl w hk.1 hk.2

set_option maxRecDepth 10000 in
theorem b_X11_play_0 {g : GG} {K : KX} {D mc ms : Nat} {Pr : Option Value → Hp → Prop} {Pt : String → Hp → Prop} {kc ks : Nat} (hg : GOK g) (hD : 8 ≤ D) (hk : kc ≤ mc ∧ ks ≤ ms) (X : CB g K cX11_play 3 yX11_play none []) (l0 : Nat) (l1 : Int32) (l2 : Int32) (h : Hp)
    (w : ((¬ l2 = (1 : Int32) → VB g K 3 D mc ms Pr Pt kc ks 17 [some (.ref l0), some (.int l1), none] [] h) ∧ (l2 = (1 : Int32) → (∃ v1, gN h l0 10 11 = some v1 ∧ (∃ v2, gN h l0 10 6 = some v2 ∧ (∃ fs2, oF h v1 2 = some fs2 ∧ (∃ d2 P2 E2 m2 n2, CT g d2 yX2_goOn (wsC yX2_goOn cX2_goOn 3 none) [.ref v1, .ref v2, .int l1] h m2 n2 P2 E2 ∧ (d2 + 1 ≤ D ∧ kc + m2 ≤ mc ∧ ks + n2 ≤ ms) ∧ (∀ E h', E2 E h' → Pt E h') ∧ (∀ v h2, P2 v h2 → v = none ∧ VB g K 3 D mc ms Pr Pt ((kc + m2)) ((ks + n2)) 17 [some (.ref l0), some (.int l1), none] [] h2)))))))) : VB g K 3 D mc ms Pr Pt kc ks 0 [some (.ref l0), some (.int l1), some (.int l2)] [] h := by
  obtain ⟨p, e, s, m, args, below, meth, c⟩ := K
  have X : CX g p s m args meth c cX11_play 3 yX11_play none [] := X
  have hz := hg s X.gk.z
  show VV g p e (rmm D mc ms) s m args below meth c 3 (QQ g below args s mc ms Pr Pt) kc ks 0 [some (.ref l0), some (.int l1), some (.int l2)] [] h
  refine r_iload_n X dX11_play_0 rfl ?_
  refine r_iconst X dX11_play_1 (v := 1) (by decide) ?_
  refine r_icmp_ne X dX11_play_2 (tgt := 17) (by decide) (fun q => ?_) (fun q => ?_)
  · have w := w.1 q
    refine VB_wk (ls' := [some (.ref l0), some (.int l1), none]) ?_ w
    exact (And.intro rfl (And.intro rfl trivial))
  · have w := w.2 q
    refine r_aload_n X dX11_play_5 rfl ?_
    obtain ⟨v1, ev1, w⟩ := w
    obtain ⟨fv1, cv1, qv1⟩ := gN_s ev1
    refine r_getf X dX11_play_6 fl_X11_56 cv1 qv1 ?_
    refine r_aload_n X dX11_play_9 rfl ?_
    obtain ⟨v2, ev2, w⟩ := w
    obtain ⟨fv2, cv2, qv2⟩ := gN_s ev2
    refine r_getf X dX11_play_10 fl_X11_32 cv2 qv2 ?_
    refine r_iload_n X dX11_play_13 rfl ?_
    obtain ⟨fs2, es2, w⟩ := w
    obtain ⟨d2, P2, E2, m2, n2, ct2, w⟩ := w
    obtain ⟨⟨x1, x2, x3⟩, w⟩ := w
    obtain ⟨x4, w⟩ := w
    refine r_callV X (As := [.ref v2, .int l1]) dX11_play_14 mk_X2_goOn ⟨ml_X11_394, im_X2_goOn, se_X2_goOn⟩ (oF_s es2) (ci_X2).1 rfl rfl rfl (by simp [Value.category]) ⟨x1, by show 60 * (d2 + 1) + 200 ≤ 60 * D + 200; omega⟩ ⟨x2, x3⟩ ct2 x4 (fun _ z => nomatch z) (fun _ => ⟨x2, x3⟩) (fun v h2 w1 => ?_)
    have w := w v h2 w1
    have hk : kc + m2 ≤ mc ∧ ks + n2 ≤ ms := ⟨x2, x3⟩
    obtain ⟨rfl, w⟩ := w
    refine VB_wk (ls' := [some (.ref l0), some (.int l1), none]) ?_ w
    exact (And.intro rfl (And.intro rfl trivial))

set_option maxRecDepth 10000 in
theorem b_X11_play_17 {g : GG} {K : KX} {D mc ms : Nat} {Pr : Option Value → Hp → Prop} {Pt : String → Hp → Prop} {kc ks : Nat} (hg : GOK g) (hD : 8 ≤ D) (hk : kc ≤ mc ∧ ks ≤ ms) (X : CB g K cX11_play 3 yX11_play none []) (l0 : Nat) (l1 : Int32) (h : Hp)
    (w : (∃ v1, gN h l0 10 11 = some v1 ∧ (∃ v2, gN h l0 10 6 = some v2 ∧ (∃ fs2, oF h v1 2 = some fs2 ∧ (∃ d2 P2 E2 m2 n2, CT g d2 yX2_mendBy (wsC yX2_mendBy cX2_mendBy 4 none) [.ref v1, .ref v2, .int l1] h m2 n2 P2 E2 ∧ (d2 + 1 ≤ D ∧ kc + m2 ≤ mc ∧ ks + n2 ≤ ms) ∧ (∀ E h', E2 E h' → Pt E h') ∧ (∀ v h2, P2 v h2 → v = none ∧ Pr none h2)))))) : VB g K 3 D mc ms Pr Pt kc ks 17 [some (.ref l0), some (.int l1), none] [] h := by
  obtain ⟨p, e, s, m, args, below, meth, c⟩ := K
  have X : CX g p s m args meth c cX11_play 3 yX11_play none [] := X
  have hz := hg s X.gk.z
  show VV g p e (rmm D mc ms) s m args below meth c 3 (QQ g below args s mc ms Pr Pt) kc ks 17 [some (.ref l0), some (.int l1), none] [] h
  refine r_aload_n X dX11_play_17 rfl ?_
  obtain ⟨v1, ev1, w⟩ := w
  obtain ⟨fv1, cv1, qv1⟩ := gN_s ev1
  refine r_getf X dX11_play_18 fl_X11_56 cv1 qv1 ?_
  refine r_aload_n X dX11_play_21 rfl ?_
  obtain ⟨v2, ev2, w⟩ := w
  obtain ⟨fv2, cv2, qv2⟩ := gN_s ev2
  refine r_getf X dX11_play_22 fl_X11_32 cv2 qv2 ?_
  refine r_iload_n X dX11_play_25 rfl ?_
  obtain ⟨fs2, es2, w⟩ := w
  obtain ⟨d2, P2, E2, m2, n2, ct2, w⟩ := w
  obtain ⟨⟨x1, x2, x3⟩, w⟩ := w
  obtain ⟨x4, w⟩ := w
  refine r_callV X (As := [.ref v2, .int l1]) dX11_play_26 mk_X2_mendBy ⟨ml_X11_232, im_X2_mendBy, se_X2_mendBy⟩ (oF_s es2) (ci_X2).1 rfl rfl rfl (by simp [Value.category]) ⟨x1, by show 60 * (d2 + 1) + 200 ≤ 60 * D + 200; omega⟩ ⟨x2, x3⟩ ct2 x4 (fun _ z => nomatch z) (fun _ => ⟨x2, x3⟩) (fun v h2 w1 => ?_)
  have w := w v h2 w1
  have hk : kc + m2 ≤ mc ∧ ks + n2 ≤ ms := ⟨x2, x3⟩
  obtain ⟨rfl, w⟩ := w
  exact r_vret X dX11_play_29 rfl w hk.1 hk.2

set_option maxRecDepth 10000 in
theorem b_X11_playCouple_0 {g : GG} {K : KX} {D mc ms : Nat} {Pr : Option Value → Hp → Prop} {Pt : String → Hp → Prop} {kc ks : Nat} (hg : GOK g) (hD : 8 ≤ D) (hk : kc ≤ mc ∧ ks ≤ ms) (X : CB g K cX11_playCouple 6 yX11_playCouple none []) (l0 : Nat) (l1 : Int32) (l2 : Int32) (l3 : Int32) (h : Hp)
    (w : (∃ v1, gN h l0 10 11 = some v1 ∧ (∃ v2, gN h l0 10 8 = some v2 ∧ (∃ v3, gN h v2 3 0 = some v3 ∧ (∃ fs3, oF h v1 2 = some fs3 ∧ (∃ d3 P3 E3 m3 n3, CT g d3 yX2_copyFrom (wsC yX2_copyFrom cX2_copyFrom 2 none) [.ref v1, .ref v3] h m3 n3 P3 E3 ∧ (d3 + 1 ≤ D ∧ kc + m3 ≤ mc ∧ ks + n3 ≤ ms) ∧ (∀ E h', E3 E h' → Pt E h') ∧ (∀ v h3, P3 v h3 → v = none ∧ (∃ fs4, oF h3 l0 10 = some fs4 ∧ (∃ d4 P4 E4 m4 n4, CT g d4 yX11_play (wsC yX11_play cX11_play 3 none) [.ref l0, .int l1, .int ((l3 >>> ((1 : Int32) &&& 31)))] h3 m4 n4 P4 E4 ∧ (d4 + 1 ≤ D ∧ (kc + m3) + m4 ≤ mc ∧ (ks + n3) + n4 ≤ ms) ∧ (∀ E h', E4 E h' → Pt E h') ∧ (∀ v h4, P4 v h4 → v = none ∧ (∃ fs5, oF h4 l0 10 = some fs5 ∧ (∃ d5 P5 E5 m5 n5, CT g d5 yX11_play (wsC yX11_play cX11_play 3 none) [.ref l0, .int l2, .int ((l3 &&& (1 : Int32)))] h4 m5 n5 P5 E5 ∧ (d5 + 1 ≤ D ∧ ((kc + m3) + m4) + m5 ≤ mc ∧ ((ks + n3) + n4) + n5 ≤ ms) ∧ (∀ E h', E5 E h' → Pt E h') ∧ (∀ v h5, P5 v h5 → v = none ∧ (∃ v7, gN h5 l0 10 11 = some v7 ∧ (∃ v8, gN h5 l0 10 6 = some v8 ∧ (∃ fs8, oF h5 v7 2 = some fs8 ∧ (∃ d8 P8 E8 m8 n8, CT g d8 yX2_passDays (wsC yX2_passDays cX2_passDays 4 none) [.ref v7, .ref v8, .int ((5 : Int32))] h5 m8 n8 P8 E8 ∧ (d8 + 1 ≤ D ∧ (((kc + m3) + m4) + m5) + m8 ≤ mc ∧ (((ks + n3) + n4) + n5) + n8 ≤ ms) ∧ (∀ E h', E8 E h' → Pt E h') ∧ (∀ v h8, P8 v h8 → v = none ∧ (∃ v10, gN h8 l0 10 16 = some v10 ∧ (∃ fs10, oF h8 l0 10 = some fs10 ∧ (∃ d10 P10 E10 m10 n10, CT g d10 yX11_seamThen (wsC yX11_seamThen cX11_seamThen 3 (some (.int))) [.ref l0, .int l1] h8 m10 n10 P10 E10 ∧ (d10 + 1 ≤ D ∧ ((((kc + m3) + m4) + m5) + m8) + m10 ≤ mc ∧ ((((ks + n3) + n4) + n5) + n8) + n10 ≤ ms) ∧ (∀ E h', E10 E h' → Pt E h') ∧ (∀ v h10, P10 v h10 → ∃ v12, v = some (.int v12) ∧ (∃ h13, uI h10 0 v10 (((2 : Int32) * l3)) (((v12 / (10 : Int32)) - (l3 >>> ((1 : Int32) &&& 31)))) = some h13 ∧ (∃ v14, gN h13 l0 10 16 = some v14 ∧ (∃ fs14, oF h13 l0 10 = some fs14 ∧ (∃ d14 P14 E14 m14 n14, CT g d14 yX11_seamThen (wsC yX11_seamThen cX11_seamThen 3 (some (.int))) [.ref l0, .int l2] h13 m14 n14 P14 E14 ∧ (d14 + 1 ≤ D ∧ (((((kc + m3) + m4) + m5) + m8) + m10) + m14 ≤ mc ∧ (((((ks + n3) + n4) + n5) + n8) + n10) + n14 ≤ ms) ∧ (∀ E h', E14 E h' → Pt E h') ∧ (∀ v h14, P14 v h14 → ∃ v16, v = some (.int v16) ∧ (∃ h17, uI h14 0 v14 ((((2 : Int32) * l3) + (1 : Int32))) (((v16 / (10 : Int32)) - (l3 &&& (1 : Int32)))) = some h17 ∧ Pr none h17)))))))))))))))))))))))))))) : VB g K 6 D mc ms Pr Pt kc ks 0 [some (.ref l0), some (.int l1), some (.int l2), some (.int l3), none, none] [] h := by
  obtain ⟨p, e, s, m, args, below, meth, c⟩ := K
  have X : CX g p s m args meth c cX11_playCouple 6 yX11_playCouple none [] := X
  have hz := hg s X.gk.z
  show VV g p e (rmm D mc ms) s m args below meth c 6 (QQ g below args s mc ms Pr Pt) kc ks 0 [some (.ref l0), some (.int l1), some (.int l2), some (.int l3), none, none] [] h
  refine r_iload_n X dX11_playCouple_0 rfl ?_
  refine r_iconst X dX11_playCouple_1 (v := 1) (by decide) ?_
  refine r_ishr X dX11_playCouple_2 ?_
  refine r_istore X dX11_playCouple_3 (by decide) rfl ?_
  refine r_iload_n X dX11_playCouple_5 rfl ?_
  refine r_iconst X dX11_playCouple_6 (v := 1) (by decide) ?_
  refine r_iand X dX11_playCouple_7 ?_
  refine r_istore X dX11_playCouple_8 (by decide) rfl ?_
  refine r_aload_n X dX11_playCouple_10 rfl ?_
  obtain ⟨v1, ev1, w⟩ := w
  obtain ⟨fv1, cv1, qv1⟩ := gN_s ev1
  refine r_getf X dX11_playCouple_11 fl_X11_56 cv1 qv1 ?_
  refine r_aload_n X dX11_playCouple_14 rfl ?_
  obtain ⟨v2, ev2, w⟩ := w
  obtain ⟨fv2, cv2, qv2⟩ := gN_s ev2
  refine r_getf X dX11_playCouple_15 fl_X11_42 cv2 qv2 ?_
  obtain ⟨v3, ev3, w⟩ := w
  obtain ⟨fv3, cv3, qv3⟩ := gN_s ev3
  refine r_getf X dX11_playCouple_18 fl_X11_84 cv3 qv3 ?_
  obtain ⟨fs3, es3, w⟩ := w
  obtain ⟨d3, P3, E3, m3, n3, ct3, w⟩ := w
  obtain ⟨⟨x1, x2, x3⟩, w⟩ := w
  obtain ⟨x4, w⟩ := w
  refine r_callV X (As := [.ref v3]) dX11_playCouple_21 mk_X2_copyFrom ⟨ml_X11_123, im_X2_copyFrom, se_X2_copyFrom⟩ (oF_s es3) (ci_X2).1 rfl rfl rfl (by simp [Value.category]) ⟨x1, by show 60 * (d3 + 1) + 200 ≤ 60 * D + 200; omega⟩ ⟨x2, x3⟩ ct3 x4 (fun _ z => nomatch z) (fun _ => ⟨x2, x3⟩) (fun v h3 w1 => ?_)
  have w := w v h3 w1
  have hk : kc + m3 ≤ mc ∧ ks + n3 ≤ ms := ⟨x2, x3⟩
  obtain ⟨rfl, w⟩ := w
  refine r_aload_n X dX11_playCouple_24 rfl ?_
  refine r_iload_n X dX11_playCouple_25 rfl ?_
  refine r_iload X dX11_playCouple_26 rfl ?_
  obtain ⟨fs4, es4, w⟩ := w
  obtain ⟨d4, P4, E4, m4, n4, ct4, w⟩ := w
  obtain ⟨⟨x1, x2, x3⟩, w⟩ := w
  obtain ⟨x4, w⟩ := w
  refine r_callV X (As := [.int l1, .int ((l3 >>> ((1 : Int32) &&& 31)))]) dX11_playCouple_28 mk_X11_play ⟨ml_X11_388, im_X11_play, se_X11_play⟩ (oF_s es4) (ci_X11).1 rfl rfl rfl (by simp [Value.category]) ⟨x1, by show 60 * (d4 + 1) + 200 ≤ 60 * D + 200; omega⟩ ⟨x2, x3⟩ ct4 x4 (fun _ z => nomatch z) (fun _ => ⟨x2, x3⟩) (fun v h4 w1 => ?_)
  have w := w v h4 w1
  have hk : (kc + m3) + m4 ≤ mc ∧ (ks + n3) + n4 ≤ ms := ⟨x2, x3⟩
  obtain ⟨rfl, w⟩ := w
  refine r_aload_n X dX11_playCouple_31 rfl ?_
  refine r_iload_n X dX11_playCouple_32 rfl ?_
  refine r_iload X dX11_playCouple_33 rfl ?_
  obtain ⟨fs5, es5, w⟩ := w
  obtain ⟨d5, P5, E5, m5, n5, ct5, w⟩ := w
  obtain ⟨⟨x1, x2, x3⟩, w⟩ := w
  obtain ⟨x4, w⟩ := w
  refine r_callV X (As := [.int l2, .int ((l3 &&& (1 : Int32)))]) dX11_playCouple_35 mk_X11_play ⟨ml_X11_388, im_X11_play, se_X11_play⟩ (oF_s es5) (ci_X11).1 rfl rfl rfl (by simp [Value.category]) ⟨x1, by show 60 * (d5 + 1) + 200 ≤ 60 * D + 200; omega⟩ ⟨x2, x3⟩ ct5 x4 (fun _ z => nomatch z) (fun _ => ⟨x2, x3⟩) (fun v h5 w1 => ?_)
  have w := w v h5 w1
  have hk : ((kc + m3) + m4) + m5 ≤ mc ∧ ((ks + n3) + n4) + n5 ≤ ms := ⟨x2, x3⟩
  obtain ⟨rfl, w⟩ := w
  refine r_aload_n X dX11_playCouple_38 rfl ?_
  obtain ⟨v7, ev7, w⟩ := w
  obtain ⟨fv7, cv7, qv7⟩ := gN_s ev7
  refine r_getf X dX11_playCouple_39 fl_X11_56 cv7 qv7 ?_
  refine r_aload_n X dX11_playCouple_42 rfl ?_
  obtain ⟨v8, ev8, w⟩ := w
  obtain ⟨fv8, cv8, qv8⟩ := gN_s ev8
  refine r_getf X dX11_playCouple_43 fl_X11_32 cv8 qv8 ?_
  refine r_iconst X dX11_playCouple_46 (v := 5) (by decide) ?_
  obtain ⟨fs8, es8, w⟩ := w
  obtain ⟨d8, P8, E8, m8, n8, ct8, w⟩ := w
  obtain ⟨⟨x1, x2, x3⟩, w⟩ := w
  obtain ⟨x4, w⟩ := w
  refine r_callV X (As := [.ref v8, .int ((5 : Int32))]) dX11_playCouple_47 mk_X2_passDays ⟨ml_X11_228, im_X2_passDays, se_X2_passDays⟩ (oF_s es8) (ci_X2).1 rfl rfl rfl (by simp [Value.category]) ⟨x1, by show 60 * (d8 + 1) + 200 ≤ 60 * D + 200; omega⟩ ⟨x2, x3⟩ ct8 x4 (fun _ z => nomatch z) (fun _ => ⟨x2, x3⟩) (fun v h8 w1 => ?_)
  have w := w v h8 w1
  have hk : (((kc + m3) + m4) + m5) + m8 ≤ mc ∧ (((ks + n3) + n4) + n5) + n8 ≤ ms := ⟨x2, x3⟩
  obtain ⟨rfl, w⟩ := w
  refine r_aload_n X dX11_playCouple_50 rfl ?_
  obtain ⟨v10, ev10, w⟩ := w
  obtain ⟨fv10, cv10, qv10⟩ := gN_s ev10
  refine r_getf X dX11_playCouple_51 fl_X11_80 cv10 qv10 ?_
  refine r_iconst X dX11_playCouple_54 (v := 2) (by decide) ?_
  refine r_iload_n X dX11_playCouple_55 rfl ?_
  refine r_imul X dX11_playCouple_56 ?_
  refine r_aload_n X dX11_playCouple_57 rfl ?_
  refine r_iload_n X dX11_playCouple_58 rfl ?_
  obtain ⟨fs10, es10, w⟩ := w
  obtain ⟨d10, P10, E10, m10, n10, ct10, w⟩ := w
  obtain ⟨⟨x1, x2, x3⟩, w⟩ := w
  obtain ⟨x4, w⟩ := w
  refine r_callV X (As := [.int l1]) dX11_playCouple_59 mk_X11_seamThen ⟨ml_X11_391, im_X11_seamThen, se_X11_seamThen⟩ (oF_s es10) (ci_X11).1 rfl rfl rfl (by simp [Value.category]) ⟨x1, by show 60 * (d10 + 1) + 200 ≤ 60 * D + 200; omega⟩ ⟨x2, x3⟩ ct10 x4 (fun _ z => nomatch z) (fun _ => ⟨x2, x3⟩) (fun v h10 w1 => ?_)
  have w := w v h10 w1
  have hk : ((((kc + m3) + m4) + m5) + m8) + m10 ≤ mc ∧ ((((ks + n3) + n4) + n5) + n8) + n10 ≤ ms := ⟨x2, x3⟩
  obtain ⟨v12, rfl, w⟩ := w
  refine r_bipush X dX11_playCouple_62 (v := 10) (by decide) ?_
  refine r_idiv X dX11_playCouple_64 (by decide) ?_
  refine r_iload X dX11_playCouple_65 rfl ?_
  refine r_isub X dX11_playCouple_67 ?_
  obtain ⟨h13, eh13, w⟩ := w
  obtain ⟨nh13, fh13, ch13, ih13, rh13⟩ := uI_s eh13
  subst rh13
  refine r_iast X dX11_playCouple_68 ch13 ih13 ?_
  refine r_aload_n X dX11_playCouple_69 rfl ?_
  obtain ⟨v14, ev14, w⟩ := w
  obtain ⟨fv14, cv14, qv14⟩ := gN_s ev14
  refine r_getf X dX11_playCouple_70 fl_X11_80 cv14 qv14 ?_
  refine r_iconst X dX11_playCouple_73 (v := 2) (by decide) ?_
  refine r_iload_n X dX11_playCouple_74 rfl ?_
  refine r_imul X dX11_playCouple_75 ?_
  refine r_iconst X dX11_playCouple_76 (v := 1) (by decide) ?_
  refine r_iadd X dX11_playCouple_77 ?_
  refine r_aload_n X dX11_playCouple_78 rfl ?_
  refine r_iload_n X dX11_playCouple_79 rfl ?_
  obtain ⟨fs14, es14, w⟩ := w
  obtain ⟨d14, P14, E14, m14, n14, ct14, w⟩ := w
  obtain ⟨⟨x1, x2, x3⟩, w⟩ := w
  obtain ⟨x4, w⟩ := w
  refine r_callV X (As := [.int l2]) dX11_playCouple_80 mk_X11_seamThen ⟨ml_X11_391, im_X11_seamThen, se_X11_seamThen⟩ (oF_s es14) (ci_X11).1 rfl rfl rfl (by simp [Value.category]) ⟨x1, by show 60 * (d14 + 1) + 200 ≤ 60 * D + 200; omega⟩ ⟨x2, x3⟩ ct14 x4 (fun _ z => nomatch z) (fun _ => ⟨x2, x3⟩) (fun v h14 w1 => ?_)
  have w := w v h14 w1
  have hk : (((((kc + m3) + m4) + m5) + m8) + m10) + m14 ≤ mc ∧ (((((ks + n3) + n4) + n5) + n8) + n10) + n14 ≤ ms := ⟨x2, x3⟩
  obtain ⟨v16, rfl, w⟩ := w
  refine r_bipush X dX11_playCouple_83 (v := 10) (by decide) ?_
  refine r_idiv X dX11_playCouple_85 (by decide) ?_
  refine r_iload X dX11_playCouple_86 rfl ?_
  refine r_isub X dX11_playCouple_88 ?_
  obtain ⟨h17, eh17, w⟩ := w
  obtain ⟨nh17, fh17, ch17, ih17, rh17⟩ := uI_s eh17
  subst rh17
  refine r_iast X dX11_playCouple_89 ch17 ih17 ?_
  exact r_vret X dX11_playCouple_90 rfl w hk.1 hk.2

set_option maxRecDepth 10000 in
theorem b_X11_putBytes_0 {g : GG} {K : KX} {D mc ms : Nat} {Pr : Option Value → Hp → Prop} {Pt : String → Hp → Prop} {kc ks : Nat} (hg : GOK g) (hD : 8 ≤ D) (hk : kc ≤ mc ∧ ks ≤ ms) (X : CB g K cX11_putBytes 3 yX11_putBytes none []) (l0 : Nat) (l1 : Int32) (h : Hp)
    (w : VB g K 3 D mc ms Pr Pt kc ks 3 [some (.ref l0), some (.int l1), some (.int ((24 : Int32)))] [] h) : VB g K 3 D mc ms Pr Pt kc ks 0 [some (.ref l0), some (.int l1), none] [] h := by
  obtain ⟨p, e, s, m, args, below, meth, c⟩ := K
  have X : CX g p s m args meth c cX11_putBytes 3 yX11_putBytes none [] := X
  have hz := hg s X.gk.z
  show VV g p e (rmm D mc ms) s m args below meth c 3 (QQ g below args s mc ms Pr Pt) kc ks 0 [some (.ref l0), some (.int l1), none] [] h
  refine r_bipush X dX11_putBytes_0 (v := 24) (by decide) ?_
  refine r_istore_n X dX11_putBytes_2 (by decide) rfl ?_
  refine VB_wk (ls' := [some (.ref l0), some (.int l1), some (.int ((24 : Int32)))]) ?_ w
  exact (And.intro rfl (And.intro rfl (And.intro rfl trivial)))

set_option maxRecDepth 10000 in
theorem b_X11_putBytes_3 {g : GG} {K : KX} {D mc ms : Nat} {Pr : Option Value → Hp → Prop} {Pt : String → Hp → Prop} {kc ks : Nat} (hg : GOK g) (hD : 8 ≤ D) (hk : kc ≤ mc ∧ ks ≤ ms) (X : CB g K cX11_putBytes 3 yX11_putBytes none []) (l0 : Nat) (l1 : Int32) (l2 : Int32) (h : Hp)
    (w : ((l2 < 0 → Pr none h) ∧ (¬ l2 < 0 → (∃ v1, gI h l0 10 1 = some v1 ∧ (∃ v2, gN h l0 10 0 = some v2 ∧ (∃ v3, lenA h v2 = some v3 ∧ ((v3 ≤ v1 → VB g K 3 D mc ms Pr Pt kc ks 42 [some (.ref l0), some (.int l1), some (.int l2)] [] h) ∧ (¬ v3 ≤ v1 → (∃ v4, gN h l0 10 0 = some v4 ∧ (∃ v5, gI h l0 10 1 = some v5 ∧ (∃ h6, uI h 1 v4 v5 ((Int8.toInt32 (Int32.toInt8 ((Int32.toUInt32 l1 >>> (Int32.toUInt32 l2 &&& Int32.toUInt32 31)).toInt32)))) = some h6 ∧ (∃ v7, gI h6 l0 10 1 = some v7 ∧ (∃ h8, pF h6 l0 10 1 (.int ((v7 + (1 : Int32)))) = some h8 ∧ VB g K 3 D mc ms Pr Pt kc ks 42 [some (.ref l0), some (.int l1), some (.int l2)] [] h8))))))))))))) : VB g K 3 D mc ms Pr Pt kc ks 3 [some (.ref l0), some (.int l1), some (.int l2)] [] h := by
  obtain ⟨p, e, s, m, args, below, meth, c⟩ := K
  have X : CX g p s m args meth c cX11_putBytes 3 yX11_putBytes none [] := X
  have hz := hg s X.gk.z
  show VV g p e (rmm D mc ms) s m args below meth c 3 (QQ g below args s mc ms Pr Pt) kc ks 3 [some (.ref l0), some (.int l1), some (.int l2)] [] h
  refine r_iload_n X dX11_putBytes_3 rfl ?_
  refine r_if_lt X dX11_putBytes_4 (tgt := 48) (by decide) (fun q => ?_) (fun q => ?_)
  · have w := w.1 q
    exact r_vret X dX11_putBytes_48 rfl w hk.1 hk.2
  · have w := w.2 q
    refine r_aload_n X dX11_putBytes_7 rfl ?_
    obtain ⟨v1, ev1, w⟩ := w
    obtain ⟨fv1, cv1, qv1⟩ := gI_s ev1
    refine r_getf X dX11_putBytes_8 fl_X11_13 cv1 qv1 ?_
    refine r_aload_n X dX11_putBytes_11 rfl ?_
    obtain ⟨v2, ev2, w⟩ := w
    obtain ⟨fv2, cv2, qv2⟩ := gN_s ev2
    refine r_getf X dX11_putBytes_12 fl_X11_9 cv2 qv2 ?_
    obtain ⟨v3, ev3, w⟩ := w
    obtain ⟨tv3, nv3, fv3, cv3, iv3, qv3⟩ := lenA_s ev3
    refine r_alen X dX11_putBytes_15 cv3 iv3 ?_
    rw [qv3]
    refine r_icmp_ge X dX11_putBytes_16 (tgt := 42) (by decide) (fun q => ?_) (fun q => ?_)
    · have w := w.1 q
      refine VB_wk (ls' := [some (.ref l0), some (.int l1), some (.int l2)]) ?_ w
      exact (And.intro rfl (And.intro rfl (And.intro rfl trivial)))
    · have w := w.2 q
      refine r_aload_n X dX11_putBytes_19 rfl ?_
      obtain ⟨v4, ev4, w⟩ := w
      obtain ⟨fv4, cv4, qv4⟩ := gN_s ev4
      refine r_getf X dX11_putBytes_20 fl_X11_9 cv4 qv4 ?_
      refine r_aload_n X dX11_putBytes_23 rfl ?_
      obtain ⟨v5, ev5, w⟩ := w
      obtain ⟨fv5, cv5, qv5⟩ := gI_s ev5
      refine r_getf X dX11_putBytes_24 fl_X11_13 cv5 qv5 ?_
      refine r_iload_n X dX11_putBytes_27 rfl ?_
      refine r_iload_n X dX11_putBytes_28 rfl ?_
      refine r_iushr X dX11_putBytes_29 ?_
      refine r_i2b X dX11_putBytes_30 ?_
      obtain ⟨h6, eh6, w⟩ := w
      obtain ⟨nh6, fh6, ch6, ih6, rh6⟩ := uI_s eh6
      subst rh6
      refine r_bast X dX11_putBytes_31 ch6 ih6 ?_
      refine r_aload_n X dX11_putBytes_32 rfl ?_
      refine r_dup X dX11_putBytes_33 rfl ?_
      obtain ⟨v7, ev7, w⟩ := w
      obtain ⟨fv7, cv7, qv7⟩ := gI_s ev7
      refine r_getf X dX11_putBytes_34 fl_X11_13 cv7 qv7 ?_
      refine r_iconst X dX11_putBytes_37 (v := 1) (by decide) ?_
      refine r_iadd X dX11_putBytes_38 ?_
      obtain ⟨h8, eh8, w⟩ := w
      obtain ⟨fh8, ch8, lh8, rh8⟩ := pF_s eh8
      subst rh8
      refine r_putf X dX11_putBytes_39 fw_X11_13 ch8 lh8 rfl rfl ?_
      refine VB_wk (ls' := [some (.ref l0), some (.int l1), some (.int l2)]) ?_ w
      exact (And.intro rfl (And.intro rfl (And.intro rfl trivial)))

set_option maxRecDepth 10000 in
theorem b_X11_putBytes_42 {g : GG} {K : KX} {D mc ms : Nat} {Pr : Option Value → Hp → Prop} {Pt : String → Hp → Prop} {kc ks : Nat} (hg : GOK g) (hD : 8 ≤ D) (hk : kc ≤ mc ∧ ks ≤ ms) (X : CB g K cX11_putBytes 3 yX11_putBytes none []) (l0 : Nat) (l1 : Int32) (l2 : Int32) (h : Hp)
    (w : VB g K 3 D mc ms Pr Pt kc ks 3 [some (.ref l0), some (.int l1), some (.int ((l2 + (-8))))] [] h) : VB g K 3 D mc ms Pr Pt kc ks 42 [some (.ref l0), some (.int l1), some (.int l2)] [] h := by
  obtain ⟨p, e, s, m, args, below, meth, c⟩ := K
  have X : CX g p s m args meth c cX11_putBytes 3 yX11_putBytes none [] := X
  have hz := hg s X.gk.z
  show VV g p e (rmm D mc ms) s m args below meth c 3 (QQ g below args s mc ms Pr Pt) kc ks 42 [some (.ref l0), some (.int l1), some (.int l2)] [] h
  refine r_iinc X dX11_putBytes_42 rfl (v := (l2 + (-8))) rfl (by decide) rfl ?_
  refine r_goto X dX11_putBytes_45 (tgt := 3) (by decide) ?_
  refine VB_wk (ls' := [some (.ref l0), some (.int l1), some (.int ((l2 + (-8))))]) ?_ w
  exact (And.intro rfl (And.intro rfl (And.intro rfl trivial)))

set_option maxRecDepth 10000 in
theorem b_X11_readings_0 {g : GG} {K : KX} {D mc ms : Nat} {Pr : Option Value → Hp → Prop} {Pt : String → Hp → Prop} {kc ks : Nat} (hg : GOK g) (hD : 8 ≤ D) (hk : kc ≤ mc ∧ ks ≤ ms) (X : CB g K cX11_readings 3 yX11_readings (some (.int)) []) (l0 : Nat) (l1 : Int32) (l2 : Int32) (h : Hp)
    (w : (∃ d0 P0 E0 m0 n0, CT g d0 yX11_needWhat (wsC yX11_needWhat cX11_needWhat 2 none) [.int l2, .int ((1 : Int32))] h m0 n0 P0 E0 ∧ (d0 + 1 ≤ D ∧ kc + m0 ≤ mc ∧ ks + n0 ≤ ms) ∧ (∀ E h', E0 E h' → Pt E h') ∧ (∀ v h0, P0 v h0 → v = none ∧ ((l1 < 0 → VB g K 3 D mc ms Pr Pt ((kc + m0)) ((ks + n0)) 16 [none, none, none] [] h0) ∧ (¬ l1 < 0 → ((l1 ≤ (999999999 : Int32) → (∃ v2, gN h0 l0 10 6 = some v2 ∧ (∃ v3, gN h0 v2 9 6 = some v3 ∧ (∃ fs3, oF h0 v3 1 = some fs3 ∧ (∃ d3 P3 E3 m3 n3, CT g d3 yX1_untie (wsC yX1_untie cX1_untie 4 none) [.ref v3, .int l1] h0 m3 n3 P3 E3 ∧ (d3 + 1 ≤ D ∧ (kc + m0) + m3 ≤ mc ∧ (ks + n0) + n3 ≤ ms) ∧ (∀ E h', E3 E h' → Pt E h') ∧ (∀ v h3, P3 v h3 → v = none ∧ ((¬ l2 = 0 → (∃ v5, gN h3 l0 10 6 = some v5 ∧ (∃ v6, gN h3 v5 9 6 = some v6 ∧ (∃ v7, gN h3 v6 1 5 = some v7 ∧ (∃ v8, aI h3 0 v7 ((0 : Int32)) = some v8 ∧ Pr (some (.int v8)) h3))))) ∧ (l2 = 0 → (∃ v9, gN h3 l0 10 6 = some v9 ∧ (∃ v10, gN h3 v9 9 6 = some v10 ∧ (∃ v11, gN h3 v10 1 4 = some v11 ∧ (∃ v12, aI h3 0 v11 ((0 : Int32)) = some v12 ∧ Pr (some (.int v12)) h3)))))))))))) ∧ (¬ l1 ≤ (999999999 : Int32) → VB g K 3 D mc ms Pr Pt ((kc + m0)) ((ks + n0)) 16 [none, none, none] [] h0))))))) : VB g K 3 D mc ms Pr Pt kc ks 0 [some (.ref l0), some (.int l1), some (.int l2)] [] h := by
  obtain ⟨p, e, s, m, args, below, meth, c⟩ := K
  have X : CX g p s m args meth c cX11_readings 3 yX11_readings (some (.int)) [] := X
  have hz := hg s X.gk.z
  show VV g p e (rmm D mc ms) s m args below meth c 3 (QQ g below args s mc ms Pr Pt) kc ks 0 [some (.ref l0), some (.int l1), some (.int l2)] [] h
  refine r_iload_n X dX11_readings_0 rfl ?_
  refine r_iconst X dX11_readings_1 (v := 1) (by decide) ?_
  obtain ⟨d0, P0, E0, m0, n0, ct0, w⟩ := w
  obtain ⟨⟨x1, x2, x3⟩, w⟩ := w
  obtain ⟨x4, w⟩ := w
  refine r_callS X (As := [.int l2, .int ((1 : Int32))]) dX11_readings_2 mk_X11_needWhat ⟨ml_X11_250, sm_X11_needWhat⟩ rfl rfl (by simp [Value.category]) ⟨x1, by show 60 * (d0 + 1) + 200 ≤ 60 * D + 200; omega⟩ ⟨x2, x3⟩ ct0 x4 (fun _ z => nomatch z) (fun _ => ⟨x2, x3⟩) (fun v h0 w1 => ?_)
  have w := w v h0 w1
  have hk : kc + m0 ≤ mc ∧ ks + n0 ≤ ms := ⟨x2, x3⟩
  obtain ⟨rfl, w⟩ := w
  refine r_iload_n X dX11_readings_5 rfl ?_
  refine r_if_lt X dX11_readings_6 (tgt := 16) (by decide) (fun q => ?_) (fun q => ?_)
  · have w := w.1 q
    refine VB_wk (ls' := [none, none, none]) ?_ w
    exact trivial
  · have w := w.2 q
    refine r_iload_n X dX11_readings_9 rfl ?_
    refine r_ldcw X dX11_readings_10 k_X11_337 ?_
    refine r_icmp_le X dX11_readings_13 (tgt := 27) (by decide) (fun q => ?_) (fun q => ?_)
    · have w := w.1 q
      refine r_aload_n X dX11_readings_27 rfl ?_
      obtain ⟨v2, ev2, w⟩ := w
      obtain ⟨fv2, cv2, qv2⟩ := gN_s ev2
      refine r_getf X dX11_readings_28 fl_X11_32 cv2 qv2 ?_
      obtain ⟨v3, ev3, w⟩ := w
      obtain ⟨fv3, cv3, qv3⟩ := gN_s ev3
      refine r_getf X dX11_readings_31 fl_X11_147 cv3 qv3 ?_
      refine r_iload_n X dX11_readings_34 rfl ?_
      obtain ⟨fs3, es3, w⟩ := w
      obtain ⟨d3, P3, E3, m3, n3, ct3, w⟩ := w
      obtain ⟨⟨x1, x2, x3⟩, w⟩ := w
      obtain ⟨x4, w⟩ := w
      refine r_callV X (As := [.int l1]) dX11_readings_35 mk_X1_untie ⟨ml_X11_340, im_X1_untie, se_X1_untie⟩ (oF_s es3) (ci_X1).1 rfl rfl rfl (by simp [Value.category]) ⟨x1, by show 60 * (d3 + 1) + 200 ≤ 60 * D + 200; omega⟩ ⟨x2, x3⟩ ct3 x4 (fun _ z => nomatch z) (fun _ => ⟨x2, x3⟩) (fun v h3 w1 => ?_)
      have w := w v h3 w1
      have hk : (kc + m0) + m3 ≤ mc ∧ (ks + n0) + n3 ≤ ms := ⟨x2, x3⟩
      obtain ⟨rfl, w⟩ := w
      refine r_iload_n X dX11_readings_38 rfl ?_
      refine r_if_ne X dX11_readings_39 (tgt := 57) (by decide) (fun q => ?_) (fun q => ?_)
      · have w := w.1 q
        refine r_aload_n X dX11_readings_57 rfl ?_
        obtain ⟨v5, ev5, w⟩ := w
        obtain ⟨fv5, cv5, qv5⟩ := gN_s ev5
        refine r_getf X dX11_readings_58 fl_X11_32 cv5 qv5 ?_
        obtain ⟨v6, ev6, w⟩ := w
        obtain ⟨fv6, cv6, qv6⟩ := gN_s ev6
        refine r_getf X dX11_readings_61 fl_X11_147 cv6 qv6 ?_
        obtain ⟨v7, ev7, w⟩ := w
        obtain ⟨fv7, cv7, qv7⟩ := gN_s ev7
        refine r_getf X dX11_readings_64 fl_X11_346 cv7 qv7 ?_
        refine r_iconst X dX11_readings_67 (v := 0) (by decide) ?_
        obtain ⟨v8, ev8, w⟩ := w
        obtain ⟨nv8, fv8, cv8, iv8, qv8⟩ := aI_s ev8
        refine r_iald X dX11_readings_68 cv8 iv8 ?_
        rw [qv8]
        exact r_iret X dX11_readings_69 rfl w hk.1 hk.2
      · have w := w.2 q
        refine r_aload_n X dX11_readings_42 rfl ?_
        obtain ⟨v9, ev9, w⟩ := w
        obtain ⟨fv9, cv9, qv9⟩ := gN_s ev9
        refine r_getf X dX11_readings_43 fl_X11_32 cv9 qv9 ?_
        obtain ⟨v10, ev10, w⟩ := w
        obtain ⟨fv10, cv10, qv10⟩ := gN_s ev10
        refine r_getf X dX11_readings_46 fl_X11_147 cv10 qv10 ?_
        obtain ⟨v11, ev11, w⟩ := w
        obtain ⟨fv11, cv11, qv11⟩ := gN_s ev11
        refine r_getf X dX11_readings_49 fl_X11_343 cv11 qv11 ?_
        refine r_iconst X dX11_readings_52 (v := 0) (by decide) ?_
        obtain ⟨v12, ev12, w⟩ := w
        obtain ⟨nv12, fv12, cv12, iv12, qv12⟩ := aI_s ev12
        refine r_iald X dX11_readings_53 cv12 iv12 ?_
        rw [qv12]
        refine r_goto X dX11_readings_54 (tgt := 69) (by decide) ?_
        exact r_iret X dX11_readings_69 rfl w hk.1 hk.2
    · have w := w.2 q
      refine VB_wk (ls' := [none, none, none]) ?_ w
      exact trivial

set_option maxRecDepth 10000 in
theorem b_X11_readings_16 {g : GG} {K : KX} {D mc ms : Nat} {Pr : Option Value → Hp → Prop} {Pt : String → Hp → Prop} {kc ks : Nat} (hg : GOK g) (hD : 8 ≤ D) (hk : kc ≤ mc ∧ ks ≤ ms) (X : CB g K cX11_readings 3 yX11_readings (some (.int)) [])  (h : Hp)
    (w : ((kc + 1 ≤ mc ∧ ks + 6 ≤ ms) ∧ Pt "java/lang/IllegalArgumentException" (h ++ [dead]))) : VB g K 3 D mc ms Pr Pt kc ks 16 [none, none, none] [] h := by
  obtain ⟨p, e, s, m, args, below, meth, c⟩ := K
  have X : CX g p s m args meth c cX11_readings 3 yX11_readings (some (.int)) [] := X
  have hz := hg s X.gk.z
  show VV g p e (rmm D mc ms) s m args below meth c 3 (QQ g below args s mc ms Pr Pt) kc ks 16 [none, none, none] [] h
  obtain ⟨q1, w⟩ := w
  exact r_throwSW X hz.1 (hz.2.1 (RX11, 95, 338, 99, "java/lang/IllegalArgumentException", "not 0 to 999999999") (by decide)) dX11_readings_16 dX11_readings_19 dX11_readings_20 dX11_readings_23 dX11_readings_26 (fun _ z => nomatch z) (by refine ⟨?_, ?_, q1.1, q1.2⟩ <;> simp [rmm, Value.category] <;> omega) q1.1 q1.2 w

set_option maxRecDepth 10000 in
theorem b_X11_refuseAct_0 {g : GG} {K : KX} {D mc ms : Nat} {Pr : Option Value → Hp → Prop} {Pt : String → Hp → Prop} {kc ks : Nat} (hg : GOK g) (hD : 8 ≤ D) (hk : kc ≤ mc ∧ ks ≤ ms) (X : CB g K cX11_refuseAct 1 yX11_refuseAct (some (.int)) []) (l0 : Nat) (h : Hp)
    (w : (∃ v1, gI h l0 10 4 = some v1 ∧ (∃ h2, pF h l0 10 4 (.int ((v1 + (1 : Int32)))) = some h2 ∧ Pr (some (.int ((-1 : Int32)))) h2))) : VB g K 1 D mc ms Pr Pt kc ks 0 [some (.ref l0)] [] h := by
  obtain ⟨p, e, s, m, args, below, meth, c⟩ := K
  have X : CX g p s m args meth c cX11_refuseAct 1 yX11_refuseAct (some (.int)) [] := X
  have hz := hg s X.gk.z
  show VV g p e (rmm D mc ms) s m args below meth c 1 (QQ g below args s mc ms Pr Pt) kc ks 0 [some (.ref l0)] [] h
  refine r_aload_n X dX11_refuseAct_0 rfl ?_
  refine r_dup X dX11_refuseAct_1 rfl ?_
  obtain ⟨v1, ev1, w⟩ := w
  obtain ⟨fv1, cv1, qv1⟩ := gI_s ev1
  refine r_getf X dX11_refuseAct_2 fl_X11_23 cv1 qv1 ?_
  refine r_iconst X dX11_refuseAct_5 (v := 1) (by decide) ?_
  refine r_iadd X dX11_refuseAct_6 ?_
  obtain ⟨h2, eh2, w⟩ := w
  obtain ⟨fh2, ch2, lh2, rh2⟩ := pF_s eh2
  subst rh2
  refine r_putf X dX11_refuseAct_7 fw_X11_23 ch2 lh2 rfl rfl ?_
  refine r_iconst X dX11_refuseAct_10 (v := -1) (by decide) ?_
  exact r_iret X dX11_refuseAct_11 rfl w hk.1 hk.2

set_option maxRecDepth 10000 in
theorem b_X11_restore_0 {g : GG} {K : KX} {D mc ms : Nat} {Pr : Option Value → Hp → Prop} {Pt : String → Hp → Prop} {kc ks : Nat} (hg : GOK g) (hD : 8 ≤ D) (hk : kc ≤ mc ∧ ks ≤ ms) (X : CB g K cX11_restore 1 yX11_restore (some (.boolean)) []) (l0 : Nat) (h : Hp)
    (w : (∃ v1, gI h l0 10 10 = some v1 ∧ ((¬ v1 = 0 → (∃ v2, gN h l0 10 8 = some v2 ∧ (∃ v3, gN h l0 10 9 = some v3 ∧ (∃ fs3, oF h v2 3 = some fs3 ∧ (∃ d3 P3 E3 m3 n3, CT g d3 yX3_copyFrom (wsC yX3_copyFrom cX3_copyFrom 2 none) [.ref v2, .ref v3] h m3 n3 P3 E3 ∧ (d3 + 1 ≤ D ∧ kc + m3 ≤ mc ∧ ks + n3 ≤ ms) ∧ (∀ E h', E3 E h' → Pt E h') ∧ (∀ v h3, P3 v h3 → v = none ∧ (isB ((1 : Int32)) ∧ Pr (some (.int ((1 : Int32)))) h3))))))) ∧ (v1 = 0 → (isB ((0 : Int32)) ∧ Pr (some (.int ((0 : Int32)))) h))))) : VB g K 1 D mc ms Pr Pt kc ks 0 [some (.ref l0)] [] h := by
  obtain ⟨p, e, s, m, args, below, meth, c⟩ := K
  have X : CX g p s m args meth c cX11_restore 1 yX11_restore (some (.boolean)) [] := X
  have hz := hg s X.gk.z
  show VV g p e (rmm D mc ms) s m args below meth c 1 (QQ g below args s mc ms Pr Pt) kc ks 0 [some (.ref l0)] [] h
  refine r_aload_n X dX11_restore_0 rfl ?_
  obtain ⟨v1, ev1, w⟩ := w
  obtain ⟨fv1, cv1, qv1⟩ := gI_s ev1
  refine r_getf X dX11_restore_1 fl_X11_49 cv1 qv1 ?_
  refine r_if_ne X dX11_restore_4 (tgt := 9) (by decide) (fun q => ?_) (fun q => ?_)
  · have w := w.1 q
    refine r_aload_n X dX11_restore_9 rfl ?_
    obtain ⟨v2, ev2, w⟩ := w
    obtain ⟨fv2, cv2, qv2⟩ := gN_s ev2
    refine r_getf X dX11_restore_10 fl_X11_42 cv2 qv2 ?_
    refine r_aload_n X dX11_restore_13 rfl ?_
    obtain ⟨v3, ev3, w⟩ := w
    obtain ⟨fv3, cv3, qv3⟩ := gN_s ev3
    refine r_getf X dX11_restore_14 fl_X11_46 cv3 qv3 ?_
    obtain ⟨fs3, es3, w⟩ := w
    obtain ⟨d3, P3, E3, m3, n3, ct3, w⟩ := w
    obtain ⟨⟨x1, x2, x3⟩, w⟩ := w
    obtain ⟨x4, w⟩ := w
    refine r_callV X (As := [.ref v3]) dX11_restore_17 mk_X3_copyFrom ⟨ml_X11_407, im_X3_copyFrom, se_X3_copyFrom⟩ (oF_s es3) (ci_X3).1 rfl rfl rfl (by simp [Value.category]) ⟨x1, by show 60 * (d3 + 1) + 200 ≤ 60 * D + 200; omega⟩ ⟨x2, x3⟩ ct3 x4 (fun _ z => nomatch z) (fun _ => ⟨x2, x3⟩) (fun v h3 w1 => ?_)
    have w := w v h3 w1
    have hk : kc + m3 ≤ mc ∧ ks + n3 ≤ ms := ⟨x2, x3⟩
    obtain ⟨rfl, w⟩ := w
    refine r_iconst X dX11_restore_20 (v := 1) (by decide) ?_
    exact r_zret X dX11_restore_21 rfl (isB_n w.1) w.2 hk.1 hk.2
  · have w := w.2 q
    refine r_iconst X dX11_restore_7 (v := 0) (by decide) ?_
    exact r_zret X dX11_restore_8 rfl (isB_n w.1) w.2 hk.1 hk.2

set_option maxRecDepth 10000 in
theorem b_X11_rests_0 {g : GG} {K : KX} {D mc ms : Nat} {Pr : Option Value → Hp → Prop} {Pt : String → Hp → Prop} {kc ks : Nat} (hg : GOK g) (hD : 8 ≤ D) (hk : kc ≤ mc ∧ ks ≤ ms) (X : CB g K cX11_rests 4 yX11_rests (some (.boolean)) []) (l0 : Nat) (l1 : Int32) (h : Hp)
    (w : (∃ v1, gN h l0 10 16 = some v1 ∧ (∃ v2, aI h 0 v1 (((2 : Int32) * l1)) = some v2 ∧ (∃ v3, gN h l0 10 16 = some v3 ∧ (∃ v4, aI h 0 v3 (((2 : Int32) * (l1 ^^^ (2 : Int32)))) = some v4 ∧ ((v2 < v4 → (isB ((0 : Int32)) ∧ Pr (some (.int ((0 : Int32)))) h)) ∧ (¬ v2 < v4 → (∃ v5, gN h l0 10 16 = some v5 ∧ (∃ v6, aI h 0 v5 ((((2 : Int32) * l1) + (1 : Int32))) = some v6 ∧ (∃ v7, gN h l0 10 16 = some v7 ∧ (∃ v8, aI h 0 v7 ((((2 : Int32) * (l1 ^^^ (1 : Int32))) + (1 : Int32))) = some v8 ∧ ((v6 < v8 → (isB ((0 : Int32)) ∧ Pr (some (.int ((0 : Int32)))) h)) ∧ (¬ v6 < v8 → (isB ((1 : Int32)) ∧ Pr (some (.int ((1 : Int32)))) h)))))))))))))) : VB g K 4 D mc ms Pr Pt kc ks 0 [some (.ref l0), some (.int l1), none, none] [] h := by
  obtain ⟨p, e, s, m, args, below, meth, c⟩ := K
  have X : CX g p s m args meth c cX11_rests 4 yX11_rests (some (.boolean)) [] := X
  have hz := hg s X.gk.z
  show VV g p e (rmm D mc ms) s m args below meth c 4 (QQ g below args s mc ms Pr Pt) kc ks 0 [some (.ref l0), some (.int l1), none, none] [] h
  refine r_iload_n X dX11_rests_0 rfl ?_
  refine r_iconst X dX11_rests_1 (v := 2) (by decide) ?_
  refine r_ixor X dX11_rests_2 ?_
  refine r_istore_n X dX11_rests_3 (by decide) rfl ?_
  refine r_iload_n X dX11_rests_4 rfl ?_
  refine r_iconst X dX11_rests_5 (v := 1) (by decide) ?_
  refine r_ixor X dX11_rests_6 ?_
  refine r_istore_n X dX11_rests_7 (by decide) rfl ?_
  refine r_aload_n X dX11_rests_8 rfl ?_
  obtain ⟨v1, ev1, w⟩ := w
  obtain ⟨fv1, cv1, qv1⟩ := gN_s ev1
  refine r_getf X dX11_rests_9 fl_X11_80 cv1 qv1 ?_
  refine r_iconst X dX11_rests_12 (v := 2) (by decide) ?_
  refine r_iload_n X dX11_rests_13 rfl ?_
  refine r_imul X dX11_rests_14 ?_
  obtain ⟨v2, ev2, w⟩ := w
  obtain ⟨nv2, fv2, cv2, iv2, qv2⟩ := aI_s ev2
  refine r_iald X dX11_rests_15 cv2 iv2 ?_
  rw [qv2]
  refine r_aload_n X dX11_rests_16 rfl ?_
  obtain ⟨v3, ev3, w⟩ := w
  obtain ⟨fv3, cv3, qv3⟩ := gN_s ev3
  refine r_getf X dX11_rests_17 fl_X11_80 cv3 qv3 ?_
  refine r_iconst X dX11_rests_20 (v := 2) (by decide) ?_
  refine r_iload_n X dX11_rests_21 rfl ?_
  refine r_imul X dX11_rests_22 ?_
  obtain ⟨v4, ev4, w⟩ := w
  obtain ⟨nv4, fv4, cv4, iv4, qv4⟩ := aI_s ev4
  refine r_iald X dX11_rests_23 cv4 iv4 ?_
  rw [qv4]
  refine r_icmp_lt X dX11_rests_24 (tgt := 54) (by decide) (fun q => ?_) (fun q => ?_)
  · have w := w.1 q
    refine r_iconst X dX11_rests_54 (v := 0) (by decide) ?_
    exact r_zret X dX11_rests_55 rfl (isB_n w.1) w.2 hk.1 hk.2
  · have w := w.2 q
    refine r_aload_n X dX11_rests_27 rfl ?_
    obtain ⟨v5, ev5, w⟩ := w
    obtain ⟨fv5, cv5, qv5⟩ := gN_s ev5
    refine r_getf X dX11_rests_28 fl_X11_80 cv5 qv5 ?_
    refine r_iconst X dX11_rests_31 (v := 2) (by decide) ?_
    refine r_iload_n X dX11_rests_32 rfl ?_
    refine r_imul X dX11_rests_33 ?_
    refine r_iconst X dX11_rests_34 (v := 1) (by decide) ?_
    refine r_iadd X dX11_rests_35 ?_
    obtain ⟨v6, ev6, w⟩ := w
    obtain ⟨nv6, fv6, cv6, iv6, qv6⟩ := aI_s ev6
    refine r_iald X dX11_rests_36 cv6 iv6 ?_
    rw [qv6]
    refine r_aload_n X dX11_rests_37 rfl ?_
    obtain ⟨v7, ev7, w⟩ := w
    obtain ⟨fv7, cv7, qv7⟩ := gN_s ev7
    refine r_getf X dX11_rests_38 fl_X11_80 cv7 qv7 ?_
    refine r_iconst X dX11_rests_41 (v := 2) (by decide) ?_
    refine r_iload_n X dX11_rests_42 rfl ?_
    refine r_imul X dX11_rests_43 ?_
    refine r_iconst X dX11_rests_44 (v := 1) (by decide) ?_
    refine r_iadd X dX11_rests_45 ?_
    obtain ⟨v8, ev8, w⟩ := w
    obtain ⟨nv8, fv8, cv8, iv8, qv8⟩ := aI_s ev8
    refine r_iald X dX11_rests_46 cv8 iv8 ?_
    rw [qv8]
    refine r_icmp_lt X dX11_rests_47 (tgt := 54) (by decide) (fun q => ?_) (fun q => ?_)
    · have w := w.1 q
      refine r_iconst X dX11_rests_54 (v := 0) (by decide) ?_
      exact r_zret X dX11_rests_55 rfl (isB_n w.1) w.2 hk.1 hk.2
    · have w := w.2 q
      refine r_iconst X dX11_rests_50 (v := 1) (by decide) ?_
      refine r_goto X dX11_rests_51 (tgt := 55) (by decide) ?_
      exact r_zret X dX11_rests_55 rfl (isB_n w.1) w.2 hk.1 hk.2

set_option maxRecDepth 10000 in
theorem b_X11_ring_0 {g : GG} {K : KX} {D mc ms : Nat} {Pr : Option Value → Hp → Prop} {Pt : String → Hp → Prop} {kc ks : Nat} (hg : GOK g) (hD : 8 ≤ D) (hk : kc ≤ mc ∧ ks ≤ ms) (X : CB g K cX11_ring 4 yX11_ring (some (.int)) []) (l0 : Nat) (l1 : Int32) (h : Hp)
    (w : ((l1 < 0 → VB g K 4 D mc ms Pr Pt kc ks 12 [none, none, none, none] [] h) ∧ (¬ l1 < 0 → (∃ v1, gI h l0 10 1 = some v1 ∧ ((l1 ≤ v1 → (∃ h2, pF h l0 10 1 (.int ((0 : Int32))) = some h2 ∧ (∃ v3, gN h2 l0 10 7 = some v3 ∧ (∃ fs3, oF h2 v3 9 = some fs3 ∧ (∃ d3 P3 E3 m3 n3, CT g d3 yX9_clear (wsC yX9_clear cX9_clear 1 none) [.ref v3] h2 m3 n3 P3 E3 ∧ (d3 + 1 ≤ D ∧ kc + m3 ≤ mc ∧ ks + n3 ≤ ms) ∧ (∀ E h', E3 E h' → Pt E h') ∧ (∀ v h3, P3 v h3 → v = none ∧ (∃ v5, gN h3 l0 10 11 = some v5 ∧ (∃ h6, pF h3 v5 2 0 (.int ((0 : Int32))) = some h6 ∧ (((kc + m3) + 1 ≤ mc ∧ (ks + n3) + 11 ≤ ms) ∧ (∃ v8, gN ((h6 ++ [.inr (5, [.int 0, .int 0, .null, .int 0, .null, .null, .int 0, .int 0, .int 0, .int 0, .int 0])])) l0 10 0 = some v8 ∧ (∃ v9, gN ((h6 ++ [.inr (5, [.int 0, .int 0, .null, .int 0, .null, .null, .int 0, .int 0, .int 0, .int 0, .int 0])])) l0 10 7 = some v9 ∧ (∃ v10, gN ((h6 ++ [.inr (5, [.int 0, .int 0, .null, .int 0, .null, .null, .int 0, .int 0, .int 0, .int 0, .int 0])])) l0 10 11 = some v10 ∧ (∃ d10 P10 m10 n10, CT g d10 yX5_init (wsC yX5_init cX5_init 5 none) [.ref ((h6).length), .ref v8, .int l1, .ref v9, .ref v10] ((h6 ++ [.inr (5, [.int 0, .int 0, .null, .int 0, .null, .null, .int 0, .int 0, .int 0, .int 0, .int 0])])) m10 n10 P10 noT ∧ (d10 + 1 ≤ D ∧ ((kc + m3) + 1) + m10 ≤ mc ∧ ((ks + n3) + 11) + n10 ≤ ms) ∧ (∀ v h10, P10 v h10 → v = none ∧ (∃ fs11, oF h10 ((h6).length) 5 = some fs11 ∧ (∃ d11 P11 E11 m11 n11, CT g d11 yX5_readText (wsC yX5_readText cX5_readText 2 (some (.boolean))) [.ref ((h6).length)] h10 m11 n11 P11 E11 ∧ (d11 + 1 ≤ D ∧ (((kc + m3) + 1) + m10) + m11 ≤ mc ∧ (((ks + n3) + 11) + n10) + n11 ≤ ms) ∧ (∀ E h', E11 E h' → Pt E h') ∧ (∀ v h11, P11 v h11 → ∃ v13, v = some (.int v13) ∧ ((¬ v13 = 0 → (∃ h14, pF h11 l0 10 2 (.int ((-1 : Int32))) = some h14 ∧ (∃ v15, gN h14 l0 10 6 = some v15 ∧ (∃ v16, gN h14 l0 10 7 = some v16 ∧ (∃ h17, pF h14 l0 10 6 (.ref v16) = some h17 ∧ (∃ h18, pF h17 l0 10 7 (.ref v15) = some h18 ∧ (∃ v19, gN h18 l0 10 6 = some v19 ∧ (∃ v20, gN h18 l0 10 11 = some v20 ∧ (∃ d20 P20 E20 m20 n20, CT g d20 yX11_fillUp (wsC yX11_fillUp cX11_fillUp 3 none) [.ref v19, .ref v20] h18 m20 n20 P20 E20 ∧ (d20 + 1 ≤ D ∧ ((((kc + m3) + 1) + m10) + m11) + m20 ≤ mc ∧ ((((ks + n3) + 11) + n10) + n11) + n20 ≤ ms) ∧ (∀ E h', E20 E h' → Pt E h') ∧ (∀ v h20, P20 v h20 → v = none ∧ (∃ v22, gN h20 l0 10 8 = some v22 ∧ (∃ v23, gN h20 v22 3 0 = some v23 ∧ (∃ v24, gN h20 l0 10 11 = some v24 ∧ (∃ fs24, oF h20 v23 2 = some fs24 ∧ (∃ d24 P24 E24 m24 n24, CT g d24 yX2_copyFrom (wsC yX2_copyFrom cX2_copyFrom 2 none) [.ref v23, .ref v24] h20 m24 n24 P24 E24 ∧ (d24 + 1 ≤ D ∧ (((((kc + m3) + 1) + m10) + m11) + m20) + m24 ≤ mc ∧ (((((ks + n3) + 11) + n10) + n11) + n20) + n24 ≤ ms) ∧ (∀ E h', E24 E h' → Pt E h') ∧ (∀ v h24, P24 v h24 → v = none ∧ (∃ v26, gN h24 l0 10 8 = some v26 ∧ (∃ v27, gN h24 v26 3 1 = some v27 ∧ (∃ fs27, oF h24 v27 4 = some fs27 ∧ (∃ d27 P27 E27 m27 n27, CT g d27 yX4_clear (wsC yX4_clear cX4_clear 1 none) [.ref v27] h24 m27 n27 P27 E27 ∧ (d27 + 1 ≤ D ∧ ((((((kc + m3) + 1) + m10) + m11) + m20) + m24) + m27 ≤ mc ∧ ((((((ks + n3) + 11) + n10) + n11) + n20) + n24) + n27 ≤ ms) ∧ (∀ E h', E27 E h' → Pt E h') ∧ (∀ v h27, P27 v h27 → v = none ∧ (∃ v29, gN h27 l0 10 8 = some v29 ∧ (∃ v30, gN h27 v29 3 2 = some v30 ∧ (∃ fs30, oF h27 v30 7 = some fs30 ∧ (∃ d30 P30 E30 m30 n30, CT g d30 yX7_clear (wsC yX7_clear cX7_clear 1 none) [.ref v30] h27 m30 n30 P30 E30 ∧ (d30 + 1 ≤ D ∧ (((((((kc + m3) + 1) + m10) + m11) + m20) + m24) + m27) + m30 ≤ mc ∧ (((((((ks + n3) + 11) + n10) + n11) + n20) + n24) + n27) + n30 ≤ ms) ∧ (∀ E h', E30 E h' → Pt E h') ∧ (∀ v h30, P30 v h30 → v = none ∧ (isB ((0 : Int32)) ∧ (∃ h32, pF h30 l0 10 10 (.int ((0 : Int32))) = some h32 ∧ Pr (some (.int ((0 : Int32)))) h32)))))))))))))))))))))))))))) ∧ (v13 = 0 → (∃ v33, gI h11 ((h6).length) 5 1 = some v33 ∧ (∃ h34, pF h11 l0 10 2 (.int v33) = some h34 ∧ (∃ v35, gI h34 l0 10 3 = some v35 ∧ (∃ h36, pF h34 l0 10 3 (.int ((v35 + (1 : Int32)))) = some h36 ∧ (∃ v37, gI h36 ((h6).length) 5 0 = some v37 ∧ Pr (some (.int v37)) h36)))))))))))))))))))))))) ∧ (¬ l1 ≤ v1 → VB g K 4 D mc ms Pr Pt kc ks 12 [none, none, none, none] [] h)))))) : VB g K 4 D mc ms Pr Pt kc ks 0 [some (.ref l0), some (.int l1), none, none] [] h := by
  obtain ⟨p, e, s, m, args, below, meth, c⟩ := K
  have X : CX g p s m args meth c cX11_ring 4 yX11_ring (some (.int)) [] := X
  have hz := hg s X.gk.z
  show VV g p e (rmm D mc ms) s m args below meth c 4 (QQ g below args s mc ms Pr Pt) kc ks 0 [some (.ref l0), some (.int l1), none, none] [] h
  refine r_iload_n X dX11_ring_0 rfl ?_
  refine r_if_lt X dX11_ring_1 (tgt := 12) (by decide) (fun q => ?_) (fun q => ?_)
  · have w := w.1 q
    refine VB_wk (ls' := [none, none, none, none]) ?_ w
    exact trivial
  · have w := w.2 q
    refine r_iload_n X dX11_ring_4 rfl ?_
    refine r_aload_n X dX11_ring_5 rfl ?_
    obtain ⟨v1, ev1, w⟩ := w
    obtain ⟨fv1, cv1, qv1⟩ := gI_s ev1
    refine r_getf X dX11_ring_6 fl_X11_13 cv1 qv1 ?_
    refine r_icmp_le X dX11_ring_9 (tgt := 22) (by decide) (fun q => ?_) (fun q => ?_)
    · have w := w.1 q
      refine r_aload_n X dX11_ring_22 rfl ?_
      refine r_iconst X dX11_ring_23 (v := 0) (by decide) ?_
      obtain ⟨h2, eh2, w⟩ := w
      obtain ⟨fh2, ch2, lh2, rh2⟩ := pF_s eh2
      subst rh2
      refine r_putf X dX11_ring_24 fw_X11_13 ch2 lh2 rfl rfl ?_
      refine r_aload_n X dX11_ring_27 rfl ?_
      obtain ⟨v3, ev3, w⟩ := w
      obtain ⟨fv3, cv3, qv3⟩ := gN_s ev3
      refine r_getf X dX11_ring_28 fl_X11_36 cv3 qv3 ?_
      obtain ⟨fs3, es3, w⟩ := w
      obtain ⟨d3, P3, E3, m3, n3, ct3, w⟩ := w
      obtain ⟨⟨x1, x2, x3⟩, w⟩ := w
      obtain ⟨x4, w⟩ := w
      refine r_callV X (As := []) dX11_ring_31 mk_X9_clear ⟨ml_X11_102, im_X9_clear, se_X9_clear⟩ (oF_s es3) (ci_X9).1 rfl rfl rfl (by simp [Value.category]) ⟨x1, by show 60 * (d3 + 1) + 200 ≤ 60 * D + 200; omega⟩ ⟨x2, x3⟩ ct3 x4 (fun _ z => nomatch z) (fun _ => ⟨x2, x3⟩) (fun v h3 w1 => ?_)
      have w := w v h3 w1
      have hk : kc + m3 ≤ mc ∧ ks + n3 ≤ ms := ⟨x2, x3⟩
      obtain ⟨rfl, w⟩ := w
      refine r_aload_n X dX11_ring_34 rfl ?_
      obtain ⟨v5, ev5, w⟩ := w
      obtain ⟨fv5, cv5, qv5⟩ := gN_s ev5
      refine r_getf X dX11_ring_35 fl_X11_56 cv5 qv5 ?_
      refine r_iconst X dX11_ring_38 (v := 0) (by decide) ?_
      obtain ⟨h6, eh6, w⟩ := w
      obtain ⟨fh6, ch6, lh6, rh6⟩ := pF_s eh6
      subst rh6
      refine r_putf X dX11_ring_39 fw_X11_105 ch6 lh6 rfl rfl ?_
      obtain ⟨q7, w⟩ := w
      refine r_new X dX11_ring_42 ci_X5 nc_X11_108 (fs := [.int 0, .int 0, .null, .int 0, .null, .null, .int 0, .int 0, .int 0, .int 0, .int 0]) rfl q7.1 q7.2 ?_
      have hk : ((kc + m3) + 1) ≤ mc ∧ ((ks + n3) + 11) ≤ ms := q7
      refine r_dup X dX11_ring_45 rfl ?_
      refine r_aload_n X dX11_ring_46 rfl ?_
      obtain ⟨v8, ev8, w⟩ := w
      obtain ⟨fv8, cv8, qv8⟩ := gN_s ev8
      refine r_getf X dX11_ring_47 fl_X11_9 cv8 qv8 ?_
      refine r_iload_n X dX11_ring_50 rfl ?_
      refine r_aload_n X dX11_ring_51 rfl ?_
      obtain ⟨v9, ev9, w⟩ := w
      obtain ⟨fv9, cv9, qv9⟩ := gN_s ev9
      refine r_getf X dX11_ring_52 fl_X11_36 cv9 qv9 ?_
      refine r_aload_n X dX11_ring_55 rfl ?_
      obtain ⟨v10, ev10, w⟩ := w
      obtain ⟨fv10, cv10, qv10⟩ := gN_s ev10
      refine r_getf X dX11_ring_56 fl_X11_56 cv10 qv10 ?_
      obtain ⟨d10, P10, m10, n10, ct10, w⟩ := w
      obtain ⟨⟨x1, x2, x3⟩, w⟩ := w
      refine r_callI X (As := [.ref v8, .int l1, .ref v9, .ref v10]) dX11_ring_59 mk_X5_init ⟨ml_X11_110, im_X5_init⟩ rfl rfl rfl (by simp [Value.category]) ⟨x1, by show 60 * (d10 + 1) + 200 ≤ 60 * D + 200; omega⟩ ⟨x2, x3⟩ ct10 (fun v h10 w1 => ?_)
      have w := w v h10 w1
      have hk : ((kc + m3) + 1) + m10 ≤ mc ∧ ((ks + n3) + 11) + n10 ≤ ms := ⟨x2, x3⟩
      obtain ⟨rfl, w⟩ := w
      refine r_astore_n X dX11_ring_62 (by decide) rfl ?_
      refine r_aload_n X dX11_ring_63 rfl ?_
      obtain ⟨fs11, es11, w⟩ := w
      obtain ⟨d11, P11, E11, m11, n11, ct11, w⟩ := w
      obtain ⟨⟨x1, x2, x3⟩, w⟩ := w
      obtain ⟨x4, w⟩ := w
      refine r_callV X (As := []) dX11_ring_64 mk_X5_readText ⟨ml_X11_113, im_X5_readText, se_X5_readText⟩ (oF_s es11) (ci_X5).1 rfl rfl rfl (by simp [Value.category]) ⟨x1, by show 60 * (d11 + 1) + 200 ≤ 60 * D + 200; omega⟩ ⟨x2, x3⟩ ct11 x4 (fun _ z => nomatch z) (fun _ => ⟨x2, x3⟩) (fun v h11 w1 => ?_)
      have w := w v h11 w1
      have hk : (((kc + m3) + 1) + m10) + m11 ≤ mc ∧ (((ks + n3) + 11) + n10) + n11 ≤ ms := ⟨x2, x3⟩
      obtain ⟨v13, rfl, w⟩ := w
      refine r_if_ne X dX11_ring_67 (tgt := 93) (by decide) (fun q => ?_) (fun q => ?_)
      · have w := w.1 q
        refine r_aload_n X dX11_ring_93 rfl ?_
        refine r_iconst X dX11_ring_94 (v := -1) (by decide) ?_
        obtain ⟨h14, eh14, w⟩ := w
        obtain ⟨fh14, ch14, lh14, rh14⟩ := pF_s eh14
        subst rh14
        refine r_putf X dX11_ring_95 fw_X11_17 ch14 lh14 rfl rfl ?_
        refine r_aload_n X dX11_ring_98 rfl ?_
        obtain ⟨v15, ev15, w⟩ := w
        obtain ⟨fv15, cv15, qv15⟩ := gN_s ev15
        refine r_getf X dX11_ring_99 fl_X11_32 cv15 qv15 ?_
        refine r_astore_n X dX11_ring_102 (by decide) rfl ?_
        refine r_aload_n X dX11_ring_103 rfl ?_
        refine r_aload_n X dX11_ring_104 rfl ?_
        obtain ⟨v16, ev16, w⟩ := w
        obtain ⟨fv16, cv16, qv16⟩ := gN_s ev16
        refine r_getf X dX11_ring_105 fl_X11_36 cv16 qv16 ?_
        obtain ⟨h17, eh17, w⟩ := w
        obtain ⟨fh17, ch17, lh17, rh17⟩ := pF_s eh17
        subst rh17
        refine r_putf X dX11_ring_108 fw_X11_32 ch17 lh17 rfl rfl ?_
        refine r_aload_n X dX11_ring_111 rfl ?_
        refine r_aload_n X dX11_ring_112 rfl ?_
        obtain ⟨h18, eh18, w⟩ := w
        obtain ⟨fh18, ch18, lh18, rh18⟩ := pF_s eh18
        subst rh18
        refine r_putf X dX11_ring_113 fw_X11_36 ch18 lh18 rfl rfl ?_
        refine r_aload_n X dX11_ring_116 rfl ?_
        obtain ⟨v19, ev19, w⟩ := w
        obtain ⟨fv19, cv19, qv19⟩ := gN_s ev19
        refine r_getf X dX11_ring_117 fl_X11_32 cv19 qv19 ?_
        refine r_aload_n X dX11_ring_120 rfl ?_
        obtain ⟨v20, ev20, w⟩ := w
        obtain ⟨fv20, cv20, qv20⟩ := gN_s ev20
        refine r_getf X dX11_ring_121 fl_X11_56 cv20 qv20 ?_
        obtain ⟨d20, P20, E20, m20, n20, ct20, w⟩ := w
        obtain ⟨⟨x1, x2, x3⟩, w⟩ := w
        obtain ⟨x4, w⟩ := w
        refine r_callS X (As := [.ref v19, .ref v20]) dX11_ring_124 mk_X11_fillUp ⟨ml_X11_87, sm_X11_fillUp⟩ rfl rfl (by simp [Value.category]) ⟨x1, by show 60 * (d20 + 1) + 200 ≤ 60 * D + 200; omega⟩ ⟨x2, x3⟩ ct20 x4 (fun _ z => nomatch z) (fun _ => ⟨x2, x3⟩) (fun v h20 w1 => ?_)
        have w := w v h20 w1
        have hk : ((((kc + m3) + 1) + m10) + m11) + m20 ≤ mc ∧ ((((ks + n3) + 11) + n10) + n11) + n20 ≤ ms := ⟨x2, x3⟩
        obtain ⟨rfl, w⟩ := w
        refine r_aload_n X dX11_ring_127 rfl ?_
        obtain ⟨v22, ev22, w⟩ := w
        obtain ⟨fv22, cv22, qv22⟩ := gN_s ev22
        refine r_getf X dX11_ring_128 fl_X11_42 cv22 qv22 ?_
        obtain ⟨v23, ev23, w⟩ := w
        obtain ⟨fv23, cv23, qv23⟩ := gN_s ev23
        refine r_getf X dX11_ring_131 fl_X11_84 cv23 qv23 ?_
        refine r_aload_n X dX11_ring_134 rfl ?_
        obtain ⟨v24, ev24, w⟩ := w
        obtain ⟨fv24, cv24, qv24⟩ := gN_s ev24
        refine r_getf X dX11_ring_135 fl_X11_56 cv24 qv24 ?_
        obtain ⟨fs24, es24, w⟩ := w
        obtain ⟨d24, P24, E24, m24, n24, ct24, w⟩ := w
        obtain ⟨⟨x1, x2, x3⟩, w⟩ := w
        obtain ⟨x4, w⟩ := w
        refine r_callV X (As := [.ref v24]) dX11_ring_138 mk_X2_copyFrom ⟨ml_X11_123, im_X2_copyFrom, se_X2_copyFrom⟩ (oF_s es24) (ci_X2).1 rfl rfl rfl (by simp [Value.category]) ⟨x1, by show 60 * (d24 + 1) + 200 ≤ 60 * D + 200; omega⟩ ⟨x2, x3⟩ ct24 x4 (fun _ z => nomatch z) (fun _ => ⟨x2, x3⟩) (fun v h24 w1 => ?_)
        have w := w v h24 w1
        have hk : (((((kc + m3) + 1) + m10) + m11) + m20) + m24 ≤ mc ∧ (((((ks + n3) + 11) + n10) + n11) + n20) + n24 ≤ ms := ⟨x2, x3⟩
        obtain ⟨rfl, w⟩ := w
        refine r_aload_n X dX11_ring_141 rfl ?_
        obtain ⟨v26, ev26, w⟩ := w
        obtain ⟨fv26, cv26, qv26⟩ := gN_s ev26
        refine r_getf X dX11_ring_142 fl_X11_42 cv26 qv26 ?_
        obtain ⟨v27, ev27, w⟩ := w
        obtain ⟨fv27, cv27, qv27⟩ := gN_s ev27
        refine r_getf X dX11_ring_145 fl_X11_127 cv27 qv27 ?_
        obtain ⟨fs27, es27, w⟩ := w
        obtain ⟨d27, P27, E27, m27, n27, ct27, w⟩ := w
        obtain ⟨⟨x1, x2, x3⟩, w⟩ := w
        obtain ⟨x4, w⟩ := w
        refine r_callV X (As := []) dX11_ring_148 mk_X4_clear ⟨ml_X11_131, im_X4_clear, se_X4_clear⟩ (oF_s es27) (ci_X4).1 rfl rfl rfl (by simp [Value.category]) ⟨x1, by show 60 * (d27 + 1) + 200 ≤ 60 * D + 200; omega⟩ ⟨x2, x3⟩ ct27 x4 (fun _ z => nomatch z) (fun _ => ⟨x2, x3⟩) (fun v h27 w1 => ?_)
        have w := w v h27 w1
        have hk : ((((((kc + m3) + 1) + m10) + m11) + m20) + m24) + m27 ≤ mc ∧ ((((((ks + n3) + 11) + n10) + n11) + n20) + n24) + n27 ≤ ms := ⟨x2, x3⟩
        obtain ⟨rfl, w⟩ := w
        refine r_aload_n X dX11_ring_151 rfl ?_
        obtain ⟨v29, ev29, w⟩ := w
        obtain ⟨fv29, cv29, qv29⟩ := gN_s ev29
        refine r_getf X dX11_ring_152 fl_X11_42 cv29 qv29 ?_
        obtain ⟨v30, ev30, w⟩ := w
        obtain ⟨fv30, cv30, qv30⟩ := gN_s ev30
        refine r_getf X dX11_ring_155 fl_X11_134 cv30 qv30 ?_
        obtain ⟨fs30, es30, w⟩ := w
        obtain ⟨d30, P30, E30, m30, n30, ct30, w⟩ := w
        obtain ⟨⟨x1, x2, x3⟩, w⟩ := w
        obtain ⟨x4, w⟩ := w
        refine r_callV X (As := []) dX11_ring_158 mk_X7_clear ⟨ml_X11_138, im_X7_clear, se_X7_clear⟩ (oF_s es30) (ci_X7).1 rfl rfl rfl (by simp [Value.category]) ⟨x1, by show 60 * (d30 + 1) + 200 ≤ 60 * D + 200; omega⟩ ⟨x2, x3⟩ ct30 x4 (fun _ z => nomatch z) (fun _ => ⟨x2, x3⟩) (fun v h30 w1 => ?_)
        have w := w v h30 w1
        have hk : (((((((kc + m3) + 1) + m10) + m11) + m20) + m24) + m27) + m30 ≤ mc ∧ (((((((ks + n3) + 11) + n10) + n11) + n20) + n24) + n27) + n30 ≤ ms := ⟨x2, x3⟩
        obtain ⟨rfl, w⟩ := w
        refine r_aload_n X dX11_ring_161 rfl ?_
        refine r_iconst X dX11_ring_162 (v := 0) (by decide) ?_
        obtain ⟨bh32, w⟩ := w
        obtain ⟨h32, eh32, w⟩ := w
        obtain ⟨fh32, ch32, lh32, rh32⟩ := pF_s eh32
        subst rh32
        refine r_putf X dX11_ring_163 fw_X11_49 ch32 lh32 (isB_n bh32) (isB_f bh32) ?_
        refine r_iconst X dX11_ring_166 (v := 0) (by decide) ?_
        exact r_iret X dX11_ring_167 rfl w hk.1 hk.2
      · have w := w.2 q
        refine r_aload_n X dX11_ring_70 rfl ?_
        refine r_aload_n X dX11_ring_71 rfl ?_
        obtain ⟨v33, ev33, w⟩ := w
        obtain ⟨fv33, cv33, qv33⟩ := gI_s ev33
        refine r_getf X dX11_ring_72 fl_X11_117 cv33 qv33 ?_
        obtain ⟨h34, eh34, w⟩ := w
        obtain ⟨fh34, ch34, lh34, rh34⟩ := pF_s eh34
        subst rh34
        refine r_putf X dX11_ring_75 fw_X11_17 ch34 lh34 rfl rfl ?_
        refine r_aload_n X dX11_ring_78 rfl ?_
        refine r_dup X dX11_ring_79 rfl ?_
        obtain ⟨v35, ev35, w⟩ := w
        obtain ⟨fv35, cv35, qv35⟩ := gI_s ev35
        refine r_getf X dX11_ring_80 fl_X11_20 cv35 qv35 ?_
        refine r_iconst X dX11_ring_83 (v := 1) (by decide) ?_
        refine r_iadd X dX11_ring_84 ?_
        obtain ⟨h36, eh36, w⟩ := w
        obtain ⟨fh36, ch36, lh36, rh36⟩ := pF_s eh36
        subst rh36
        refine r_putf X dX11_ring_85 fw_X11_20 ch36 lh36 rfl rfl ?_
        refine r_aload_n X dX11_ring_88 rfl ?_
        obtain ⟨v37, ev37, w⟩ := w
        obtain ⟨fv37, cv37, qv37⟩ := gI_s ev37
        refine r_getf X dX11_ring_89 fl_X11_120 cv37 qv37 ?_
        exact r_iret X dX11_ring_92 rfl w hk.1 hk.2
    · have w := w.2 q
      refine VB_wk (ls' := [none, none, none, none]) ?_ w
      exact trivial

set_option maxRecDepth 10000 in
theorem b_X11_ring_12 {g : GG} {K : KX} {D mc ms : Nat} {Pr : Option Value → Hp → Prop} {Pt : String → Hp → Prop} {kc ks : Nat} (hg : GOK g) (hD : 8 ≤ D) (hk : kc ≤ mc ∧ ks ≤ ms) (X : CB g K cX11_ring 4 yX11_ring (some (.int)) [])  (h : Hp)
    (w : ((kc + 1 ≤ mc ∧ ks + 6 ≤ ms) ∧ Pt "java/lang/IllegalArgumentException" (h ++ [dead]))) : VB g K 4 D mc ms Pr Pt kc ks 12 [none, none, none, none] [] h := by
  obtain ⟨p, e, s, m, args, below, meth, c⟩ := K
  have X : CX g p s m args meth c cX11_ring 4 yX11_ring (some (.int)) [] := X
  have hz := hg s X.gk.z
  show VV g p e (rmm D mc ms) s m args below meth c 4 (QQ g below args s mc ms Pr Pt) kc ks 12 [none, none, none, none] [] h
  obtain ⟨q1, w⟩ := w
  exact r_throwS X hz.1 (hz.2.1 (RX11, 95, 97, 99, "java/lang/IllegalArgumentException", "the tape has not so many") (by decide)) dX11_ring_12 dX11_ring_15 dX11_ring_16 dX11_ring_18 dX11_ring_21 (fun _ z => nomatch z) (by refine ⟨?_, ?_, q1.1, q1.2⟩ <;> simp [rmm, Value.category] <;> omega) q1.1 q1.2 w

set_option maxRecDepth 10000 in
theorem b_X11_rowsOf_0 {g : GG} {K : KX} {D mc ms : Nat} {Pr : Option Value → Hp → Prop} {Pt : String → Hp → Prop} {kc ks : Nat} (hg : GOK g) (hD : 8 ≤ D) (hk : kc ≤ mc ∧ ks ≤ ms) (X : CB g K cX11_rowsOf 4 yX11_rowsOf (some (.int)) []) (l0 : Nat) (l1 : Int32) (h : Hp)
    (w : VB g K 4 D mc ms Pr Pt kc ks 4 [some (.ref l0), some (.int l1), some (.int ((0 : Int32))), some (.int ((0 : Int32)))] [] h) : VB g K 4 D mc ms Pr Pt kc ks 0 [some (.ref l0), some (.int l1), none, none] [] h := by
  obtain ⟨p, e, s, m, args, below, meth, c⟩ := K
  have X : CX g p s m args meth c cX11_rowsOf 4 yX11_rowsOf (some (.int)) [] := X
  have hz := hg s X.gk.z
  show VV g p e (rmm D mc ms) s m args below meth c 4 (QQ g below args s mc ms Pr Pt) kc ks 0 [some (.ref l0), some (.int l1), none, none] [] h
  refine r_iconst X dX11_rowsOf_0 (v := 0) (by decide) ?_
  refine r_istore_n X dX11_rowsOf_1 (by decide) rfl ?_
  refine r_iconst X dX11_rowsOf_2 (v := 0) (by decide) ?_
  refine r_istore_n X dX11_rowsOf_3 (by decide) rfl ?_
  refine VB_wk (ls' := [some (.ref l0), some (.int l1), some (.int ((0 : Int32))), some (.int ((0 : Int32)))]) ?_ w
  exact (And.intro rfl (And.intro rfl (And.intro rfl (And.intro rfl trivial))))

set_option maxRecDepth 10000 in
theorem b_X11_rowsOf_4 {g : GG} {K : KX} {D mc ms : Nat} {Pr : Option Value → Hp → Prop} {Pt : String → Hp → Prop} {kc ks : Nat} (hg : GOK g) (hD : 8 ≤ D) (hk : kc ≤ mc ∧ ks ≤ ms) (X : CB g K cX11_rowsOf 4 yX11_rowsOf (some (.int)) []) (l0 : Nat) (l1 : Int32) (l2 : Int32) (l3 : Int32) (h : Hp)
    (w : (∃ v1, gN h l0 10 6 = some v1 ∧ (∃ v2, gI h v1 9 0 = some v2 ∧ ((v2 ≤ l3 → ((¬ l2 = 0 → Pr (some (.int l2)) h) ∧ (l2 = 0 → ((l1 = 0 → Pr (some (.int l2)) h) ∧ (¬ l1 = 0 → Pr (some (.int ((1 : Int32)))) h))))) ∧ (¬ v2 ≤ l3 → ((¬ ((l1 >>> (l3 &&& 31)) &&& (1 : Int32)) = (1 : Int32) → VB g K 4 D mc ms Pr Pt kc ks 42 [some (.ref l0), some (.int l1), some (.int l2), some (.int l3)] [] h) ∧ (((l1 >>> (l3 &&& 31)) &&& (1 : Int32)) = (1 : Int32) → (∃ v3, gN h l0 10 6 = some v3 ∧ (∃ fs3, oF h v3 9 = some fs3 ∧ (∃ d3 P3 E3 m3 n3, CT g d3 yX9_ahead (wsC yX9_ahead cX9_ahead 2 (some (.int))) [.ref v3, .int l3] h m3 n3 P3 E3 ∧ (d3 + 1 ≤ D ∧ kc + m3 ≤ mc ∧ ks + n3 ≤ ms) ∧ (∀ E h', E3 E h' → Pt E h') ∧ (∀ v h3, P3 v h3 → ∃ v5, v = some (.int v5) ∧ ((¬ ((l1 >>> (v5 &&& 31)) &&& (1 : Int32)) = 0 → VB g K 4 D mc ms Pr Pt ((kc + m3)) ((ks + n3)) 42 [some (.ref l0), some (.int l1), some (.int l2), some (.int l3)] [] h3) ∧ (((l1 >>> (v5 &&& 31)) &&& (1 : Int32)) = 0 → VB g K 4 D mc ms Pr Pt ((kc + m3)) ((ks + n3)) 42 [some (.ref l0), some (.int l1), some (.int ((l2 + 1))), some (.int l3)] [] h3))))))))))))) : VB g K 4 D mc ms Pr Pt kc ks 4 [some (.ref l0), some (.int l1), some (.int l2), some (.int l3)] [] h := by
  obtain ⟨p, e, s, m, args, below, meth, c⟩ := K
  have X : CX g p s m args meth c cX11_rowsOf 4 yX11_rowsOf (some (.int)) [] := X
  have hz := hg s X.gk.z
  show VV g p e (rmm D mc ms) s m args below meth c 4 (QQ g below args s mc ms Pr Pt) kc ks 4 [some (.ref l0), some (.int l1), some (.int l2), some (.int l3)] [] h
  refine r_iload_n X dX11_rowsOf_4 rfl ?_
  refine r_aload_n X dX11_rowsOf_5 rfl ?_
  obtain ⟨v1, ev1, w⟩ := w
  obtain ⟨fv1, cv1, qv1⟩ := gN_s ev1
  refine r_getf X dX11_rowsOf_6 fl_X11_32 cv1 qv1 ?_
  obtain ⟨v2, ev2, w⟩ := w
  obtain ⟨fv2, cv2, qv2⟩ := gI_s ev2
  refine r_getf X dX11_rowsOf_9 fl_X11_141 cv2 qv2 ?_
  refine r_icmp_ge X dX11_rowsOf_12 (tgt := 48) (by decide) (fun q => ?_) (fun q => ?_)
  · have w := w.1 q
    refine r_iload_n X dX11_rowsOf_48 rfl ?_
    refine r_if_ne X dX11_rowsOf_49 (tgt := 60) (by decide) (fun q => ?_) (fun q => ?_)
    · have w := w.1 q
      refine r_iload_n X dX11_rowsOf_60 rfl ?_
      exact r_iret X dX11_rowsOf_61 rfl w hk.1 hk.2
    · have w := w.2 q
      refine r_iload_n X dX11_rowsOf_52 rfl ?_
      refine r_if_eq X dX11_rowsOf_53 (tgt := 60) (by decide) (fun q => ?_) (fun q => ?_)
      · have w := w.1 q
        refine r_iload_n X dX11_rowsOf_60 rfl ?_
        exact r_iret X dX11_rowsOf_61 rfl w hk.1 hk.2
      · have w := w.2 q
        refine r_iconst X dX11_rowsOf_56 (v := 1) (by decide) ?_
        refine r_goto X dX11_rowsOf_57 (tgt := 61) (by decide) ?_
        exact r_iret X dX11_rowsOf_61 rfl w hk.1 hk.2
  · have w := w.2 q
    refine r_iload_n X dX11_rowsOf_15 rfl ?_
    refine r_iload_n X dX11_rowsOf_16 rfl ?_
    refine r_ishr X dX11_rowsOf_17 ?_
    refine r_iconst X dX11_rowsOf_18 (v := 1) (by decide) ?_
    refine r_iand X dX11_rowsOf_19 ?_
    refine r_iconst X dX11_rowsOf_20 (v := 1) (by decide) ?_
    refine r_icmp_ne X dX11_rowsOf_21 (tgt := 42) (by decide) (fun q => ?_) (fun q => ?_)
    · have w := w.1 q
      refine VB_wk (ls' := [some (.ref l0), some (.int l1), some (.int l2), some (.int l3)]) ?_ w
      exact (And.intro rfl (And.intro rfl (And.intro rfl (And.intro rfl trivial))))
    · have w := w.2 q
      refine r_iload_n X dX11_rowsOf_24 rfl ?_
      refine r_aload_n X dX11_rowsOf_25 rfl ?_
      obtain ⟨v3, ev3, w⟩ := w
      obtain ⟨fv3, cv3, qv3⟩ := gN_s ev3
      refine r_getf X dX11_rowsOf_26 fl_X11_32 cv3 qv3 ?_
      refine r_iload_n X dX11_rowsOf_29 rfl ?_
      obtain ⟨fs3, es3, w⟩ := w
      obtain ⟨d3, P3, E3, m3, n3, ct3, w⟩ := w
      obtain ⟨⟨x1, x2, x3⟩, w⟩ := w
      obtain ⟨x4, w⟩ := w
      refine r_callV X (As := [.int l3]) dX11_rowsOf_30 mk_X9_ahead ⟨ml_X11_331, im_X9_ahead, se_X9_ahead⟩ (oF_s es3) (ci_X9).1 rfl rfl rfl (by simp [Value.category]) ⟨x1, by show 60 * (d3 + 1) + 200 ≤ 60 * D + 200; omega⟩ ⟨x2, x3⟩ ct3 x4 (fun _ z => nomatch z) (fun _ => ⟨x2, x3⟩) (fun v h3 w1 => ?_)
      have w := w v h3 w1
      have hk : kc + m3 ≤ mc ∧ ks + n3 ≤ ms := ⟨x2, x3⟩
      obtain ⟨v5, rfl, w⟩ := w
      refine r_ishr X dX11_rowsOf_33 ?_
      refine r_iconst X dX11_rowsOf_34 (v := 1) (by decide) ?_
      refine r_iand X dX11_rowsOf_35 ?_
      refine r_if_ne X dX11_rowsOf_36 (tgt := 42) (by decide) (fun q => ?_) (fun q => ?_)
      · have w := w.1 q
        refine VB_wk (ls' := [some (.ref l0), some (.int l1), some (.int l2), some (.int l3)]) ?_ w
        exact (And.intro rfl (And.intro rfl (And.intro rfl (And.intro rfl trivial))))
      · have w := w.2 q
        refine r_iinc X dX11_rowsOf_39 rfl (v := (l2 + 1)) rfl (by decide) rfl ?_
        refine VB_wk (ls' := [some (.ref l0), some (.int l1), some (.int ((l2 + 1))), some (.int l3)]) ?_ w
        exact (And.intro rfl (And.intro rfl (And.intro rfl (And.intro rfl trivial))))

set_option maxRecDepth 10000 in
theorem b_X11_rowsOf_42 {g : GG} {K : KX} {D mc ms : Nat} {Pr : Option Value → Hp → Prop} {Pt : String → Hp → Prop} {kc ks : Nat} (hg : GOK g) (hD : 8 ≤ D) (hk : kc ≤ mc ∧ ks ≤ ms) (X : CB g K cX11_rowsOf 4 yX11_rowsOf (some (.int)) []) (l0 : Nat) (l1 : Int32) (l2 : Int32) (l3 : Int32) (h : Hp)
    (w : VB g K 4 D mc ms Pr Pt kc ks 4 [some (.ref l0), some (.int l1), some (.int l2), some (.int ((l3 + 1)))] [] h) : VB g K 4 D mc ms Pr Pt kc ks 42 [some (.ref l0), some (.int l1), some (.int l2), some (.int l3)] [] h := by
  obtain ⟨p, e, s, m, args, below, meth, c⟩ := K
  have X : CX g p s m args meth c cX11_rowsOf 4 yX11_rowsOf (some (.int)) [] := X
  have hz := hg s X.gk.z
  show VV g p e (rmm D mc ms) s m args below meth c 4 (QQ g below args s mc ms Pr Pt) kc ks 42 [some (.ref l0), some (.int l1), some (.int l2), some (.int l3)] [] h
  refine r_iinc X dX11_rowsOf_42 rfl (v := (l3 + 1)) rfl (by decide) rfl ?_
  refine r_goto X dX11_rowsOf_45 (tgt := 4) (by decide) ?_
  refine VB_wk (ls' := [some (.ref l0), some (.int l1), some (.int l2), some (.int ((l3 + 1)))]) ?_ w
  exact (And.intro rfl (And.intro rfl (And.intro rfl (And.intro rfl trivial))))

set_option maxRecDepth 10000 in
theorem b_X11_seamThen_0 {g : GG} {K : KX} {D mc ms : Nat} {Pr : Option Value → Hp → Prop} {Pt : String → Hp → Prop} {kc ks : Nat} (hg : GOK g) (hD : 8 ≤ D) (hk : kc ≤ mc ∧ ks ≤ ms) (X : CB g K cX11_seamThen 3 yX11_seamThen (some (.int)) []) (l0 : Nat) (l1 : Int32) (h : Hp)
    (w : (∃ v1, gN h l0 10 8 = some v1 ∧ (∃ v2, gN h v1 3 0 = some v2 ∧ (∃ v3, gN h v2 2 4 = some v3 ∧ (∃ v4, aI h 0 v3 l1 = some v4 ∧ (∃ fs4, oF h l0 10 = some fs4 ∧ (∃ d4 P4 E4 m4 n4, CT g d4 yX11_isStretch (wsC yX11_isStretch cX11_isStretch 2 (some (.boolean))) [.ref l0, .int v4] h m4 n4 P4 E4 ∧ (d4 + 1 ≤ D ∧ kc + m4 ≤ mc ∧ ks + n4 ≤ ms) ∧ (∀ E h', E4 E h' → Pt E h') ∧ (∀ v h4, P4 v h4 → ∃ v6, v = some (.int v6) ∧ ((v6 = 0 → Pr (some (.int ((0 : Int32)))) h4) ∧ (¬ v6 = 0 → (∃ v7, gN h4 l0 10 11 = some v7 ∧ (∃ v8, gN h4 v7 2 2 = some v8 ∧ (∃ v9, aI h4 0 v8 v4 = some v9 ∧ Pr (some (.int v9)) h4))))))))))))) : VB g K 3 D mc ms Pr Pt kc ks 0 [some (.ref l0), some (.int l1), none] [] h := by
  obtain ⟨p, e, s, m, args, below, meth, c⟩ := K
  have X : CX g p s m args meth c cX11_seamThen 3 yX11_seamThen (some (.int)) [] := X
  have hz := hg s X.gk.z
  show VV g p e (rmm D mc ms) s m args below meth c 3 (QQ g below args s mc ms Pr Pt) kc ks 0 [some (.ref l0), some (.int l1), none] [] h
  refine r_aload_n X dX11_seamThen_0 rfl ?_
  obtain ⟨v1, ev1, w⟩ := w
  obtain ⟨fv1, cv1, qv1⟩ := gN_s ev1
  refine r_getf X dX11_seamThen_1 fl_X11_42 cv1 qv1 ?_
  obtain ⟨v2, ev2, w⟩ := w
  obtain ⟨fv2, cv2, qv2⟩ := gN_s ev2
  refine r_getf X dX11_seamThen_4 fl_X11_84 cv2 qv2 ?_
  obtain ⟨v3, ev3, w⟩ := w
  obtain ⟨fv3, cv3, qv3⟩ := gN_s ev3
  refine r_getf X dX11_seamThen_7 fl_X11_213 cv3 qv3 ?_
  refine r_iload_n X dX11_seamThen_10 rfl ?_
  obtain ⟨v4, ev4, w⟩ := w
  obtain ⟨nv4, fv4, cv4, iv4, qv4⟩ := aI_s ev4
  refine r_iald X dX11_seamThen_11 cv4 iv4 ?_
  rw [qv4]
  refine r_istore_n X dX11_seamThen_12 (by decide) rfl ?_
  refine r_aload_n X dX11_seamThen_13 rfl ?_
  refine r_iload_n X dX11_seamThen_14 rfl ?_
  obtain ⟨fs4, es4, w⟩ := w
  obtain ⟨d4, P4, E4, m4, n4, ct4, w⟩ := w
  obtain ⟨⟨x1, x2, x3⟩, w⟩ := w
  obtain ⟨x4, w⟩ := w
  refine r_callV X (As := [.int v4]) dX11_seamThen_15 mk_X11_isStretch ⟨ml_X11_295, im_X11_isStretch, se_X11_isStretch⟩ (oF_s es4) (ci_X11).1 rfl rfl rfl (by simp [Value.category]) ⟨x1, by show 60 * (d4 + 1) + 200 ≤ 60 * D + 200; omega⟩ ⟨x2, x3⟩ ct4 x4 (fun _ z => nomatch z) (fun _ => ⟨x2, x3⟩) (fun v h4 w1 => ?_)
  have w := w v h4 w1
  have hk : kc + m4 ≤ mc ∧ ks + n4 ≤ ms := ⟨x2, x3⟩
  obtain ⟨v6, rfl, w⟩ := w
  refine r_if_eq X dX11_seamThen_18 (tgt := 33) (by decide) (fun q => ?_) (fun q => ?_)
  · have w := w.1 q
    refine r_iconst X dX11_seamThen_33 (v := 0) (by decide) ?_
    exact r_iret X dX11_seamThen_34 rfl w hk.1 hk.2
  · have w := w.2 q
    refine r_aload_n X dX11_seamThen_21 rfl ?_
    obtain ⟨v7, ev7, w⟩ := w
    obtain ⟨fv7, cv7, qv7⟩ := gN_s ev7
    refine r_getf X dX11_seamThen_22 fl_X11_56 cv7 qv7 ?_
    obtain ⟨v8, ev8, w⟩ := w
    obtain ⟨fv8, cv8, qv8⟩ := gN_s ev8
    refine r_getf X dX11_seamThen_25 fl_X11_185 cv8 qv8 ?_
    refine r_iload_n X dX11_seamThen_28 rfl ?_
    obtain ⟨v9, ev9, w⟩ := w
    obtain ⟨nv9, fv9, cv9, iv9, qv9⟩ := aI_s ev9
    refine r_iald X dX11_seamThen_29 cv9 iv9 ?_
    rw [qv9]
    refine r_goto X dX11_seamThen_30 (tgt := 34) (by decide) ?_
    exact r_iret X dX11_seamThen_34 rfl w hk.1 hk.2

set_option maxRecDepth 10000 in
theorem b_X11_see_0 {g : GG} {K : KX} {D mc ms : Nat} {Pr : Option Value → Hp → Prop} {Pt : String → Hp → Prop} {kc ks : Nat} (hg : GOK g) (hD : 8 ≤ D) (hk : kc ≤ mc ∧ ks ≤ ms) (X : CB g K cX11_see 5 yX11_see (some (.int)) []) (l0 : Nat) (l1 : Int32) (l2 : Int32) (l3 : Int32) (h : Hp)
    (w : (∃ fs0, oF h l0 10 = some fs0 ∧ (∃ d0 P0 E0 m0 n0, CT g d0 yX11_needStretch (wsC yX11_needStretch cX11_needStretch 2 none) [.ref l0, .int l1] h m0 n0 P0 E0 ∧ (d0 + 1 ≤ D ∧ kc + m0 ≤ mc ∧ ks + n0 ≤ ms) ∧ (∀ E h', E0 E h' → Pt E h') ∧ (∀ v h0, P0 v h0 → v = none ∧ (∃ v2, gN h0 l0 10 8 = some v2 ∧ (∃ v3, gN h0 v2 3 2 = some v3 ∧ (∃ v4, gI h0 v3 7 0 = some v4 ∧ (((8 : Int32) ≤ v4 → VB g K 5 D mc ms Pr Pt ((kc + m0)) ((ks + n0)) 44 [some (.ref l0), some (.int l1), some (.int l2), some (.int l3), none] [] h0) ∧ (¬ (8 : Int32) ≤ v4 → ((l2 < 0 → VB g K 5 D mc ms Pr Pt ((kc + m0)) ((ks + n0)) 44 [some (.ref l0), some (.int l1), some (.int l2), some (.int l3), none] [] h0) ∧ (¬ l2 < 0 → (((20 : Int32) < l2 → VB g K 5 D mc ms Pr Pt ((kc + m0)) ((ks + n0)) 44 [some (.ref l0), some (.int l1), some (.int l2), some (.int l3), none] [] h0) ∧ (¬ (20 : Int32) < l2 → ((l3 < 0 → VB g K 5 D mc ms Pr Pt ((kc + m0)) ((ks + n0)) 44 [some (.ref l0), some (.int l1), some (.int l2), some (.int l3), none] [] h0) ∧ (¬ l3 < 0 → (((99 : Int32) < l3 → VB g K 5 D mc ms Pr Pt ((kc + m0)) ((ks + n0)) 44 [some (.ref l0), some (.int l1), some (.int l2), some (.int l3), none] [] h0) ∧ (¬ (99 : Int32) < l3 → VB g K 5 D mc ms Pr Pt ((kc + m0)) ((ks + n0)) 45 [some (.ref l0), some (.int l1), some (.int l2), some (.int l3), none] [.int ((1 : Int32))] h0))))))))))))))))) : VB g K 5 D mc ms Pr Pt kc ks 0 [some (.ref l0), some (.int l1), some (.int l2), some (.int l3), none] [] h := by
  obtain ⟨p, e, s, m, args, below, meth, c⟩ := K
  have X : CX g p s m args meth c cX11_see 5 yX11_see (some (.int)) [] := X
  have hz := hg s X.gk.z
  show VV g p e (rmm D mc ms) s m args below meth c 5 (QQ g below args s mc ms Pr Pt) kc ks 0 [some (.ref l0), some (.int l1), some (.int l2), some (.int l3), none] [] h
  refine r_aload_n X dX11_see_0 rfl ?_
  refine r_iload_n X dX11_see_1 rfl ?_
  obtain ⟨fs0, es0, w⟩ := w
  obtain ⟨d0, P0, E0, m0, n0, ct0, w⟩ := w
  obtain ⟨⟨x1, x2, x3⟩, w⟩ := w
  obtain ⟨x4, w⟩ := w
  refine r_callV X (As := [.int l1]) dX11_see_2 mk_X11_needStretch ⟨ml_X11_179, im_X11_needStretch, se_X11_needStretch⟩ (oF_s es0) (ci_X11).1 rfl rfl rfl (by simp [Value.category]) ⟨x1, by show 60 * (d0 + 1) + 200 ≤ 60 * D + 200; omega⟩ ⟨x2, x3⟩ ct0 x4 (fun _ z => nomatch z) (fun _ => ⟨x2, x3⟩) (fun v h0 w1 => ?_)
  have w := w v h0 w1
  have hk : kc + m0 ≤ mc ∧ ks + n0 ≤ ms := ⟨x2, x3⟩
  obtain ⟨rfl, w⟩ := w
  refine r_aload_n X dX11_see_5 rfl ?_
  obtain ⟨v2, ev2, w⟩ := w
  obtain ⟨fv2, cv2, qv2⟩ := gN_s ev2
  refine r_getf X dX11_see_6 fl_X11_42 cv2 qv2 ?_
  obtain ⟨v3, ev3, w⟩ := w
  obtain ⟨fv3, cv3, qv3⟩ := gN_s ev3
  refine r_getf X dX11_see_9 fl_X11_134 cv3 qv3 ?_
  obtain ⟨v4, ev4, w⟩ := w
  obtain ⟨fv4, cv4, qv4⟩ := gI_s ev4
  refine r_getf X dX11_see_12 fl_X11_173 cv4 qv4 ?_
  refine r_bipush X dX11_see_15 (v := 8) (by decide) ?_
  refine r_icmp_ge X dX11_see_17 (tgt := 44) (by decide) (fun q => ?_) (fun q => ?_)
  · have w := w.1 q
    refine VB_wk (ls' := [some (.ref l0), some (.int l1), some (.int l2), some (.int l3), none]) ?_ w
    exact (And.intro rfl (And.intro rfl (And.intro rfl (And.intro rfl trivial))))
  · have w := w.2 q
    refine r_iload_n X dX11_see_20 rfl ?_
    refine r_if_lt X dX11_see_21 (tgt := 44) (by decide) (fun q => ?_) (fun q => ?_)
    · have w := w.1 q
      refine VB_wk (ls' := [some (.ref l0), some (.int l1), some (.int l2), some (.int l3), none]) ?_ w
      exact (And.intro rfl (And.intro rfl (And.intro rfl (And.intro rfl trivial))))
    · have w := w.2 q
      refine r_iload_n X dX11_see_24 rfl ?_
      refine r_bipush X dX11_see_25 (v := 20) (by decide) ?_
      refine r_icmp_gt X dX11_see_27 (tgt := 44) (by decide) (fun q => ?_) (fun q => ?_)
      · have w := w.1 q
        refine VB_wk (ls' := [some (.ref l0), some (.int l1), some (.int l2), some (.int l3), none]) ?_ w
        exact (And.intro rfl (And.intro rfl (And.intro rfl (And.intro rfl trivial))))
      · have w := w.2 q
        refine r_iload_n X dX11_see_30 rfl ?_
        refine r_if_lt X dX11_see_31 (tgt := 44) (by decide) (fun q => ?_) (fun q => ?_)
        · have w := w.1 q
          refine VB_wk (ls' := [some (.ref l0), some (.int l1), some (.int l2), some (.int l3), none]) ?_ w
          exact (And.intro rfl (And.intro rfl (And.intro rfl (And.intro rfl trivial))))
        · have w := w.2 q
          refine r_iload_n X dX11_see_34 rfl ?_
          refine r_bipush X dX11_see_35 (v := 99) (by decide) ?_
          refine r_icmp_gt X dX11_see_37 (tgt := 44) (by decide) (fun q => ?_) (fun q => ?_)
          · have w := w.1 q
            refine VB_wk (ls' := [some (.ref l0), some (.int l1), some (.int l2), some (.int l3), none]) ?_ w
            exact (And.intro rfl (And.intro rfl (And.intro rfl (And.intro rfl trivial))))
          · have w := w.2 q
            refine r_iconst X dX11_see_40 (v := 1) (by decide) ?_
            refine r_goto X dX11_see_41 (tgt := 45) (by decide) ?_
            refine VB_wk (ls' := [some (.ref l0), some (.int l1), some (.int l2), some (.int l3), none]) ?_ w
            exact (And.intro rfl (And.intro rfl (And.intro rfl (And.intro rfl trivial))))

set_option maxRecDepth 10000 in
theorem b_X11_see_44 {g : GG} {K : KX} {D mc ms : Nat} {Pr : Option Value → Hp → Prop} {Pt : String → Hp → Prop} {kc ks : Nat} (hg : GOK g) (hD : 8 ≤ D) (hk : kc ≤ mc ∧ ks ≤ ms) (X : CB g K cX11_see 5 yX11_see (some (.int)) []) (l0 : Nat) (l1 : Int32) (l2 : Int32) (l3 : Int32) (h : Hp)
    (w : VB g K 5 D mc ms Pr Pt kc ks 45 [some (.ref l0), some (.int l1), some (.int l2), some (.int l3), none] [.int ((0 : Int32))] h) : VB g K 5 D mc ms Pr Pt kc ks 44 [some (.ref l0), some (.int l1), some (.int l2), some (.int l3), none] [] h := by
  obtain ⟨p, e, s, m, args, below, meth, c⟩ := K
  have X : CX g p s m args meth c cX11_see 5 yX11_see (some (.int)) [] := X
  have hz := hg s X.gk.z
  show VV g p e (rmm D mc ms) s m args below meth c 5 (QQ g below args s mc ms Pr Pt) kc ks 44 [some (.ref l0), some (.int l1), some (.int l2), some (.int l3), none] [] h
  refine r_iconst X dX11_see_44 (v := 0) (by decide) ?_
  refine VB_wk (ls' := [some (.ref l0), some (.int l1), some (.int l2), some (.int l3), none]) ?_ w
  exact (And.intro rfl (And.intro rfl (And.intro rfl (And.intro rfl trivial))))

set_option maxRecDepth 10000 in
theorem b_X11_see_45 {g : GG} {K : KX} {D mc ms : Nat} {Pr : Option Value → Hp → Prop} {Pt : String → Hp → Prop} {kc ks : Nat} (hg : GOK g) (hD : 8 ≤ D) (hk : kc ≤ mc ∧ ks ≤ ms) (X : CB g K cX11_see 5 yX11_see (some (.int)) []) (l0 : Nat) (l1 : Int32) (l2 : Int32) (l3 : Int32) (s0 : Int32) (h : Hp)
    (w : ((¬ s0 = 0 → (∃ v1, gN h l0 10 8 = some v1 ∧ (∃ v2, gN h v1 3 2 = some v2 ∧ (∃ fs2, oF h v2 7 = some fs2 ∧ (∃ d2 P2 E2 m2 n2, CT g d2 yX7_put (wsC yX7_put cX7_put 4 none) [.ref v2, .int l1, .int l2, .int l3] h m2 n2 P2 E2 ∧ (d2 + 1 ≤ D ∧ kc + m2 ≤ mc ∧ ks + n2 ≤ ms) ∧ (∀ E h', E2 E h' → Pt E h') ∧ (∀ v h2, P2 v h2 → v = none ∧ (∃ v4, gN h2 l0 10 8 = some v4 ∧ (∃ v5, gN h2 v4 3 2 = some v5 ∧ (∃ v6, gI h2 v5 7 0 = some v6 ∧ Pr (some (.int v6)) h2))))))))) ∧ (s0 = 0 → (∃ v7, gI h l0 10 5 = some v7 ∧ (∃ h8, pF h l0 10 5 (.int ((v7 + (1 : Int32)))) = some h8 ∧ Pr (some (.int ((-1 : Int32)))) h8))))) : VB g K 5 D mc ms Pr Pt kc ks 45 [some (.ref l0), some (.int l1), some (.int l2), some (.int l3), none] [.int s0] h := by
  obtain ⟨p, e, s, m, args, below, meth, c⟩ := K
  have X : CX g p s m args meth c cX11_see 5 yX11_see (some (.int)) [] := X
  have hz := hg s X.gk.z
  show VV g p e (rmm D mc ms) s m args below meth c 5 (QQ g below args s mc ms Pr Pt) kc ks 45 [some (.ref l0), some (.int l1), some (.int l2), some (.int l3), none] [.int s0] h
  refine r_istore X dX11_see_45 (by decide) rfl ?_
  refine r_iload X dX11_see_47 rfl ?_
  refine r_if_ne X dX11_see_49 (tgt := 64) (by decide) (fun q => ?_) (fun q => ?_)
  · have w := w.1 q
    refine r_aload_n X dX11_see_64 rfl ?_
    obtain ⟨v1, ev1, w⟩ := w
    obtain ⟨fv1, cv1, qv1⟩ := gN_s ev1
    refine r_getf X dX11_see_65 fl_X11_42 cv1 qv1 ?_
    obtain ⟨v2, ev2, w⟩ := w
    obtain ⟨fv2, cv2, qv2⟩ := gN_s ev2
    refine r_getf X dX11_see_68 fl_X11_134 cv2 qv2 ?_
    refine r_iload_n X dX11_see_71 rfl ?_
    refine r_iload_n X dX11_see_72 rfl ?_
    refine r_iload_n X dX11_see_73 rfl ?_
    obtain ⟨fs2, es2, w⟩ := w
    obtain ⟨d2, P2, E2, m2, n2, ct2, w⟩ := w
    obtain ⟨⟨x1, x2, x3⟩, w⟩ := w
    obtain ⟨x4, w⟩ := w
    refine r_callV X (As := [.int l1, .int l2, .int l3]) dX11_see_74 mk_X7_put ⟨ml_X11_349, im_X7_put, se_X7_put⟩ (oF_s es2) (ci_X7).1 rfl rfl rfl (by simp [Value.category]) ⟨x1, by show 60 * (d2 + 1) + 200 ≤ 60 * D + 200; omega⟩ ⟨x2, x3⟩ ct2 x4 (fun _ z => nomatch z) (fun _ => ⟨x2, x3⟩) (fun v h2 w1 => ?_)
    have w := w v h2 w1
    have hk : kc + m2 ≤ mc ∧ ks + n2 ≤ ms := ⟨x2, x3⟩
    obtain ⟨rfl, w⟩ := w
    refine r_aload_n X dX11_see_77 rfl ?_
    obtain ⟨v4, ev4, w⟩ := w
    obtain ⟨fv4, cv4, qv4⟩ := gN_s ev4
    refine r_getf X dX11_see_78 fl_X11_42 cv4 qv4 ?_
    obtain ⟨v5, ev5, w⟩ := w
    obtain ⟨fv5, cv5, qv5⟩ := gN_s ev5
    refine r_getf X dX11_see_81 fl_X11_134 cv5 qv5 ?_
    obtain ⟨v6, ev6, w⟩ := w
    obtain ⟨fv6, cv6, qv6⟩ := gI_s ev6
    refine r_getf X dX11_see_84 fl_X11_173 cv6 qv6 ?_
    exact r_iret X dX11_see_87 rfl w hk.1 hk.2
  · have w := w.2 q
    refine r_aload_n X dX11_see_52 rfl ?_
    refine r_dup X dX11_see_53 rfl ?_
    obtain ⟨v7, ev7, w⟩ := w
    obtain ⟨fv7, cv7, qv7⟩ := gI_s ev7
    refine r_getf X dX11_see_54 fl_X11_26 cv7 qv7 ?_
    refine r_iconst X dX11_see_57 (v := 1) (by decide) ?_
    refine r_iadd X dX11_see_58 ?_
    obtain ⟨h8, eh8, w⟩ := w
    obtain ⟨fh8, ch8, lh8, rh8⟩ := pF_s eh8
    subst rh8
    refine r_putf X dX11_see_59 fw_X11_26 ch8 lh8 rfl rfl ?_
    refine r_iconst X dX11_see_62 (v := -1) (by decide) ?_
    exact r_iret X dX11_see_63 rfl w hk.1 hk.2

set_option maxRecDepth 10000 in
theorem b_X11_sent_0 {g : GG} {K : KX} {D mc ms : Nat} {Pr : Option Value → Hp → Prop} {Pt : String → Hp → Prop} {kc ks : Nat} (hg : GOK g) (hD : 8 ≤ D) (hk : kc ≤ mc ∧ ks ≤ ms) (X : CB g K cX11_sent 3 yX11_sent (some (.int)) []) (l0 : Nat) (l1 : Int32) (l2 : Int32) (h : Hp)
    (w : ((l1 < 0 → VB g K 3 D mc ms Pr Pt kc ks 26 [none, none, none] [] h) ∧ (¬ l1 < 0 → (∃ v1, gN h l0 10 6 = some v1 ∧ (∃ v2, gI h v1 9 0 = some v2 ∧ ((((1 : Int32) <<< (v2 &&& 31)) ≤ l1 → VB g K 3 D mc ms Pr Pt kc ks 26 [none, none, none] [] h) ∧ (¬ ((1 : Int32) <<< (v2 &&& 31)) ≤ l1 → (∃ d2 P2 E2 m2 n2, CT g d2 yJ6_bitCount_0f7a4 (wsC yJ6_bitCount_0f7a4 cJ6_bitCount_0f7a4 1 (some (.int))) [.int l1] h m2 n2 P2 E2 ∧ (d2 + 1 ≤ D ∧ kc + m2 ≤ mc ∧ ks + n2 ≤ ms) ∧ (∀ E h', E2 E h' → Pt E h') ∧ (∀ v h2, P2 v h2 → ∃ v4, v = some (.int v4) ∧ ((v4 ≤ (6 : Int32) → ((l2 = (-1 : Int32) → VB g K 3 D mc ms Pr Pt ((kc + m2)) ((ks + n2)) 69 [some (.ref l0), some (.int l1), some (.int l2)] [] h2) ∧ (¬ l2 = (-1 : Int32) → (∃ fs4, oF h2 l0 10 = some fs4 ∧ (∃ d4 P4 E4 m4 n4, CT g d4 yX11_isStretch (wsC yX11_isStretch cX11_isStretch 2 (some (.boolean))) [.ref l0, .int l2] h2 m4 n4 P4 E4 ∧ (d4 + 1 ≤ D ∧ (kc + m2) + m4 ≤ mc ∧ (ks + n2) + n4 ≤ ms) ∧ (∀ E h', E4 E h' → Pt E h') ∧ (∀ v h4, P4 v h4 → ∃ v6, v = some (.int v6) ∧ ((v6 = 0 → VB g K 3 D mc ms Pr Pt (((kc + m2) + m4)) (((ks + n2) + n4)) 58 [none, none, none] [] h4) ∧ (¬ v6 = 0 → ((¬ ((l1 >>> (l2 &&& 31)) &&& (1 : Int32)) = 0 → VB g K 3 D mc ms Pr Pt (((kc + m2) + m4)) (((ks + n2) + n4)) 69 [some (.ref l0), some (.int l1), some (.int l2)] [] h4) ∧ (((l1 >>> (l2 &&& 31)) &&& (1 : Int32)) = 0 → VB g K 3 D mc ms Pr Pt (((kc + m2) + m4)) (((ks + n2) + n4)) 58 [none, none, none] [] h4)))))))))) ∧ (¬ v4 ≤ (6 : Int32) → VB g K 3 D mc ms Pr Pt ((kc + m2)) ((ks + n2)) 26 [none, none, none] [] h2))))))))))) : VB g K 3 D mc ms Pr Pt kc ks 0 [some (.ref l0), some (.int l1), some (.int l2)] [] h := by
  obtain ⟨p, e, s, m, args, below, meth, c⟩ := K
  have X : CX g p s m args meth c cX11_sent 3 yX11_sent (some (.int)) [] := X
  have hz := hg s X.gk.z
  show VV g p e (rmm D mc ms) s m args below meth c 3 (QQ g below args s mc ms Pr Pt) kc ks 0 [some (.ref l0), some (.int l1), some (.int l2)] [] h
  refine r_iload_n X dX11_sent_0 rfl ?_
  refine r_if_lt X dX11_sent_1 (tgt := 26) (by decide) (fun q => ?_) (fun q => ?_)
  · have w := w.1 q
    refine VB_wk (ls' := [none, none, none]) ?_ w
    exact trivial
  · have w := w.2 q
    refine r_iload_n X dX11_sent_4 rfl ?_
    refine r_iconst X dX11_sent_5 (v := 1) (by decide) ?_
    refine r_aload_n X dX11_sent_6 rfl ?_
    obtain ⟨v1, ev1, w⟩ := w
    obtain ⟨fv1, cv1, qv1⟩ := gN_s ev1
    refine r_getf X dX11_sent_7 fl_X11_32 cv1 qv1 ?_
    obtain ⟨v2, ev2, w⟩ := w
    obtain ⟨fv2, cv2, qv2⟩ := gI_s ev2
    refine r_getf X dX11_sent_10 fl_X11_141 cv2 qv2 ?_
    refine r_ishl X dX11_sent_13 ?_
    refine r_icmp_ge X dX11_sent_14 (tgt := 26) (by decide) (fun q => ?_) (fun q => ?_)
    · have w := w.1 q
      refine VB_wk (ls' := [none, none, none]) ?_ w
      exact trivial
    · have w := w.2 q
      refine r_iload_n X dX11_sent_17 rfl ?_
      obtain ⟨d2, P2, E2, m2, n2, ct2, w⟩ := w
      obtain ⟨⟨x1, x2, x3⟩, w⟩ := w
      obtain ⟨x4, w⟩ := w
      refine r_callS X (As := [.int l1]) dX11_sent_18 mk_J6_bitCount_0f7a4 ⟨ml_X11_286, sm_J6_bitCount_0f7a4⟩ rfl rfl (by simp [Value.category]) ⟨x1, by show 60 * (d2 + 1) + 200 ≤ 60 * D + 200; omega⟩ ⟨x2, x3⟩ ct2 x4 (fun _ z => nomatch z) (fun _ => ⟨x2, x3⟩) (fun v h2 w1 => ?_)
      have w := w v h2 w1
      have hk : kc + m2 ≤ mc ∧ ks + n2 ≤ ms := ⟨x2, x3⟩
      obtain ⟨v4, rfl, w⟩ := w
      refine r_bipush X dX11_sent_21 (v := 6) (by decide) ?_
      refine r_icmp_le X dX11_sent_23 (tgt := 37) (by decide) (fun q => ?_) (fun q => ?_)
      · have w := w.1 q
        refine r_iload_n X dX11_sent_37 rfl ?_
        refine r_iconst X dX11_sent_38 (v := -1) (by decide) ?_
        refine r_icmp_eq X dX11_sent_39 (tgt := 69) (by decide) (fun q => ?_) (fun q => ?_)
        · have w := w.1 q
          refine VB_wk (ls' := [some (.ref l0), some (.int l1), some (.int l2)]) ?_ w
          exact (And.intro rfl (And.intro rfl (And.intro rfl trivial)))
        · have w := w.2 q
          refine r_aload_n X dX11_sent_42 rfl ?_
          refine r_iload_n X dX11_sent_43 rfl ?_
          obtain ⟨fs4, es4, w⟩ := w
          obtain ⟨d4, P4, E4, m4, n4, ct4, w⟩ := w
          obtain ⟨⟨x1, x2, x3⟩, w⟩ := w
          obtain ⟨x4, w⟩ := w
          refine r_callV X (As := [.int l2]) dX11_sent_44 mk_X11_isStretch ⟨ml_X11_295, im_X11_isStretch, se_X11_isStretch⟩ (oF_s es4) (ci_X11).1 rfl rfl rfl (by simp [Value.category]) ⟨x1, by show 60 * (d4 + 1) + 200 ≤ 60 * D + 200; omega⟩ ⟨x2, x3⟩ ct4 x4 (fun _ z => nomatch z) (fun _ => ⟨x2, x3⟩) (fun v h4 w1 => ?_)
          have w := w v h4 w1
          have hk : (kc + m2) + m4 ≤ mc ∧ (ks + n2) + n4 ≤ ms := ⟨x2, x3⟩
          obtain ⟨v6, rfl, w⟩ := w
          refine r_if_eq X dX11_sent_47 (tgt := 58) (by decide) (fun q => ?_) (fun q => ?_)
          · have w := w.1 q
            refine VB_wk (ls' := [none, none, none]) ?_ w
            exact trivial
          · have w := w.2 q
            refine r_iload_n X dX11_sent_50 rfl ?_
            refine r_iload_n X dX11_sent_51 rfl ?_
            refine r_ishr X dX11_sent_52 ?_
            refine r_iconst X dX11_sent_53 (v := 1) (by decide) ?_
            refine r_iand X dX11_sent_54 ?_
            refine r_if_ne X dX11_sent_55 (tgt := 69) (by decide) (fun q => ?_) (fun q => ?_)
            · have w := w.1 q
              refine VB_wk (ls' := [some (.ref l0), some (.int l1), some (.int l2)]) ?_ w
              exact (And.intro rfl (And.intro rfl (And.intro rfl trivial)))
            · have w := w.2 q
              refine VB_wk (ls' := [none, none, none]) ?_ w
              exact trivial
      · have w := w.2 q
        refine VB_wk (ls' := [none, none, none]) ?_ w
        exact trivial

set_option maxRecDepth 10000 in
theorem b_X11_sent_26 {g : GG} {K : KX} {D mc ms : Nat} {Pr : Option Value → Hp → Prop} {Pt : String → Hp → Prop} {kc ks : Nat} (hg : GOK g) (hD : 8 ≤ D) (hk : kc ≤ mc ∧ ks ≤ ms) (X : CB g K cX11_sent 3 yX11_sent (some (.int)) [])  (h : Hp)
    (w : ((kc + 1 ≤ mc ∧ ks + 6 ≤ ms) ∧ Pt "java/lang/IllegalArgumentException" (h ++ [dead]))) : VB g K 3 D mc ms Pr Pt kc ks 26 [none, none, none] [] h := by
  obtain ⟨p, e, s, m, args, below, meth, c⟩ := K
  have X : CX g p s m args meth c cX11_sent 3 yX11_sent (some (.int)) [] := X
  have hz := hg s X.gk.z
  show VV g p e (rmm D mc ms) s m args below meth c 3 (QQ g below args s mc ms Pr Pt) kc ks 26 [none, none, none] [] h
  obtain ⟨q1, w⟩ := w
  exact r_throwSW X hz.1 (hz.2.1 (RX11, 95, 293, 99, "java/lang/IllegalArgumentException", "not bits of stretches, or too many") (by decide)) dX11_sent_26 dX11_sent_29 dX11_sent_30 dX11_sent_33 dX11_sent_36 (fun _ z => nomatch z) (by refine ⟨?_, ?_, q1.1, q1.2⟩ <;> simp [rmm, Value.category] <;> omega) q1.1 q1.2 w

set_option maxRecDepth 10000 in
theorem b_X11_sent_58 {g : GG} {K : KX} {D mc ms : Nat} {Pr : Option Value → Hp → Prop} {Pt : String → Hp → Prop} {kc ks : Nat} (hg : GOK g) (hD : 8 ≤ D) (hk : kc ≤ mc ∧ ks ≤ ms) (X : CB g K cX11_sent 3 yX11_sent (some (.int)) [])  (h : Hp)
    (w : ((kc + 1 ≤ mc ∧ ks + 6 ≤ ms) ∧ Pt "java/util/NoSuchElementException" (h ++ [dead]))) : VB g K 3 D mc ms Pr Pt kc ks 58 [none, none, none] [] h := by
  obtain ⟨p, e, s, m, args, below, meth, c⟩ := K
  have X : CX g p s m args meth c cX11_sent 3 yX11_sent (some (.int)) [] := X
  have hz := hg s X.gk.z
  show VV g p e (rmm D mc ms) s m args below meth c 3 (QQ g below args s mc ms Pr Pt) kc ks 58 [none, none, none] [] h
  obtain ⟨q1, w⟩ := w
  exact r_throwSW X hz.1 (hz.2.1 (RX11, 174, 298, 178, "java/util/NoSuchElementException", "no such stretch of these") (by decide)) dX11_sent_58 dX11_sent_61 dX11_sent_62 dX11_sent_65 dX11_sent_68 (fun _ z => nomatch z) (by refine ⟨?_, ?_, q1.1, q1.2⟩ <;> simp [rmm, Value.category] <;> omega) q1.1 q1.2 w

set_option maxRecDepth 10000 in
theorem b_X11_sent_69 {g : GG} {K : KX} {D mc ms : Nat} {Pr : Option Value → Hp → Prop} {Pt : String → Hp → Prop} {kc ks : Nat} (hg : GOK g) (hD : 8 ≤ D) (hk : kc ≤ mc ∧ ks ≤ ms) (X : CB g K cX11_sent 3 yX11_sent (some (.int)) []) (l0 : Nat) (l1 : Int32) (l2 : Int32) (h : Hp)
    (w : (∃ d0 P0 E0 m0 n0, CT g d0 yJ6_bitCount_0f7a4 (wsC yJ6_bitCount_0f7a4 cJ6_bitCount_0f7a4 1 (some (.int))) [.int l1] h m0 n0 P0 E0 ∧ (d0 + 1 ≤ D ∧ kc + m0 ≤ mc ∧ ks + n0 ≤ ms) ∧ (∀ E h', E0 E h' → Pt E h') ∧ (∀ v h0, P0 v h0 → ∃ v2, v = some (.int v2) ∧ (∃ v3, gN h0 l0 10 6 = some v3 ∧ (∃ v4, gI h0 v3 9 1 = some v4 ∧ ((v2 ≤ v4 → (∃ v5, gN h0 l0 10 15 = some v5 ∧ (∃ v6, gN h0 l0 10 6 = some v6 ∧ (∃ v7, gN h0 l0 10 8 = some v7 ∧ (∃ v8, gN h0 v7 3 0 = some v8 ∧ (∃ fs8, oF h0 v5 8 = some fs8 ∧ (∃ d8 P8 E8 m8 n8, CT g d8 yX8_weigh (wsC yX8_weigh cX8_weigh 5 none) [.ref v5, .ref v6, .ref v8, .int l1] h0 m8 n8 P8 E8 ∧ (d8 + 1 ≤ D ∧ (kc + m0) + m8 ≤ mc ∧ (ks + n0) + n8 ≤ ms) ∧ (∀ E h', E8 E h' → Pt E h') ∧ (∀ v h8, P8 v h8 → v = none ∧ ((¬ l2 = (-1 : Int32) → (∃ v10, gN h8 l0 10 15 = some v10 ∧ (∃ v11, gN h8 l0 10 6 = some v11 ∧ (∃ v12, gN h8 l0 10 8 = some v12 ∧ (∃ v13, gN h8 v12 3 0 = some v13 ∧ (∃ fs13, oF h8 v10 8 = some fs13 ∧ (∃ d13 P13 E13 m13 n13, CT g d13 yX8_whoGoesTo (wsC yX8_whoGoesTo cX8_whoGoesTo 7 (some (.int))) [.ref v10, .ref v11, .ref v13, .int l2] h8 m13 n13 P13 E13 ∧ (d13 + 1 ≤ D ∧ ((kc + m0) + m8) + m13 ≤ mc ∧ ((ks + n0) + n8) + n13 ≤ ms) ∧ (∀ E h', E13 E h' → Pt E h') ∧ (∀ v h13, P13 v h13 → ∃ v15, v = some (.int v15) ∧ Pr (some (.int v15)) h13)))))))) ∧ (l2 = (-1 : Int32) → (∃ v16, gN h8 l0 10 15 = some v16 ∧ (∃ fs16, oF h8 v16 8 = some fs16 ∧ (∃ d16 P16 E16 m16 n16, CT g d16 yX8_stepsOfAll (wsC yX8_stepsOfAll cX8_stepsOfAll 1 (some (.int))) [.ref v16] h8 m16 n16 P16 E16 ∧ (d16 + 1 ≤ D ∧ ((kc + m0) + m8) + m16 ≤ mc ∧ ((ks + n0) + n8) + n16 ≤ ms) ∧ (∀ E h', E16 E h' → Pt E h') ∧ (∀ v h16, P16 v h16 → ∃ v18, v = some (.int v18) ∧ Pr (some (.int v18)) h16)))))))))))))) ∧ (¬ v2 ≤ v4 → Pr (some (.int ((-2 : Int32)))) h0))))))) : VB g K 3 D mc ms Pr Pt kc ks 69 [some (.ref l0), some (.int l1), some (.int l2)] [] h := by
  obtain ⟨p, e, s, m, args, below, meth, c⟩ := K
  have X : CX g p s m args meth c cX11_sent 3 yX11_sent (some (.int)) [] := X
  have hz := hg s X.gk.z
  show VV g p e (rmm D mc ms) s m args below meth c 3 (QQ g below args s mc ms Pr Pt) kc ks 69 [some (.ref l0), some (.int l1), some (.int l2)] [] h
  refine r_iload_n X dX11_sent_69 rfl ?_
  obtain ⟨d0, P0, E0, m0, n0, ct0, w⟩ := w
  obtain ⟨⟨x1, x2, x3⟩, w⟩ := w
  obtain ⟨x4, w⟩ := w
  refine r_callS X (As := [.int l1]) dX11_sent_70 mk_J6_bitCount_0f7a4 ⟨ml_X11_286, sm_J6_bitCount_0f7a4⟩ rfl rfl (by simp [Value.category]) ⟨x1, by show 60 * (d0 + 1) + 200 ≤ 60 * D + 200; omega⟩ ⟨x2, x3⟩ ct0 x4 (fun _ z => nomatch z) (fun _ => ⟨x2, x3⟩) (fun v h0 w1 => ?_)
  have w := w v h0 w1
  have hk : kc + m0 ≤ mc ∧ ks + n0 ≤ ms := ⟨x2, x3⟩
  obtain ⟨v2, rfl, w⟩ := w
  refine r_aload_n X dX11_sent_73 rfl ?_
  obtain ⟨v3, ev3, w⟩ := w
  obtain ⟨fv3, cv3, qv3⟩ := gN_s ev3
  refine r_getf X dX11_sent_74 fl_X11_32 cv3 qv3 ?_
  obtain ⟨v4, ev4, w⟩ := w
  obtain ⟨fv4, cv4, qv4⟩ := gI_s ev4
  refine r_getf X dX11_sent_77 fl_X11_144 cv4 qv4 ?_
  refine r_icmp_le X dX11_sent_80 (tgt := 86) (by decide) (fun q => ?_) (fun q => ?_)
  · have w := w.1 q
    refine r_aload_n X dX11_sent_86 rfl ?_
    obtain ⟨v5, ev5, w⟩ := w
    obtain ⟨fv5, cv5, qv5⟩ := gN_s ev5
    refine r_getf X dX11_sent_87 fl_X11_76 cv5 qv5 ?_
    refine r_aload_n X dX11_sent_90 rfl ?_
    obtain ⟨v6, ev6, w⟩ := w
    obtain ⟨fv6, cv6, qv6⟩ := gN_s ev6
    refine r_getf X dX11_sent_91 fl_X11_32 cv6 qv6 ?_
    refine r_aload_n X dX11_sent_94 rfl ?_
    obtain ⟨v7, ev7, w⟩ := w
    obtain ⟨fv7, cv7, qv7⟩ := gN_s ev7
    refine r_getf X dX11_sent_95 fl_X11_42 cv7 qv7 ?_
    obtain ⟨v8, ev8, w⟩ := w
    obtain ⟨fv8, cv8, qv8⟩ := gN_s ev8
    refine r_getf X dX11_sent_98 fl_X11_84 cv8 qv8 ?_
    refine r_iload_n X dX11_sent_101 rfl ?_
    obtain ⟨fs8, es8, w⟩ := w
    obtain ⟨d8, P8, E8, m8, n8, ct8, w⟩ := w
    obtain ⟨⟨x1, x2, x3⟩, w⟩ := w
    obtain ⟨x4, w⟩ := w
    refine r_callV X (As := [.ref v6, .ref v8, .int l1]) dX11_sent_102 mk_X8_weigh ⟨ml_X11_300, im_X8_weigh, se_X8_weigh⟩ (oF_s es8) (ci_X8).1 rfl rfl rfl (by simp [Value.category]) ⟨x1, by show 60 * (d8 + 1) + 200 ≤ 60 * D + 200; omega⟩ ⟨x2, x3⟩ ct8 x4 (fun _ z => nomatch z) (fun _ => ⟨x2, x3⟩) (fun v h8 w1 => ?_)
    have w := w v h8 w1
    have hk : (kc + m0) + m8 ≤ mc ∧ (ks + n0) + n8 ≤ ms := ⟨x2, x3⟩
    obtain ⟨rfl, w⟩ := w
    refine r_iload_n X dX11_sent_105 rfl ?_
    refine r_iconst X dX11_sent_106 (v := -1) (by decide) ?_
    refine r_icmp_ne X dX11_sent_107 (tgt := 120) (by decide) (fun q => ?_) (fun q => ?_)
    · have w := w.1 q
      refine r_aload_n X dX11_sent_120 rfl ?_
      obtain ⟨v10, ev10, w⟩ := w
      obtain ⟨fv10, cv10, qv10⟩ := gN_s ev10
      refine r_getf X dX11_sent_121 fl_X11_76 cv10 qv10 ?_
      refine r_aload_n X dX11_sent_124 rfl ?_
      obtain ⟨v11, ev11, w⟩ := w
      obtain ⟨fv11, cv11, qv11⟩ := gN_s ev11
      refine r_getf X dX11_sent_125 fl_X11_32 cv11 qv11 ?_
      refine r_aload_n X dX11_sent_128 rfl ?_
      obtain ⟨v12, ev12, w⟩ := w
      obtain ⟨fv12, cv12, qv12⟩ := gN_s ev12
      refine r_getf X dX11_sent_129 fl_X11_42 cv12 qv12 ?_
      obtain ⟨v13, ev13, w⟩ := w
      obtain ⟨fv13, cv13, qv13⟩ := gN_s ev13
      refine r_getf X dX11_sent_132 fl_X11_84 cv13 qv13 ?_
      refine r_iload_n X dX11_sent_135 rfl ?_
      obtain ⟨fs13, es13, w⟩ := w
      obtain ⟨d13, P13, E13, m13, n13, ct13, w⟩ := w
      obtain ⟨⟨x1, x2, x3⟩, w⟩ := w
      obtain ⟨x4, w⟩ := w
      refine r_callV X (As := [.ref v11, .ref v13, .int l2]) dX11_sent_136 mk_X8_whoGoesTo ⟨ml_X11_307, im_X8_whoGoesTo, se_X8_whoGoesTo⟩ (oF_s es13) (ci_X8).1 rfl rfl rfl (by simp [Value.category]) ⟨x1, by show 60 * (d13 + 1) + 200 ≤ 60 * D + 200; omega⟩ ⟨x2, x3⟩ ct13 x4 (fun _ z => nomatch z) (fun _ => ⟨x2, x3⟩) (fun v h13 w1 => ?_)
      have w := w v h13 w1
      have hk : ((kc + m0) + m8) + m13 ≤ mc ∧ ((ks + n0) + n8) + n13 ≤ ms := ⟨x2, x3⟩
      obtain ⟨v15, rfl, w⟩ := w
      exact r_iret X dX11_sent_139 rfl w hk.1 hk.2
    · have w := w.2 q
      refine r_aload_n X dX11_sent_110 rfl ?_
      obtain ⟨v16, ev16, w⟩ := w
      obtain ⟨fv16, cv16, qv16⟩ := gN_s ev16
      refine r_getf X dX11_sent_111 fl_X11_76 cv16 qv16 ?_
      obtain ⟨fs16, es16, w⟩ := w
      obtain ⟨d16, P16, E16, m16, n16, ct16, w⟩ := w
      obtain ⟨⟨x1, x2, x3⟩, w⟩ := w
      obtain ⟨x4, w⟩ := w
      refine r_callV X (As := []) dX11_sent_114 mk_X8_stepsOfAll ⟨ml_X11_304, im_X8_stepsOfAll, se_X8_stepsOfAll⟩ (oF_s es16) (ci_X8).1 rfl rfl rfl (by simp [Value.category]) ⟨x1, by show 60 * (d16 + 1) + 200 ≤ 60 * D + 200; omega⟩ ⟨x2, x3⟩ ct16 x4 (fun _ z => nomatch z) (fun _ => ⟨x2, x3⟩) (fun v h16 w1 => ?_)
      have w := w v h16 w1
      have hk : ((kc + m0) + m8) + m16 ≤ mc ∧ ((ks + n0) + n8) + n16 ≤ ms := ⟨x2, x3⟩
      obtain ⟨v18, rfl, w⟩ := w
      refine r_goto X dX11_sent_117 (tgt := 139) (by decide) ?_
      exact r_iret X dX11_sent_139 rfl w hk.1 hk.2
  · have w := w.2 q
    refine r_bipush X dX11_sent_83 (v := -2) (by decide) ?_
    exact r_iret X dX11_sent_85 rfl w hk.1 hk.2

set_option maxRecDepth 10000 in
theorem b_X11_spent_0 {g : GG} {K : KX} {D mc ms : Nat} {Pr : Option Value → Hp → Prop} {Pt : String → Hp → Prop} {kc ks : Nat} (hg : GOK g) (hD : 8 ≤ D) (hk : kc ≤ mc ∧ ks ≤ ms) (X : CB g K cX11_spent 2 yX11_spent (some (.int)) []) (l0 : Nat) (h : Hp)
    (w : (∃ v1, gN h l0 10 11 = some v1 ∧ (∃ v2, gN h l0 10 8 = some v2 ∧ (∃ v3, gN h v2 3 0 = some v3 ∧ (∃ fs3, oF h v1 2 = some fs3 ∧ (∃ d3 P3 E3 m3 n3, CT g d3 yX2_copyFrom (wsC yX2_copyFrom cX2_copyFrom 2 none) [.ref v1, .ref v3] h m3 n3 P3 E3 ∧ (d3 + 1 ≤ D ∧ kc + m3 ≤ mc ∧ ks + n3 ≤ ms) ∧ (∀ E h', E3 E h' → Pt E h') ∧ (∀ v h3, P3 v h3 → v = none ∧ VB g K 2 D mc ms Pr Pt ((kc + m3)) ((ks + n3)) 16 [some (.ref l0), some (.int ((0 : Int32)))] [] h3))))))) : VB g K 2 D mc ms Pr Pt kc ks 0 [some (.ref l0), none] [] h := by
  obtain ⟨p, e, s, m, args, below, meth, c⟩ := K
  have X : CX g p s m args meth c cX11_spent 2 yX11_spent (some (.int)) [] := X
  have hz := hg s X.gk.z
  show VV g p e (rmm D mc ms) s m args below meth c 2 (QQ g below args s mc ms Pr Pt) kc ks 0 [some (.ref l0), none] [] h
  refine r_aload_n X dX11_spent_0 rfl ?_
  obtain ⟨v1, ev1, w⟩ := w
  obtain ⟨fv1, cv1, qv1⟩ := gN_s ev1
  refine r_getf X dX11_spent_1 fl_X11_56 cv1 qv1 ?_
  refine r_aload_n X dX11_spent_4 rfl ?_
  obtain ⟨v2, ev2, w⟩ := w
  obtain ⟨fv2, cv2, qv2⟩ := gN_s ev2
  refine r_getf X dX11_spent_5 fl_X11_42 cv2 qv2 ?_
  obtain ⟨v3, ev3, w⟩ := w
  obtain ⟨fv3, cv3, qv3⟩ := gN_s ev3
  refine r_getf X dX11_spent_8 fl_X11_84 cv3 qv3 ?_
  obtain ⟨fs3, es3, w⟩ := w
  obtain ⟨d3, P3, E3, m3, n3, ct3, w⟩ := w
  obtain ⟨⟨x1, x2, x3⟩, w⟩ := w
  obtain ⟨x4, w⟩ := w
  refine r_callV X (As := [.ref v3]) dX11_spent_11 mk_X2_copyFrom ⟨ml_X11_123, im_X2_copyFrom, se_X2_copyFrom⟩ (oF_s es3) (ci_X2).1 rfl rfl rfl (by simp [Value.category]) ⟨x1, by show 60 * (d3 + 1) + 200 ≤ 60 * D + 200; omega⟩ ⟨x2, x3⟩ ct3 x4 (fun _ z => nomatch z) (fun _ => ⟨x2, x3⟩) (fun v h3 w1 => ?_)
  have w := w v h3 w1
  have hk : kc + m3 ≤ mc ∧ ks + n3 ≤ ms := ⟨x2, x3⟩
  obtain ⟨rfl, w⟩ := w
  refine r_iconst X dX11_spent_14 (v := 0) (by decide) ?_
  refine r_istore_n X dX11_spent_15 (by decide) rfl ?_
  refine VB_wk (ls' := [some (.ref l0), some (.int ((0 : Int32)))]) ?_ w
  exact (And.intro rfl (And.intro rfl trivial))

set_option maxRecDepth 10000 in
theorem b_X11_spent_16 {g : GG} {K : KX} {D mc ms : Nat} {Pr : Option Value → Hp → Prop} {Pt : String → Hp → Prop} {kc ks : Nat} (hg : GOK g) (hD : 8 ≤ D) (hk : kc ≤ mc ∧ ks ≤ ms) (X : CB g K cX11_spent 2 yX11_spent (some (.int)) []) (l0 : Nat) (l1 : Int32) (h : Hp)
    (w : (((60 : Int32) < l1 → Pr (some (.int ((-1 : Int32)))) h) ∧ (¬ (60 : Int32) < l1 → (∃ v1, gN h l0 10 11 = some v1 ∧ (∃ v2, gN h l0 10 6 = some v2 ∧ (∃ fs2, oF h v1 2 = some fs2 ∧ (∃ d2 P2 E2 m2 n2, CT g d2 yX2_threadOfAll (wsC yX2_threadOfAll cX2_threadOfAll 4 (some (.int))) [.ref v1, .ref v2] h m2 n2 P2 E2 ∧ (d2 + 1 ≤ D ∧ kc + m2 ≤ mc ∧ ks + n2 ≤ ms) ∧ (∀ E h', E2 E h' → Pt E h') ∧ (∀ v h2, P2 v h2 → ∃ v4, v = some (.int v4) ∧ ((¬ v4 = 0 → (∃ v5, gN h2 l0 10 11 = some v5 ∧ (∃ v6, gN h2 l0 10 6 = some v6 ∧ (∃ fs6, oF h2 v5 2 = some fs6 ∧ (∃ d6 P6 E6 m6 n6, CT g d6 yX2_passDay (wsC yX2_passDay cX2_passDay 3 none) [.ref v5, .ref v6] h2 m6 n6 P6 E6 ∧ (d6 + 1 ≤ D ∧ (kc + m2) + m6 ≤ mc ∧ (ks + n2) + n6 ≤ ms) ∧ (∀ E h', E6 E h' → Pt E h') ∧ (∀ v h6, P6 v h6 → v = none ∧ VB g K 2 D mc ms Pr Pt (((kc + m2) + m6)) (((ks + n2) + n6)) 16 [some (.ref l0), some (.int ((l1 + 1)))] [] h6)))))) ∧ (v4 = 0 → Pr (some (.int l1)) h2)))))))))) : VB g K 2 D mc ms Pr Pt kc ks 16 [some (.ref l0), some (.int l1)] [] h := by
  obtain ⟨p, e, s, m, args, below, meth, c⟩ := K
  have X : CX g p s m args meth c cX11_spent 2 yX11_spent (some (.int)) [] := X
  have hz := hg s X.gk.z
  show VV g p e (rmm D mc ms) s m args below meth c 2 (QQ g below args s mc ms Pr Pt) kc ks 16 [some (.ref l0), some (.int l1)] [] h
  refine r_iload_n X dX11_spent_16 rfl ?_
  refine r_bipush X dX11_spent_17 (v := 60) (by decide) ?_
  refine r_icmp_gt X dX11_spent_19 (tgt := 55) (by decide) (fun q => ?_) (fun q => ?_)
  · have w := w.1 q
    refine r_iconst X dX11_spent_55 (v := -1) (by decide) ?_
    exact r_iret X dX11_spent_56 rfl w hk.1 hk.2
  · have w := w.2 q
    refine r_aload_n X dX11_spent_22 rfl ?_
    obtain ⟨v1, ev1, w⟩ := w
    obtain ⟨fv1, cv1, qv1⟩ := gN_s ev1
    refine r_getf X dX11_spent_23 fl_X11_56 cv1 qv1 ?_
    refine r_aload_n X dX11_spent_26 rfl ?_
    obtain ⟨v2, ev2, w⟩ := w
    obtain ⟨fv2, cv2, qv2⟩ := gN_s ev2
    refine r_getf X dX11_spent_27 fl_X11_32 cv2 qv2 ?_
    obtain ⟨fs2, es2, w⟩ := w
    obtain ⟨d2, P2, E2, m2, n2, ct2, w⟩ := w
    obtain ⟨⟨x1, x2, x3⟩, w⟩ := w
    obtain ⟨x4, w⟩ := w
    refine r_callV X (As := [.ref v2]) dX11_spent_30 mk_X2_threadOfAll ⟨ml_X11_166, im_X2_threadOfAll, se_X2_threadOfAll⟩ (oF_s es2) (ci_X2).1 rfl rfl rfl (by simp [Value.category]) ⟨x1, by show 60 * (d2 + 1) + 200 ≤ 60 * D + 200; omega⟩ ⟨x2, x3⟩ ct2 x4 (fun _ z => nomatch z) (fun _ => ⟨x2, x3⟩) (fun v h2 w1 => ?_)
    have w := w v h2 w1
    have hk : kc + m2 ≤ mc ∧ ks + n2 ≤ ms := ⟨x2, x3⟩
    obtain ⟨v4, rfl, w⟩ := w
    refine r_if_ne X dX11_spent_33 (tgt := 38) (by decide) (fun q => ?_) (fun q => ?_)
    · have w := w.1 q
      refine r_aload_n X dX11_spent_38 rfl ?_
      obtain ⟨v5, ev5, w⟩ := w
      obtain ⟨fv5, cv5, qv5⟩ := gN_s ev5
      refine r_getf X dX11_spent_39 fl_X11_56 cv5 qv5 ?_
      refine r_aload_n X dX11_spent_42 rfl ?_
      obtain ⟨v6, ev6, w⟩ := w
      obtain ⟨fv6, cv6, qv6⟩ := gN_s ev6
      refine r_getf X dX11_spent_43 fl_X11_32 cv6 qv6 ?_
      obtain ⟨fs6, es6, w⟩ := w
      obtain ⟨d6, P6, E6, m6, n6, ct6, w⟩ := w
      obtain ⟨⟨x1, x2, x3⟩, w⟩ := w
      obtain ⟨x4, w⟩ := w
      refine r_callV X (As := [.ref v6]) dX11_spent_46 mk_X2_passDay ⟨ml_X11_268, im_X2_passDay, se_X2_passDay⟩ (oF_s es6) (ci_X2).1 rfl rfl rfl (by simp [Value.category]) ⟨x1, by show 60 * (d6 + 1) + 200 ≤ 60 * D + 200; omega⟩ ⟨x2, x3⟩ ct6 x4 (fun _ z => nomatch z) (fun _ => ⟨x2, x3⟩) (fun v h6 w1 => ?_)
      have w := w v h6 w1
      have hk : (kc + m2) + m6 ≤ mc ∧ (ks + n2) + n6 ≤ ms := ⟨x2, x3⟩
      obtain ⟨rfl, w⟩ := w
      refine r_iinc X dX11_spent_49 rfl (v := (l1 + 1)) rfl (by decide) rfl ?_
      refine r_goto X dX11_spent_52 (tgt := 16) (by decide) ?_
      refine VB_wk (ls' := [some (.ref l0), some (.int ((l1 + 1)))]) ?_ w
      exact (And.intro rfl (And.intro rfl trivial))
    · have w := w.2 q
      refine r_iload_n X dX11_spent_36 rfl ?_
      exact r_iret X dX11_spent_37 rfl w hk.1 hk.2

set_option maxRecDepth 10000 in
theorem b_X11_staysClosed_0 {g : GG} {K : KX} {D mc ms : Nat} {Pr : Option Value → Hp → Prop} {Pt : String → Hp → Prop} {kc ks : Nat} (hg : GOK g) (hD : 8 ≤ D) (hk : kc ≤ mc ∧ ks ≤ ms) (X : CB g K cX11_staysClosed 4 yX11_staysClosed (some (.boolean)) []) (l0 : Nat) (l1 : Int32) (l2 : Int32) (h : Hp)
    (w : VB g K 4 D mc ms Pr Pt kc ks 2 [some (.ref l0), some (.int l1), some (.int l2), some (.int ((0 : Int32)))] [] h) : VB g K 4 D mc ms Pr Pt kc ks 0 [some (.ref l0), some (.int l1), some (.int l2), none] [] h := by
  obtain ⟨p, e, s, m, args, below, meth, c⟩ := K
  have X : CX g p s m args meth c cX11_staysClosed 4 yX11_staysClosed (some (.boolean)) [] := X
  have hz := hg s X.gk.z
  show VV g p e (rmm D mc ms) s m args below meth c 4 (QQ g below args s mc ms Pr Pt) kc ks 0 [some (.ref l0), some (.int l1), some (.int l2), none] [] h
  refine r_iconst X dX11_staysClosed_0 (v := 0) (by decide) ?_
  refine r_istore_n X dX11_staysClosed_1 (by decide) rfl ?_
  refine VB_wk (ls' := [some (.ref l0), some (.int l1), some (.int l2), some (.int ((0 : Int32)))]) ?_ w
  exact (And.intro rfl (And.intro rfl (And.intro rfl (And.intro rfl trivial))))

set_option maxRecDepth 10000 in
theorem b_X11_staysClosed_2 {g : GG} {K : KX} {D mc ms : Nat} {Pr : Option Value → Hp → Prop} {Pt : String → Hp → Prop} {kc ks : Nat} (hg : GOK g) (hD : 8 ≤ D) (hk : kc ≤ mc ∧ ks ≤ ms) (X : CB g K cX11_staysClosed 4 yX11_staysClosed (some (.boolean)) []) (l0 : Nat) (l1 : Int32) (l2 : Int32) (l3 : Int32) (h : Hp)
    (w : ((l2 ≤ l3 → (isB ((1 : Int32)) ∧ Pr (some (.int ((1 : Int32)))) h)) ∧ (¬ l2 ≤ l3 → (∃ v1, gN h l0 10 11 = some v1 ∧ (∃ v2, gN h l0 10 6 = some v2 ∧ (∃ fs2, oF h v1 2 = some fs2 ∧ (∃ d2 P2 E2 m2 n2, CT g d2 yX2_passDay (wsC yX2_passDay cX2_passDay 3 none) [.ref v1, .ref v2] h m2 n2 P2 E2 ∧ (d2 + 1 ≤ D ∧ kc + m2 ≤ mc ∧ ks + n2 ≤ ms) ∧ (∀ E h', E2 E h' → Pt E h') ∧ (∀ v h2, P2 v h2 → v = none ∧ (∃ v4, gN h2 l0 10 11 = some v4 ∧ (∃ fs4, oF h2 v4 2 = some fs4 ∧ (∃ d4 P4 E4 m4 n4, CT g d4 yX2_isOpen (wsC yX2_isOpen cX2_isOpen 2 (some (.boolean))) [.ref v4, .int l1] h2 m4 n4 P4 E4 ∧ (d4 + 1 ≤ D ∧ (kc + m2) + m4 ≤ mc ∧ (ks + n2) + n4 ≤ ms) ∧ (∀ E h', E4 E h' → Pt E h') ∧ (∀ v h4, P4 v h4 → ∃ v6, v = some (.int v6) ∧ ((v6 = 0 → VB g K 4 D mc ms Pr Pt (((kc + m2) + m4)) (((ks + n2) + n4)) 2 [some (.ref l0), some (.int l1), some (.int l2), some (.int ((l3 + 1)))] [] h4) ∧ (¬ v6 = 0 → (isB ((0 : Int32)) ∧ Pr (some (.int ((0 : Int32)))) h4))))))))))))))) : VB g K 4 D mc ms Pr Pt kc ks 2 [some (.ref l0), some (.int l1), some (.int l2), some (.int l3)] [] h := by
  obtain ⟨p, e, s, m, args, below, meth, c⟩ := K
  have X : CX g p s m args meth c cX11_staysClosed 4 yX11_staysClosed (some (.boolean)) [] := X
  have hz := hg s X.gk.z
  show VV g p e (rmm D mc ms) s m args below meth c 4 (QQ g below args s mc ms Pr Pt) kc ks 2 [some (.ref l0), some (.int l1), some (.int l2), some (.int l3)] [] h
  refine r_iload_n X dX11_staysClosed_2 rfl ?_
  refine r_iload_n X dX11_staysClosed_3 rfl ?_
  refine r_icmp_ge X dX11_staysClosed_4 (tgt := 37) (by decide) (fun q => ?_) (fun q => ?_)
  · have w := w.1 q
    refine r_iconst X dX11_staysClosed_37 (v := 1) (by decide) ?_
    exact r_zret X dX11_staysClosed_38 rfl (isB_n w.1) w.2 hk.1 hk.2
  · have w := w.2 q
    refine r_aload_n X dX11_staysClosed_7 rfl ?_
    obtain ⟨v1, ev1, w⟩ := w
    obtain ⟨fv1, cv1, qv1⟩ := gN_s ev1
    refine r_getf X dX11_staysClosed_8 fl_X11_56 cv1 qv1 ?_
    refine r_aload_n X dX11_staysClosed_11 rfl ?_
    obtain ⟨v2, ev2, w⟩ := w
    obtain ⟨fv2, cv2, qv2⟩ := gN_s ev2
    refine r_getf X dX11_staysClosed_12 fl_X11_32 cv2 qv2 ?_
    obtain ⟨fs2, es2, w⟩ := w
    obtain ⟨d2, P2, E2, m2, n2, ct2, w⟩ := w
    obtain ⟨⟨x1, x2, x3⟩, w⟩ := w
    obtain ⟨x4, w⟩ := w
    refine r_callV X (As := [.ref v2]) dX11_staysClosed_15 mk_X2_passDay ⟨ml_X11_268, im_X2_passDay, se_X2_passDay⟩ (oF_s es2) (ci_X2).1 rfl rfl rfl (by simp [Value.category]) ⟨x1, by show 60 * (d2 + 1) + 200 ≤ 60 * D + 200; omega⟩ ⟨x2, x3⟩ ct2 x4 (fun _ z => nomatch z) (fun _ => ⟨x2, x3⟩) (fun v h2 w1 => ?_)
    have w := w v h2 w1
    have hk : kc + m2 ≤ mc ∧ ks + n2 ≤ ms := ⟨x2, x3⟩
    obtain ⟨rfl, w⟩ := w
    refine r_aload_n X dX11_staysClosed_18 rfl ?_
    obtain ⟨v4, ev4, w⟩ := w
    obtain ⟨fv4, cv4, qv4⟩ := gN_s ev4
    refine r_getf X dX11_staysClosed_19 fl_X11_56 cv4 qv4 ?_
    refine r_iload_n X dX11_staysClosed_22 rfl ?_
    obtain ⟨fs4, es4, w⟩ := w
    obtain ⟨d4, P4, E4, m4, n4, ct4, w⟩ := w
    obtain ⟨⟨x1, x2, x3⟩, w⟩ := w
    obtain ⟨x4, w⟩ := w
    refine r_callV X (As := [.int l1]) dX11_staysClosed_23 mk_X2_isOpen ⟨ml_X11_195, im_X2_isOpen, se_X2_isOpen⟩ (oF_s es4) (ci_X2).1 rfl rfl rfl (by simp [Value.category]) ⟨x1, by show 60 * (d4 + 1) + 200 ≤ 60 * D + 200; omega⟩ ⟨x2, x3⟩ ct4 x4 (fun _ z => nomatch z) (fun _ => ⟨x2, x3⟩) (fun v h4 w1 => ?_)
    have w := w v h4 w1
    have hk : (kc + m2) + m4 ≤ mc ∧ (ks + n2) + n4 ≤ ms := ⟨x2, x3⟩
    obtain ⟨v6, rfl, w⟩ := w
    refine r_if_eq X dX11_staysClosed_26 (tgt := 31) (by decide) (fun q => ?_) (fun q => ?_)
    · have w := w.1 q
      refine r_iinc X dX11_staysClosed_31 rfl (v := (l3 + 1)) rfl (by decide) rfl ?_
      refine r_goto X dX11_staysClosed_34 (tgt := 2) (by decide) ?_
      refine VB_wk (ls' := [some (.ref l0), some (.int l1), some (.int l2), some (.int ((l3 + 1)))]) ?_ w
      exact (And.intro rfl (And.intro rfl (And.intro rfl (And.intro rfl trivial))))
    · have w := w.2 q
      refine r_iconst X dX11_staysClosed_29 (v := 0) (by decide) ?_
      exact r_zret X dX11_staysClosed_30 rfl (isB_n w.1) w.2 hk.1 hk.2

set_option maxRecDepth 10000 in
theorem b_X11_steady_0 {g : GG} {K : KX} {D mc ms : Nat} {Pr : Option Value → Hp → Prop} {Pt : String → Hp → Prop} {kc ks : Nat} (hg : GOK g) (hD : 8 ≤ D) (hk : kc ≤ mc ∧ ks ≤ ms) (X : CB g K cX11_steady 2 yX11_steady (some (.int)) []) (l0 : Nat) (h : Hp)
    (w : (∃ v1, gN h l0 10 11 = some v1 ∧ (∃ v2, gN h l0 10 8 = some v2 ∧ (∃ v3, gN h v2 3 0 = some v3 ∧ (∃ fs3, oF h v1 2 = some fs3 ∧ (∃ d3 P3 E3 m3 n3, CT g d3 yX2_copyFrom (wsC yX2_copyFrom cX2_copyFrom 2 none) [.ref v1, .ref v3] h m3 n3 P3 E3 ∧ (d3 + 1 ≤ D ∧ kc + m3 ≤ mc ∧ ks + n3 ≤ ms) ∧ (∀ E h', E3 E h' → Pt E h') ∧ (∀ v h3, P3 v h3 → v = none ∧ VB g K 2 D mc ms Pr Pt ((kc + m3)) ((ks + n3)) 16 [some (.ref l0), some (.int ((1 : Int32)))] [] h3))))))) : VB g K 2 D mc ms Pr Pt kc ks 0 [some (.ref l0), none] [] h := by
  obtain ⟨p, e, s, m, args, below, meth, c⟩ := K
  have X : CX g p s m args meth c cX11_steady 2 yX11_steady (some (.int)) [] := X
  have hz := hg s X.gk.z
  show VV g p e (rmm D mc ms) s m args below meth c 2 (QQ g below args s mc ms Pr Pt) kc ks 0 [some (.ref l0), none] [] h
  refine r_aload_n X dX11_steady_0 rfl ?_
  obtain ⟨v1, ev1, w⟩ := w
  obtain ⟨fv1, cv1, qv1⟩ := gN_s ev1
  refine r_getf X dX11_steady_1 fl_X11_56 cv1 qv1 ?_
  refine r_aload_n X dX11_steady_4 rfl ?_
  obtain ⟨v2, ev2, w⟩ := w
  obtain ⟨fv2, cv2, qv2⟩ := gN_s ev2
  refine r_getf X dX11_steady_5 fl_X11_42 cv2 qv2 ?_
  obtain ⟨v3, ev3, w⟩ := w
  obtain ⟨fv3, cv3, qv3⟩ := gN_s ev3
  refine r_getf X dX11_steady_8 fl_X11_84 cv3 qv3 ?_
  obtain ⟨fs3, es3, w⟩ := w
  obtain ⟨d3, P3, E3, m3, n3, ct3, w⟩ := w
  obtain ⟨⟨x1, x2, x3⟩, w⟩ := w
  obtain ⟨x4, w⟩ := w
  refine r_callV X (As := [.ref v3]) dX11_steady_11 mk_X2_copyFrom ⟨ml_X11_123, im_X2_copyFrom, se_X2_copyFrom⟩ (oF_s es3) (ci_X2).1 rfl rfl rfl (by simp [Value.category]) ⟨x1, by show 60 * (d3 + 1) + 200 ≤ 60 * D + 200; omega⟩ ⟨x2, x3⟩ ct3 x4 (fun _ z => nomatch z) (fun _ => ⟨x2, x3⟩) (fun v h3 w1 => ?_)
  have w := w v h3 w1
  have hk : kc + m3 ≤ mc ∧ ks + n3 ≤ ms := ⟨x2, x3⟩
  obtain ⟨rfl, w⟩ := w
  refine r_iconst X dX11_steady_14 (v := 1) (by decide) ?_
  refine r_istore_n X dX11_steady_15 (by decide) rfl ?_
  refine VB_wk (ls' := [some (.ref l0), some (.int ((1 : Int32)))]) ?_ w
  exact (And.intro rfl (And.intro rfl trivial))

set_option maxRecDepth 10000 in
theorem b_X11_steady_16 {g : GG} {K : KX} {D mc ms : Nat} {Pr : Option Value → Hp → Prop} {Pt : String → Hp → Prop} {kc ks : Nat} (hg : GOK g) (hD : 8 ≤ D) (hk : kc ≤ mc ∧ ks ≤ ms) (X : CB g K cX11_steady 2 yX11_steady (some (.int)) []) (l0 : Nat) (l1 : Int32) (h : Hp)
    (w : (((60 : Int32) < l1 → Pr (some (.int ((-1 : Int32)))) h) ∧ (¬ (60 : Int32) < l1 → (∃ v1, gN h l0 10 12 = some v1 ∧ (∃ v2, gN h l0 10 11 = some v2 ∧ (∃ fs2, oF h v1 2 = some fs2 ∧ (∃ d2 P2 E2 m2 n2, CT g d2 yX2_copyFrom (wsC yX2_copyFrom cX2_copyFrom 2 none) [.ref v1, .ref v2] h m2 n2 P2 E2 ∧ (d2 + 1 ≤ D ∧ kc + m2 ≤ mc ∧ ks + n2 ≤ ms) ∧ (∀ E h', E2 E h' → Pt E h') ∧ (∀ v h2, P2 v h2 → v = none ∧ (∃ v4, gN h2 l0 10 11 = some v4 ∧ (∃ v5, gN h2 l0 10 6 = some v5 ∧ (∃ fs5, oF h2 v4 2 = some fs5 ∧ (∃ d5 P5 E5 m5 n5, CT g d5 yX2_passDay (wsC yX2_passDay cX2_passDay 3 none) [.ref v4, .ref v5] h2 m5 n5 P5 E5 ∧ (d5 + 1 ≤ D ∧ (kc + m2) + m5 ≤ mc ∧ (ks + n2) + n5 ≤ ms) ∧ (∀ E h', E5 E h' → Pt E h') ∧ (∀ v h5, P5 v h5 → v = none ∧ (∃ v7, gN h5 l0 10 11 = some v7 ∧ (∃ v8, gN h5 l0 10 12 = some v8 ∧ (∃ v9, gN h5 l0 10 6 = some v9 ∧ (∃ fs9, oF h5 v7 2 = some fs9 ∧ (∃ d9 P9 E9 m9 n9, CT g d9 yX2_isLike (wsC yX2_isLike cX2_isLike 4 (some (.boolean))) [.ref v7, .ref v8, .ref v9] h5 m9 n9 P9 E9 ∧ (d9 + 1 ≤ D ∧ ((kc + m2) + m5) + m9 ≤ mc ∧ ((ks + n2) + n5) + n9 ≤ ms) ∧ (∀ E h', E9 E h' → Pt E h') ∧ (∀ v h9, P9 v h9 → ∃ v11, v = some (.int v11) ∧ ((v11 = 0 → VB g K 2 D mc ms Pr Pt ((((kc + m2) + m5) + m9)) ((((ks + n2) + n5) + n9)) 16 [some (.ref l0), some (.int ((l1 + 1)))] [] h9) ∧ (¬ v11 = 0 → Pr (some (.int l1)) h9))))))))))))))))))))) : VB g K 2 D mc ms Pr Pt kc ks 16 [some (.ref l0), some (.int l1)] [] h := by
  obtain ⟨p, e, s, m, args, below, meth, c⟩ := K
  have X : CX g p s m args meth c cX11_steady 2 yX11_steady (some (.int)) [] := X
  have hz := hg s X.gk.z
  show VV g p e (rmm D mc ms) s m args below meth c 2 (QQ g below args s mc ms Pr Pt) kc ks 16 [some (.ref l0), some (.int l1)] [] h
  refine r_iload_n X dX11_steady_16 rfl ?_
  refine r_bipush X dX11_steady_17 (v := 60) (by decide) ?_
  refine r_icmp_gt X dX11_steady_19 (tgt := 70) (by decide) (fun q => ?_) (fun q => ?_)
  · have w := w.1 q
    refine r_iconst X dX11_steady_70 (v := -1) (by decide) ?_
    exact r_iret X dX11_steady_71 rfl w hk.1 hk.2
  · have w := w.2 q
    refine r_aload_n X dX11_steady_22 rfl ?_
    obtain ⟨v1, ev1, w⟩ := w
    obtain ⟨fv1, cv1, qv1⟩ := gN_s ev1
    refine r_getf X dX11_steady_23 fl_X11_60 cv1 qv1 ?_
    refine r_aload_n X dX11_steady_26 rfl ?_
    obtain ⟨v2, ev2, w⟩ := w
    obtain ⟨fv2, cv2, qv2⟩ := gN_s ev2
    refine r_getf X dX11_steady_27 fl_X11_56 cv2 qv2 ?_
    obtain ⟨fs2, es2, w⟩ := w
    obtain ⟨d2, P2, E2, m2, n2, ct2, w⟩ := w
    obtain ⟨⟨x1, x2, x3⟩, w⟩ := w
    obtain ⟨x4, w⟩ := w
    refine r_callV X (As := [.ref v2]) dX11_steady_30 mk_X2_copyFrom ⟨ml_X11_123, im_X2_copyFrom, se_X2_copyFrom⟩ (oF_s es2) (ci_X2).1 rfl rfl rfl (by simp [Value.category]) ⟨x1, by show 60 * (d2 + 1) + 200 ≤ 60 * D + 200; omega⟩ ⟨x2, x3⟩ ct2 x4 (fun _ z => nomatch z) (fun _ => ⟨x2, x3⟩) (fun v h2 w1 => ?_)
    have w := w v h2 w1
    have hk : kc + m2 ≤ mc ∧ ks + n2 ≤ ms := ⟨x2, x3⟩
    obtain ⟨rfl, w⟩ := w
    refine r_aload_n X dX11_steady_33 rfl ?_
    obtain ⟨v4, ev4, w⟩ := w
    obtain ⟨fv4, cv4, qv4⟩ := gN_s ev4
    refine r_getf X dX11_steady_34 fl_X11_56 cv4 qv4 ?_
    refine r_aload_n X dX11_steady_37 rfl ?_
    obtain ⟨v5, ev5, w⟩ := w
    obtain ⟨fv5, cv5, qv5⟩ := gN_s ev5
    refine r_getf X dX11_steady_38 fl_X11_32 cv5 qv5 ?_
    obtain ⟨fs5, es5, w⟩ := w
    obtain ⟨d5, P5, E5, m5, n5, ct5, w⟩ := w
    obtain ⟨⟨x1, x2, x3⟩, w⟩ := w
    obtain ⟨x4, w⟩ := w
    refine r_callV X (As := [.ref v5]) dX11_steady_41 mk_X2_passDay ⟨ml_X11_268, im_X2_passDay, se_X2_passDay⟩ (oF_s es5) (ci_X2).1 rfl rfl rfl (by simp [Value.category]) ⟨x1, by show 60 * (d5 + 1) + 200 ≤ 60 * D + 200; omega⟩ ⟨x2, x3⟩ ct5 x4 (fun _ z => nomatch z) (fun _ => ⟨x2, x3⟩) (fun v h5 w1 => ?_)
    have w := w v h5 w1
    have hk : (kc + m2) + m5 ≤ mc ∧ (ks + n2) + n5 ≤ ms := ⟨x2, x3⟩
    obtain ⟨rfl, w⟩ := w
    refine r_aload_n X dX11_steady_44 rfl ?_
    obtain ⟨v7, ev7, w⟩ := w
    obtain ⟨fv7, cv7, qv7⟩ := gN_s ev7
    refine r_getf X dX11_steady_45 fl_X11_56 cv7 qv7 ?_
    refine r_aload_n X dX11_steady_48 rfl ?_
    obtain ⟨v8, ev8, w⟩ := w
    obtain ⟨fv8, cv8, qv8⟩ := gN_s ev8
    refine r_getf X dX11_steady_49 fl_X11_60 cv8 qv8 ?_
    refine r_aload_n X dX11_steady_52 rfl ?_
    obtain ⟨v9, ev9, w⟩ := w
    obtain ⟨fv9, cv9, qv9⟩ := gN_s ev9
    refine r_getf X dX11_steady_53 fl_X11_32 cv9 qv9 ?_
    obtain ⟨fs9, es9, w⟩ := w
    obtain ⟨d9, P9, E9, m9, n9, ct9, w⟩ := w
    obtain ⟨⟨x1, x2, x3⟩, w⟩ := w
    obtain ⟨x4, w⟩ := w
    refine r_callV X (As := [.ref v8, .ref v9]) dX11_steady_56 mk_X2_isLike ⟨ml_X11_275, im_X2_isLike, se_X2_isLike⟩ (oF_s es9) (ci_X2).1 rfl rfl rfl (by simp [Value.category]) ⟨x1, by show 60 * (d9 + 1) + 200 ≤ 60 * D + 200; omega⟩ ⟨x2, x3⟩ ct9 x4 (fun _ z => nomatch z) (fun _ => ⟨x2, x3⟩) (fun v h9 w1 => ?_)
    have w := w v h9 w1
    have hk : ((kc + m2) + m5) + m9 ≤ mc ∧ ((ks + n2) + n5) + n9 ≤ ms := ⟨x2, x3⟩
    obtain ⟨v11, rfl, w⟩ := w
    refine r_if_eq X dX11_steady_59 (tgt := 64) (by decide) (fun q => ?_) (fun q => ?_)
    · have w := w.1 q
      refine r_iinc X dX11_steady_64 rfl (v := (l1 + 1)) rfl (by decide) rfl ?_
      refine r_goto X dX11_steady_67 (tgt := 16) (by decide) ?_
      refine VB_wk (ls' := [some (.ref l0), some (.int ((l1 + 1)))]) ?_ w
      exact (And.intro rfl (And.intro rfl trivial))
    · have w := w.2 q
      refine r_iload_n X dX11_steady_62 rfl ?_
      exact r_iret X dX11_steady_63 rfl w hk.1 hk.2

set_option maxRecDepth 10000 in
theorem b_X11_stitch_0 {g : GG} {K : KX} {D mc ms : Nat} {Pr : Option Value → Hp → Prop} {Pt : String → Hp → Prop} {kc ks : Nat} (hg : GOK g) (hD : 8 ≤ D) (hk : kc ≤ mc ∧ ks ≤ ms) (X : CB g K cX11_stitch 4 yX11_stitch (some (.int)) []) (l0 : Nat) (l1 : Int32) (l2 : Int32) (h : Hp)
    (w : (∃ fs0, oF h l0 10 = some fs0 ∧ (∃ d0 P0 E0 m0 n0, CT g d0 yX11_needStretch (wsC yX11_needStretch cX11_needStretch 2 none) [.ref l0, .int l1] h m0 n0 P0 E0 ∧ (d0 + 1 ≤ D ∧ kc + m0 ≤ mc ∧ ks + n0 ≤ ms) ∧ (∀ E h', E0 E h' → Pt E h') ∧ (∀ v h0, P0 v h0 → v = none ∧ (∃ v2, gN h0 l0 10 8 = some v2 ∧ (∃ v3, gN h0 v2 3 0 = some v3 ∧ (∃ v4, gN h0 v3 2 3 = some v4 ∧ (∃ v5, aI h0 0 v4 l1 = some v5 ∧ ((l2 < 0 → VB g K 4 D mc ms Pr Pt ((kc + m0)) ((ks + n0)) 32 [some (.ref l0), none, none, none] [] h0) ∧ (¬ l2 < 0 → (((2 : Int32) < l2 → VB g K 4 D mc ms Pr Pt ((kc + m0)) ((ks + n0)) 32 [some (.ref l0), none, none, none] [] h0) ∧ (¬ (2 : Int32) < l2 → ((¬ l2 = v5 → (∃ v6, gN h0 l0 10 8 = some v6 ∧ (∃ v7, gN h0 v6 3 1 = some v7 ∧ (∃ v8, gN h0 l0 10 8 = some v8 ∧ (∃ v9, gN h0 v8 3 0 = some v9 ∧ (∃ fs9, oF h0 v7 4 = some fs9 ∧ (∃ d9 P9 E9 m9 n9, CT g d9 yX4_keep (wsC yX4_keep cX4_keep 2 none) [.ref v7, .ref v9] h0 m9 n9 P9 E9 ∧ (d9 + 1 ≤ D ∧ (kc + m0) + m9 ≤ mc ∧ (ks + n0) + n9 ≤ ms) ∧ (∀ E h', E9 E h' → Pt E h') ∧ (∀ v h9, P9 v h9 → v = none ∧ (∃ v11, gN h9 l0 10 8 = some v11 ∧ (∃ v12, gN h9 v11 3 0 = some v12 ∧ (∃ v13, gN h9 v12 2 3 = some v13 ∧ (∃ h14, uI h9 0 v13 l1 l2 = some h14 ∧ Pr (some (.int v5)) h14)))))))))))) ∧ (l2 = v5 → VB g K 4 D mc ms Pr Pt ((kc + m0)) ((ks + n0)) 32 [some (.ref l0), none, none, none] [] h0)))))))))))))) : VB g K 4 D mc ms Pr Pt kc ks 0 [some (.ref l0), some (.int l1), some (.int l2), none] [] h := by
  obtain ⟨p, e, s, m, args, below, meth, c⟩ := K
  have X : CX g p s m args meth c cX11_stitch 4 yX11_stitch (some (.int)) [] := X
  have hz := hg s X.gk.z
  show VV g p e (rmm D mc ms) s m args below meth c 4 (QQ g below args s mc ms Pr Pt) kc ks 0 [some (.ref l0), some (.int l1), some (.int l2), none] [] h
  refine r_aload_n X dX11_stitch_0 rfl ?_
  refine r_iload_n X dX11_stitch_1 rfl ?_
  obtain ⟨fs0, es0, w⟩ := w
  obtain ⟨d0, P0, E0, m0, n0, ct0, w⟩ := w
  obtain ⟨⟨x1, x2, x3⟩, w⟩ := w
  obtain ⟨x4, w⟩ := w
  refine r_callV X (As := [.int l1]) dX11_stitch_2 mk_X11_needStretch ⟨ml_X11_179, im_X11_needStretch, se_X11_needStretch⟩ (oF_s es0) (ci_X11).1 rfl rfl rfl (by simp [Value.category]) ⟨x1, by show 60 * (d0 + 1) + 200 ≤ 60 * D + 200; omega⟩ ⟨x2, x3⟩ ct0 x4 (fun _ z => nomatch z) (fun _ => ⟨x2, x3⟩) (fun v h0 w1 => ?_)
  have w := w v h0 w1
  have hk : kc + m0 ≤ mc ∧ ks + n0 ≤ ms := ⟨x2, x3⟩
  obtain ⟨rfl, w⟩ := w
  refine r_aload_n X dX11_stitch_5 rfl ?_
  obtain ⟨v2, ev2, w⟩ := w
  obtain ⟨fv2, cv2, qv2⟩ := gN_s ev2
  refine r_getf X dX11_stitch_6 fl_X11_42 cv2 qv2 ?_
  obtain ⟨v3, ev3, w⟩ := w
  obtain ⟨fv3, cv3, qv3⟩ := gN_s ev3
  refine r_getf X dX11_stitch_9 fl_X11_84 cv3 qv3 ?_
  obtain ⟨v4, ev4, w⟩ := w
  obtain ⟨fv4, cv4, qv4⟩ := gN_s ev4
  refine r_getf X dX11_stitch_12 fl_X11_188 cv4 qv4 ?_
  refine r_iload_n X dX11_stitch_15 rfl ?_
  obtain ⟨v5, ev5, w⟩ := w
  obtain ⟨nv5, fv5, cv5, iv5, qv5⟩ := aI_s ev5
  refine r_iald X dX11_stitch_16 cv5 iv5 ?_
  rw [qv5]
  refine r_istore_n X dX11_stitch_17 (by decide) rfl ?_
  refine r_iload_n X dX11_stitch_18 rfl ?_
  refine r_if_lt X dX11_stitch_19 (tgt := 32) (by decide) (fun q => ?_) (fun q => ?_)
  · have w := w.1 q
    refine VB_wk (ls' := [some (.ref l0), none, none, none]) ?_ w
    exact (And.intro rfl trivial)
  · have w := w.2 q
    refine r_iload_n X dX11_stitch_22 rfl ?_
    refine r_iconst X dX11_stitch_23 (v := 2) (by decide) ?_
    refine r_icmp_gt X dX11_stitch_24 (tgt := 32) (by decide) (fun q => ?_) (fun q => ?_)
    · have w := w.1 q
      refine VB_wk (ls' := [some (.ref l0), none, none, none]) ?_ w
      exact (And.intro rfl trivial)
    · have w := w.2 q
      refine r_iload_n X dX11_stitch_27 rfl ?_
      refine r_iload_n X dX11_stitch_28 rfl ?_
      refine r_icmp_ne X dX11_stitch_29 (tgt := 37) (by decide) (fun q => ?_) (fun q => ?_)
      · have w := w.1 q
        refine r_aload_n X dX11_stitch_37 rfl ?_
        obtain ⟨v6, ev6, w⟩ := w
        obtain ⟨fv6, cv6, qv6⟩ := gN_s ev6
        refine r_getf X dX11_stitch_38 fl_X11_42 cv6 qv6 ?_
        obtain ⟨v7, ev7, w⟩ := w
        obtain ⟨fv7, cv7, qv7⟩ := gN_s ev7
        refine r_getf X dX11_stitch_41 fl_X11_127 cv7 qv7 ?_
        refine r_aload_n X dX11_stitch_44 rfl ?_
        obtain ⟨v8, ev8, w⟩ := w
        obtain ⟨fv8, cv8, qv8⟩ := gN_s ev8
        refine r_getf X dX11_stitch_45 fl_X11_42 cv8 qv8 ?_
        obtain ⟨v9, ev9, w⟩ := w
        obtain ⟨fv9, cv9, qv9⟩ := gN_s ev9
        refine r_getf X dX11_stitch_48 fl_X11_84 cv9 qv9 ?_
        obtain ⟨fs9, es9, w⟩ := w
        obtain ⟨d9, P9, E9, m9, n9, ct9, w⟩ := w
        obtain ⟨⟨x1, x2, x3⟩, w⟩ := w
        obtain ⟨x4, w⟩ := w
        refine r_callV X (As := [.ref v9]) dX11_stitch_51 mk_X4_keep ⟨ml_X11_225, im_X4_keep, se_X4_keep⟩ (oF_s es9) (ci_X4).1 rfl rfl rfl (by simp [Value.category]) ⟨x1, by show 60 * (d9 + 1) + 200 ≤ 60 * D + 200; omega⟩ ⟨x2, x3⟩ ct9 x4 (fun _ z => nomatch z) (fun _ => ⟨x2, x3⟩) (fun v h9 w1 => ?_)
        have w := w v h9 w1
        have hk : (kc + m0) + m9 ≤ mc ∧ (ks + n0) + n9 ≤ ms := ⟨x2, x3⟩
        obtain ⟨rfl, w⟩ := w
        refine r_aload_n X dX11_stitch_54 rfl ?_
        obtain ⟨v11, ev11, w⟩ := w
        obtain ⟨fv11, cv11, qv11⟩ := gN_s ev11
        refine r_getf X dX11_stitch_55 fl_X11_42 cv11 qv11 ?_
        obtain ⟨v12, ev12, w⟩ := w
        obtain ⟨fv12, cv12, qv12⟩ := gN_s ev12
        refine r_getf X dX11_stitch_58 fl_X11_84 cv12 qv12 ?_
        obtain ⟨v13, ev13, w⟩ := w
        obtain ⟨fv13, cv13, qv13⟩ := gN_s ev13
        refine r_getf X dX11_stitch_61 fl_X11_188 cv13 qv13 ?_
        refine r_iload_n X dX11_stitch_64 rfl ?_
        refine r_iload_n X dX11_stitch_65 rfl ?_
        obtain ⟨h14, eh14, w⟩ := w
        obtain ⟨nh14, fh14, ch14, ih14, rh14⟩ := uI_s eh14
        subst rh14
        refine r_iast X dX11_stitch_66 ch14 ih14 ?_
        refine r_iload_n X dX11_stitch_67 rfl ?_
        exact r_iret X dX11_stitch_68 rfl w hk.1 hk.2
      · have w := w.2 q
        refine VB_wk (ls' := [some (.ref l0), none, none, none]) ?_ w
        exact (And.intro rfl trivial)

set_option maxRecDepth 10000 in
theorem b_X11_stitch_32 {g : GG} {K : KX} {D mc ms : Nat} {Pr : Option Value → Hp → Prop} {Pt : String → Hp → Prop} {kc ks : Nat} (hg : GOK g) (hD : 8 ≤ D) (hk : kc ≤ mc ∧ ks ≤ ms) (X : CB g K cX11_stitch 4 yX11_stitch (some (.int)) []) (l0 : Nat) (h : Hp)
    (w : (∃ fs0, oF h l0 10 = some fs0 ∧ (∃ d0 P0 E0 m0 n0, CT g d0 yX11_refuseAct (wsC yX11_refuseAct cX11_refuseAct 1 (some (.int))) [.ref l0] h m0 n0 P0 E0 ∧ (d0 + 1 ≤ D ∧ kc + m0 ≤ mc ∧ ks + n0 ≤ ms) ∧ (∀ E h', E0 E h' → Pt E h') ∧ (∀ v h0, P0 v h0 → ∃ v2, v = some (.int v2) ∧ Pr (some (.int v2)) h0)))) : VB g K 4 D mc ms Pr Pt kc ks 32 [some (.ref l0), none, none, none] [] h := by
  obtain ⟨p, e, s, m, args, below, meth, c⟩ := K
  have X : CX g p s m args meth c cX11_stitch 4 yX11_stitch (some (.int)) [] := X
  have hz := hg s X.gk.z
  show VV g p e (rmm D mc ms) s m args below meth c 4 (QQ g below args s mc ms Pr Pt) kc ks 32 [some (.ref l0), none, none, none] [] h
  refine r_aload_n X dX11_stitch_32 rfl ?_
  obtain ⟨fs0, es0, w⟩ := w
  obtain ⟨d0, P0, E0, m0, n0, ct0, w⟩ := w
  obtain ⟨⟨x1, x2, x3⟩, w⟩ := w
  obtain ⟨x4, w⟩ := w
  refine r_callV X (As := []) dX11_stitch_33 mk_X11_refuseAct ⟨ml_X11_221, im_X11_refuseAct, se_X11_refuseAct⟩ (oF_s es0) (ci_X11).1 rfl rfl rfl (by simp [Value.category]) ⟨x1, by show 60 * (d0 + 1) + 200 ≤ 60 * D + 200; omega⟩ ⟨x2, x3⟩ ct0 x4 (fun _ z => nomatch z) (fun _ => ⟨x2, x3⟩) (fun v h0 w1 => ?_)
  have w := w v h0 w1
  have hk : kc + m0 ≤ mc ∧ ks + n0 ≤ ms := ⟨x2, x3⟩
  obtain ⟨v2, rfl, w⟩ := w
  exact r_iret X dX11_stitch_36 rfl w hk.1 hk.2

set_option maxRecDepth 10000 in
theorem b_X11_strainFrom_0 {g : GG} {K : KX} {D mc ms : Nat} {Pr : Option Value → Hp → Prop} {Pt : String → Hp → Prop} {kc ks : Nat} (hg : GOK g) (hD : 8 ≤ D) (hk : kc ≤ mc ∧ ks ≤ ms) (X : CB g K cX11_strainFrom 6 yX11_strainFrom (some (.int)) []) (l0 : Nat) (l1 : Int32) (l2 : Int32) (h : Hp)
    (w : VB g K 6 D mc ms Pr Pt kc ks 8 [some (.ref l0), none, some (.int l2), some (.int ((0 : Int32))), some (.int l1), some (.int ((0 : Int32)))] [] h) : VB g K 6 D mc ms Pr Pt kc ks 0 [some (.ref l0), some (.int l1), some (.int l2), none, none, none] [] h := by
  obtain ⟨p, e, s, m, args, below, meth, c⟩ := K
  have X : CX g p s m args meth c cX11_strainFrom 6 yX11_strainFrom (some (.int)) [] := X
  have hz := hg s X.gk.z
  show VV g p e (rmm D mc ms) s m args below meth c 6 (QQ g below args s mc ms Pr Pt) kc ks 0 [some (.ref l0), some (.int l1), some (.int l2), none, none, none] [] h
  refine r_iconst X dX11_strainFrom_0 (v := 0) (by decide) ?_
  refine r_istore_n X dX11_strainFrom_1 (by decide) rfl ?_
  refine r_iload_n X dX11_strainFrom_2 rfl ?_
  refine r_istore X dX11_strainFrom_3 (by decide) rfl ?_
  refine r_iconst X dX11_strainFrom_5 (v := 0) (by decide) ?_
  refine r_istore X dX11_strainFrom_6 (by decide) rfl ?_
  refine VB_wk (ls' := [some (.ref l0), none, some (.int l2), some (.int ((0 : Int32))), some (.int l1), some (.int ((0 : Int32)))]) ?_ w
  exact (And.intro rfl (And.intro rfl (And.intro rfl (And.intro rfl (And.intro rfl trivial)))))

set_option maxRecDepth 10000 in
theorem b_X11_strainFrom_8 {g : GG} {K : KX} {D mc ms : Nat} {Pr : Option Value → Hp → Prop} {Pt : String → Hp → Prop} {kc ks : Nat} (hg : GOK g) (hD : 8 ≤ D) (hk : kc ≤ mc ∧ ks ≤ ms) (X : CB g K cX11_strainFrom 6 yX11_strainFrom (some (.int)) []) (l0 : Nat) (l2 : Int32) (l3 : Int32) (l4 : Int32) (l5 : Int32) (h : Hp)
    (w : ((l2 ≤ l5 → Pr (some (.int l3)) h) ∧ (¬ l2 ≤ l5 → (∃ v1, gN h l0 10 8 = some v1 ∧ (∃ v2, gN h v1 3 0 = some v2 ∧ (∃ v3, gN h v2 2 1 = some v3 ∧ (∃ v4, aI h 0 v3 l4 = some v4 ∧ (∃ v5, gN h l0 10 6 = some v5 ∧ (∃ fs5, oF h v5 9 = some fs5 ∧ (∃ d5 P5 E5 m5 n5, CT g d5 yX9_after (wsC yX9_after cX9_after 2 (some (.int))) [.ref v5, .int l4] h m5 n5 P5 E5 ∧ (d5 + 1 ≤ D ∧ kc + m5 ≤ mc ∧ ks + n5 ≤ ms) ∧ (∀ E h', E5 E h' → Pt E h') ∧ (∀ v h5, P5 v h5 → ∃ v7, v = some (.int v7) ∧ VB g K 6 D mc ms Pr Pt ((kc + m5)) ((ks + n5)) 8 [some (.ref l0), none, some (.int l2), some (.int ((l3 + v4))), some (.int v7), some (.int ((l5 + 1)))] [] h5))))))))))) : VB g K 6 D mc ms Pr Pt kc ks 8 [some (.ref l0), none, some (.int l2), some (.int l3), some (.int l4), some (.int l5)] [] h := by
  obtain ⟨p, e, s, m, args, below, meth, c⟩ := K
  have X : CX g p s m args meth c cX11_strainFrom 6 yX11_strainFrom (some (.int)) [] := X
  have hz := hg s X.gk.z
  show VV g p e (rmm D mc ms) s m args below meth c 6 (QQ g below args s mc ms Pr Pt) kc ks 8 [some (.ref l0), none, some (.int l2), some (.int l3), some (.int l4), some (.int l5)] [] h
  refine r_iload X dX11_strainFrom_8 rfl ?_
  refine r_iload_n X dX11_strainFrom_10 rfl ?_
  refine r_icmp_ge X dX11_strainFrom_11 (tgt := 47) (by decide) (fun q => ?_) (fun q => ?_)
  · have w := w.1 q
    refine r_iload_n X dX11_strainFrom_47 rfl ?_
    exact r_iret X dX11_strainFrom_48 rfl w hk.1 hk.2
  · have w := w.2 q
    refine r_iload_n X dX11_strainFrom_14 rfl ?_
    refine r_aload_n X dX11_strainFrom_15 rfl ?_
    obtain ⟨v1, ev1, w⟩ := w
    obtain ⟨fv1, cv1, qv1⟩ := gN_s ev1
    refine r_getf X dX11_strainFrom_16 fl_X11_42 cv1 qv1 ?_
    obtain ⟨v2, ev2, w⟩ := w
    obtain ⟨fv2, cv2, qv2⟩ := gN_s ev2
    refine r_getf X dX11_strainFrom_19 fl_X11_84 cv2 qv2 ?_
    obtain ⟨v3, ev3, w⟩ := w
    obtain ⟨fv3, cv3, qv3⟩ := gN_s ev3
    refine r_getf X dX11_strainFrom_22 fl_X11_182 cv3 qv3 ?_
    refine r_iload X dX11_strainFrom_25 rfl ?_
    obtain ⟨v4, ev4, w⟩ := w
    obtain ⟨nv4, fv4, cv4, iv4, qv4⟩ := aI_s ev4
    refine r_iald X dX11_strainFrom_27 cv4 iv4 ?_
    rw [qv4]
    refine r_iadd X dX11_strainFrom_28 ?_
    refine r_istore_n X dX11_strainFrom_29 (by decide) rfl ?_
    refine r_aload_n X dX11_strainFrom_30 rfl ?_
    obtain ⟨v5, ev5, w⟩ := w
    obtain ⟨fv5, cv5, qv5⟩ := gN_s ev5
    refine r_getf X dX11_strainFrom_31 fl_X11_32 cv5 qv5 ?_
    refine r_iload X dX11_strainFrom_34 rfl ?_
    obtain ⟨fs5, es5, w⟩ := w
    obtain ⟨d5, P5, E5, m5, n5, ct5, w⟩ := w
    obtain ⟨⟨x1, x2, x3⟩, w⟩ := w
    obtain ⟨x4, w⟩ := w
    refine r_callV X (As := [.int l4]) dX11_strainFrom_36 mk_X9_after ⟨ml_X11_314, im_X9_after, se_X9_after⟩ (oF_s es5) (ci_X9).1 rfl rfl rfl (by simp [Value.category]) ⟨x1, by show 60 * (d5 + 1) + 200 ≤ 60 * D + 200; omega⟩ ⟨x2, x3⟩ ct5 x4 (fun _ z => nomatch z) (fun _ => ⟨x2, x3⟩) (fun v h5 w1 => ?_)
    have w := w v h5 w1
    have hk : kc + m5 ≤ mc ∧ ks + n5 ≤ ms := ⟨x2, x3⟩
    obtain ⟨v7, rfl, w⟩ := w
    refine r_istore X dX11_strainFrom_39 (by decide) rfl ?_
    refine r_iinc X dX11_strainFrom_41 rfl (v := (l5 + 1)) rfl (by decide) rfl ?_
    refine r_goto X dX11_strainFrom_44 (tgt := 8) (by decide) ?_
    refine VB_wk (ls' := [some (.ref l0), none, some (.int l2), some (.int ((l3 + v4))), some (.int v7), some (.int ((l5 + 1)))]) ?_ w
    exact (And.intro rfl (And.intro rfl (And.intro rfl (And.intro rfl (And.intro rfl trivial)))))

set_option maxRecDepth 10000 in
theorem b_X11_stretch_0 {g : GG} {K : KX} {D mc ms : Nat} {Pr : Option Value → Hp → Prop} {Pt : String → Hp → Prop} {kc ks : Nat} (hg : GOK g) (hD : 8 ≤ D) (hk : kc ≤ mc ∧ ks ≤ ms) (X : CB g K cX11_stretch 3 yX11_stretch (some (.int)) []) (l0 : Nat) (l1 : Int32) (l2 : Int32) (h : Hp)
    (w : (∃ fs0, oF h l0 10 = some fs0 ∧ (∃ d0 P0 E0 m0 n0, CT g d0 yX11_needStretch (wsC yX11_needStretch cX11_needStretch 2 none) [.ref l0, .int l1] h m0 n0 P0 E0 ∧ (d0 + 1 ≤ D ∧ kc + m0 ≤ mc ∧ ks + n0 ≤ ms) ∧ (∀ E h', E0 E h' → Pt E h') ∧ (∀ v h0, P0 v h0 → v = none ∧ ((((l2).toInt < 0 ∨ 5 < (l2).toInt) → (((kc + m0) + 1 ≤ mc ∧ (ks + n0) + 6 ≤ ms) ∧ Pt "java/util/NoSuchElementException" (h0 ++ [dead]))) ∧ (((l2).toInt = 0 → (∃ v3, gN h0 l0 10 8 = some v3 ∧ (∃ v4, gN h0 v3 3 0 = some v4 ∧ (∃ v5, gN h0 v4 2 1 = some v5 ∧ (∃ v6, aI h0 0 v5 l1 = some v6 ∧ Pr (some (.int v6)) h0))))) ∧ (((l2).toInt = 1 → (∃ v7, gN h0 l0 10 8 = some v7 ∧ (∃ v8, gN h0 v7 3 0 = some v8 ∧ (∃ v9, gN h0 v8 2 2 = some v9 ∧ (∃ v10, aI h0 0 v9 l1 = some v10 ∧ Pr (some (.int v10)) h0))))) ∧ (((l2).toInt = 2 → (∃ v11, gN h0 l0 10 8 = some v11 ∧ (∃ v12, gN h0 v11 3 0 = some v12 ∧ (∃ v13, gN h0 v12 2 3 = some v13 ∧ (∃ v14, aI h0 0 v13 l1 = some v14 ∧ Pr (some (.int v14)) h0))))) ∧ (((l2).toInt = 3 → (∃ v15, gN h0 l0 10 8 = some v15 ∧ (∃ v16, gN h0 v15 3 0 = some v16 ∧ (∃ v17, gN h0 l0 10 6 = some v17 ∧ (∃ fs17, oF h0 v16 2 = some fs17 ∧ (∃ d17 P17 E17 m17 n17, CT g d17 yX2_womenBits (wsC yX2_womenBits cX2_womenBits 5 (some (.int))) [.ref v16, .ref v17, .int l1] h0 m17 n17 P17 E17 ∧ (d17 + 1 ≤ D ∧ (kc + m0) + m17 ≤ mc ∧ (ks + n0) + n17 ≤ ms) ∧ (∀ E h', E17 E h' → Pt E h') ∧ (∀ v h17, P17 v h17 → ∃ v19, v = some (.int v19) ∧ Pr (some (.int v19)) h17))))))) ∧ (((l2).toInt = 4 → (∃ v20, gN h0 l0 10 8 = some v20 ∧ (∃ v21, gN h0 v20 3 0 = some v21 ∧ (∃ fs21, oF h0 v21 2 = some fs21 ∧ (∃ d21 P21 E21 m21 n21, CT g d21 yX2_isOpen (wsC yX2_isOpen cX2_isOpen 2 (some (.boolean))) [.ref v21, .int l1] h0 m21 n21 P21 E21 ∧ (d21 + 1 ≤ D ∧ (kc + m0) + m21 ≤ mc ∧ (ks + n0) + n21 ≤ ms) ∧ (∀ E h', E21 E h' → Pt E h') ∧ (∀ v h21, P21 v h21 → ∃ v23, v = some (.int v23) ∧ ((v23 = 0 → (∃ v24, gN h21 l0 10 8 = some v24 ∧ (∃ v25, gN h21 v24 3 0 = some v25 ∧ (∃ v26, gN h21 l0 10 6 = some v26 ∧ (∃ fs26, oF h21 v25 2 = some fs26 ∧ (∃ d26 P26 E26 m26 n26, CT g d26 yX2_fraysBy (wsC yX2_fraysBy cX2_fraysBy 4 (some (.int))) [.ref v25, .ref v26, .int l1] h21 m26 n26 P26 E26 ∧ (d26 + 1 ≤ D ∧ ((kc + m0) + m21) + m26 ≤ mc ∧ ((ks + n0) + n21) + n26 ≤ ms) ∧ (∀ E h', E26 E h' → Pt E h') ∧ (∀ v h26, P26 v h26 → ∃ v28, v = some (.int v28) ∧ Pr (some (.int v28)) h26))))))) ∧ (¬ v23 = 0 → Pr (some (.int ((0 : Int32)))) h21)))))))) ∧ ((l2).toInt = 5 → (∃ v29, gN h0 l0 10 8 = some v29 ∧ (∃ v30, gN h0 v29 3 0 = some v30 ∧ (∃ fs30, oF h0 v30 2 = some fs30 ∧ (∃ d30 P30 E30 m30 n30, CT g d30 yX2_isOpen (wsC yX2_isOpen cX2_isOpen 2 (some (.boolean))) [.ref v30, .int l1] h0 m30 n30 P30 E30 ∧ (d30 + 1 ≤ D ∧ (kc + m0) + m30 ≤ mc ∧ (ks + n0) + n30 ≤ ms) ∧ (∀ E h', E30 E h' → Pt E h') ∧ (∀ v h30, P30 v h30 → ∃ v32, v = some (.int v32) ∧ ((v32 = 0 → (∃ v33, gN h30 l0 10 8 = some v33 ∧ (∃ v34, gN h30 v33 3 0 = some v34 ∧ (∃ v35, gN h30 l0 10 6 = some v35 ∧ (∃ fs35, oF h30 v34 2 = some fs35 ∧ (∃ d35 P35 E35 m35 n35, CT g d35 yX2_pullsBy (wsC yX2_pullsBy cX2_pullsBy 4 (some (.int))) [.ref v34, .ref v35, .int l1] h30 m35 n35 P35 E35 ∧ (d35 + 1 ≤ D ∧ ((kc + m0) + m30) + m35 ≤ mc ∧ ((ks + n0) + n30) + n35 ≤ ms) ∧ (∀ E h', E35 E h' → Pt E h') ∧ (∀ v h35, P35 v h35 → ∃ v37, v = some (.int v37) ∧ Pr (some (.int v37)) h35))))))) ∧ (¬ v32 = 0 → Pr (some (.int ((0 : Int32)))) h30)))))))))))))))))) : VB g K 3 D mc ms Pr Pt kc ks 0 [some (.ref l0), some (.int l1), some (.int l2)] [] h := by
  obtain ⟨p, e, s, m, args, below, meth, c⟩ := K
  have X : CX g p s m args meth c cX11_stretch 3 yX11_stretch (some (.int)) [] := X
  have hz := hg s X.gk.z
  show VV g p e (rmm D mc ms) s m args below meth c 3 (QQ g below args s mc ms Pr Pt) kc ks 0 [some (.ref l0), some (.int l1), some (.int l2)] [] h
  refine r_aload_n X dX11_stretch_0 rfl ?_
  refine r_iload_n X dX11_stretch_1 rfl ?_
  obtain ⟨fs0, es0, w⟩ := w
  obtain ⟨d0, P0, E0, m0, n0, ct0, w⟩ := w
  obtain ⟨⟨x1, x2, x3⟩, w⟩ := w
  obtain ⟨x4, w⟩ := w
  refine r_callV X (As := [.int l1]) dX11_stretch_2 mk_X11_needStretch ⟨ml_X11_179, im_X11_needStretch, se_X11_needStretch⟩ (oF_s es0) (ci_X11).1 rfl rfl rfl (by simp [Value.category]) ⟨x1, by show 60 * (d0 + 1) + 200 ≤ 60 * D + 200; omega⟩ ⟨x2, x3⟩ ct0 x4 (fun _ z => nomatch z) (fun _ => ⟨x2, x3⟩) (fun v h0 w1 => ?_)
  have w := w v h0 w1
  have hk : kc + m0 ≤ mc ∧ ks + n0 ≤ ms := ⟨x2, x3⟩
  obtain ⟨rfl, w⟩ := w
  refine r_iload_n X dX11_stretch_5 rfl ?_
  refine r_table X dX11_stretch_6 (tgt := 167) (fun k => [44, 57, 70, 83, 99, 133].getD k 0) (fun _ => by decide) (fun k y1 y2 y3 => ?_) (fun q => ?_) (fun k y1 y2 y3 => ?_)
  · rcases (by omega : k = 0 ∨ k = 1 ∨ k = 2 ∨ k = 3 ∨ k = 4 ∨ k = 5) with rfl | rfl | rfl | rfl | rfl | rfl <;> exact ⟨_, rfl, by decide⟩
  · have w := w.1 q
    obtain ⟨q2, w⟩ := w
    exact r_throwS X hz.1 (hz.2.1 (RX11, 174, 205, 178, "java/util/NoSuchElementException", "no such what of a stretch") (by decide)) dX11_stretch_167 dX11_stretch_170 dX11_stretch_171 dX11_stretch_173 dX11_stretch_176 (fun _ z => nomatch z) (by refine ⟨?_, ?_, q2.1, q2.2⟩ <;> simp [rmm, Value.category] <;> omega) q2.1 q2.2 w
  · rcases (by omega : k = 0 ∨ k = 1 ∨ k = 2 ∨ k = 3 ∨ k = 4 ∨ k = 5) with rfl | rfl | rfl | rfl | rfl | rfl
    · have w := w.2.1 (by omega)
      refine r_aload_n X dX11_stretch_44 rfl ?_
      obtain ⟨v3, ev3, w⟩ := w
      obtain ⟨fv3, cv3, qv3⟩ := gN_s ev3
      refine r_getf X dX11_stretch_45 fl_X11_42 cv3 qv3 ?_
      obtain ⟨v4, ev4, w⟩ := w
      obtain ⟨fv4, cv4, qv4⟩ := gN_s ev4
      refine r_getf X dX11_stretch_48 fl_X11_84 cv4 qv4 ?_
      obtain ⟨v5, ev5, w⟩ := w
      obtain ⟨fv5, cv5, qv5⟩ := gN_s ev5
      refine r_getf X dX11_stretch_51 fl_X11_182 cv5 qv5 ?_
      refine r_iload_n X dX11_stretch_54 rfl ?_
      obtain ⟨v6, ev6, w⟩ := w
      obtain ⟨nv6, fv6, cv6, iv6, qv6⟩ := aI_s ev6
      refine r_iald X dX11_stretch_55 cv6 iv6 ?_
      rw [qv6]
      exact r_iret X dX11_stretch_56 rfl w hk.1 hk.2
    · have w := w.2.2.1 (by omega)
      refine r_aload_n X dX11_stretch_57 rfl ?_
      obtain ⟨v7, ev7, w⟩ := w
      obtain ⟨fv7, cv7, qv7⟩ := gN_s ev7
      refine r_getf X dX11_stretch_58 fl_X11_42 cv7 qv7 ?_
      obtain ⟨v8, ev8, w⟩ := w
      obtain ⟨fv8, cv8, qv8⟩ := gN_s ev8
      refine r_getf X dX11_stretch_61 fl_X11_84 cv8 qv8 ?_
      obtain ⟨v9, ev9, w⟩ := w
      obtain ⟨fv9, cv9, qv9⟩ := gN_s ev9
      refine r_getf X dX11_stretch_64 fl_X11_185 cv9 qv9 ?_
      refine r_iload_n X dX11_stretch_67 rfl ?_
      obtain ⟨v10, ev10, w⟩ := w
      obtain ⟨nv10, fv10, cv10, iv10, qv10⟩ := aI_s ev10
      refine r_iald X dX11_stretch_68 cv10 iv10 ?_
      rw [qv10]
      exact r_iret X dX11_stretch_69 rfl w hk.1 hk.2
    · have w := w.2.2.2.1 (by omega)
      refine r_aload_n X dX11_stretch_70 rfl ?_
      obtain ⟨v11, ev11, w⟩ := w
      obtain ⟨fv11, cv11, qv11⟩ := gN_s ev11
      refine r_getf X dX11_stretch_71 fl_X11_42 cv11 qv11 ?_
      obtain ⟨v12, ev12, w⟩ := w
      obtain ⟨fv12, cv12, qv12⟩ := gN_s ev12
      refine r_getf X dX11_stretch_74 fl_X11_84 cv12 qv12 ?_
      obtain ⟨v13, ev13, w⟩ := w
      obtain ⟨fv13, cv13, qv13⟩ := gN_s ev13
      refine r_getf X dX11_stretch_77 fl_X11_188 cv13 qv13 ?_
      refine r_iload_n X dX11_stretch_80 rfl ?_
      obtain ⟨v14, ev14, w⟩ := w
      obtain ⟨nv14, fv14, cv14, iv14, qv14⟩ := aI_s ev14
      refine r_iald X dX11_stretch_81 cv14 iv14 ?_
      rw [qv14]
      exact r_iret X dX11_stretch_82 rfl w hk.1 hk.2
    · have w := w.2.2.2.2.1 (by omega)
      refine r_aload_n X dX11_stretch_83 rfl ?_
      obtain ⟨v15, ev15, w⟩ := w
      obtain ⟨fv15, cv15, qv15⟩ := gN_s ev15
      refine r_getf X dX11_stretch_84 fl_X11_42 cv15 qv15 ?_
      obtain ⟨v16, ev16, w⟩ := w
      obtain ⟨fv16, cv16, qv16⟩ := gN_s ev16
      refine r_getf X dX11_stretch_87 fl_X11_84 cv16 qv16 ?_
      refine r_aload_n X dX11_stretch_90 rfl ?_
      obtain ⟨v17, ev17, w⟩ := w
      obtain ⟨fv17, cv17, qv17⟩ := gN_s ev17
      refine r_getf X dX11_stretch_91 fl_X11_32 cv17 qv17 ?_
      refine r_iload_n X dX11_stretch_94 rfl ?_
      obtain ⟨fs17, es17, w⟩ := w
      obtain ⟨d17, P17, E17, m17, n17, ct17, w⟩ := w
      obtain ⟨⟨x1, x2, x3⟩, w⟩ := w
      obtain ⟨x4, w⟩ := w
      refine r_callV X (As := [.ref v17, .int l1]) dX11_stretch_95 mk_X2_womenBits ⟨ml_X11_191, im_X2_womenBits, se_X2_womenBits⟩ (oF_s es17) (ci_X2).1 rfl rfl rfl (by simp [Value.category]) ⟨x1, by show 60 * (d17 + 1) + 200 ≤ 60 * D + 200; omega⟩ ⟨x2, x3⟩ ct17 x4 (fun _ z => nomatch z) (fun _ => ⟨x2, x3⟩) (fun v h17 w1 => ?_)
      have w := w v h17 w1
      have hk : (kc + m0) + m17 ≤ mc ∧ (ks + n0) + n17 ≤ ms := ⟨x2, x3⟩
      obtain ⟨v19, rfl, w⟩ := w
      exact r_iret X dX11_stretch_98 rfl w hk.1 hk.2
    · have w := w.2.2.2.2.2.1 (by omega)
      refine r_aload_n X dX11_stretch_99 rfl ?_
      obtain ⟨v20, ev20, w⟩ := w
      obtain ⟨fv20, cv20, qv20⟩ := gN_s ev20
      refine r_getf X dX11_stretch_100 fl_X11_42 cv20 qv20 ?_
      obtain ⟨v21, ev21, w⟩ := w
      obtain ⟨fv21, cv21, qv21⟩ := gN_s ev21
      refine r_getf X dX11_stretch_103 fl_X11_84 cv21 qv21 ?_
      refine r_iload_n X dX11_stretch_106 rfl ?_
      obtain ⟨fs21, es21, w⟩ := w
      obtain ⟨d21, P21, E21, m21, n21, ct21, w⟩ := w
      obtain ⟨⟨x1, x2, x3⟩, w⟩ := w
      obtain ⟨x4, w⟩ := w
      refine r_callV X (As := [.int l1]) dX11_stretch_107 mk_X2_isOpen ⟨ml_X11_195, im_X2_isOpen, se_X2_isOpen⟩ (oF_s es21) (ci_X2).1 rfl rfl rfl (by simp [Value.category]) ⟨x1, by show 60 * (d21 + 1) + 200 ≤ 60 * D + 200; omega⟩ ⟨x2, x3⟩ ct21 x4 (fun _ z => nomatch z) (fun _ => ⟨x2, x3⟩) (fun v h21 w1 => ?_)
      have w := w v h21 w1
      have hk : (kc + m0) + m21 ≤ mc ∧ (ks + n0) + n21 ≤ ms := ⟨x2, x3⟩
      obtain ⟨v23, rfl, w⟩ := w
      refine r_if_eq X dX11_stretch_110 (tgt := 117) (by decide) (fun q => ?_) (fun q => ?_)
      · have w := w.1 q
        refine r_aload_n X dX11_stretch_117 rfl ?_
        obtain ⟨v24, ev24, w⟩ := w
        obtain ⟨fv24, cv24, qv24⟩ := gN_s ev24
        refine r_getf X dX11_stretch_118 fl_X11_42 cv24 qv24 ?_
        obtain ⟨v25, ev25, w⟩ := w
        obtain ⟨fv25, cv25, qv25⟩ := gN_s ev25
        refine r_getf X dX11_stretch_121 fl_X11_84 cv25 qv25 ?_
        refine r_aload_n X dX11_stretch_124 rfl ?_
        obtain ⟨v26, ev26, w⟩ := w
        obtain ⟨fv26, cv26, qv26⟩ := gN_s ev26
        refine r_getf X dX11_stretch_125 fl_X11_32 cv26 qv26 ?_
        refine r_iload_n X dX11_stretch_128 rfl ?_
        obtain ⟨fs26, es26, w⟩ := w
        obtain ⟨d26, P26, E26, m26, n26, ct26, w⟩ := w
        obtain ⟨⟨x1, x2, x3⟩, w⟩ := w
        obtain ⟨x4, w⟩ := w
        refine r_callV X (As := [.ref v26, .int l1]) dX11_stretch_129 mk_X2_fraysBy ⟨ml_X11_199, im_X2_fraysBy, se_X2_fraysBy⟩ (oF_s es26) (ci_X2).1 rfl rfl rfl (by simp [Value.category]) ⟨x1, by show 60 * (d26 + 1) + 200 ≤ 60 * D + 200; omega⟩ ⟨x2, x3⟩ ct26 x4 (fun _ z => nomatch z) (fun _ => ⟨x2, x3⟩) (fun v h26 w1 => ?_)
        have w := w v h26 w1
        have hk : ((kc + m0) + m21) + m26 ≤ mc ∧ ((ks + n0) + n21) + n26 ≤ ms := ⟨x2, x3⟩
        obtain ⟨v28, rfl, w⟩ := w
        exact r_iret X dX11_stretch_132 rfl w hk.1 hk.2
      · have w := w.2 q
        refine r_iconst X dX11_stretch_113 (v := 0) (by decide) ?_
        refine r_goto X dX11_stretch_114 (tgt := 132) (by decide) ?_
        exact r_iret X dX11_stretch_132 rfl w hk.1 hk.2
    · have w := w.2.2.2.2.2.2 (by omega)
      refine r_aload_n X dX11_stretch_133 rfl ?_
      obtain ⟨v29, ev29, w⟩ := w
      obtain ⟨fv29, cv29, qv29⟩ := gN_s ev29
      refine r_getf X dX11_stretch_134 fl_X11_42 cv29 qv29 ?_
      obtain ⟨v30, ev30, w⟩ := w
      obtain ⟨fv30, cv30, qv30⟩ := gN_s ev30
      refine r_getf X dX11_stretch_137 fl_X11_84 cv30 qv30 ?_
      refine r_iload_n X dX11_stretch_140 rfl ?_
      obtain ⟨fs30, es30, w⟩ := w
      obtain ⟨d30, P30, E30, m30, n30, ct30, w⟩ := w
      obtain ⟨⟨x1, x2, x3⟩, w⟩ := w
      obtain ⟨x4, w⟩ := w
      refine r_callV X (As := [.int l1]) dX11_stretch_141 mk_X2_isOpen ⟨ml_X11_195, im_X2_isOpen, se_X2_isOpen⟩ (oF_s es30) (ci_X2).1 rfl rfl rfl (by simp [Value.category]) ⟨x1, by show 60 * (d30 + 1) + 200 ≤ 60 * D + 200; omega⟩ ⟨x2, x3⟩ ct30 x4 (fun _ z => nomatch z) (fun _ => ⟨x2, x3⟩) (fun v h30 w1 => ?_)
      have w := w v h30 w1
      have hk : (kc + m0) + m30 ≤ mc ∧ (ks + n0) + n30 ≤ ms := ⟨x2, x3⟩
      obtain ⟨v32, rfl, w⟩ := w
      refine r_if_eq X dX11_stretch_144 (tgt := 151) (by decide) (fun q => ?_) (fun q => ?_)
      · have w := w.1 q
        refine r_aload_n X dX11_stretch_151 rfl ?_
        obtain ⟨v33, ev33, w⟩ := w
        obtain ⟨fv33, cv33, qv33⟩ := gN_s ev33
        refine r_getf X dX11_stretch_152 fl_X11_42 cv33 qv33 ?_
        obtain ⟨v34, ev34, w⟩ := w
        obtain ⟨fv34, cv34, qv34⟩ := gN_s ev34
        refine r_getf X dX11_stretch_155 fl_X11_84 cv34 qv34 ?_
        refine r_aload_n X dX11_stretch_158 rfl ?_
        obtain ⟨v35, ev35, w⟩ := w
        obtain ⟨fv35, cv35, qv35⟩ := gN_s ev35
        refine r_getf X dX11_stretch_159 fl_X11_32 cv35 qv35 ?_
        refine r_iload_n X dX11_stretch_162 rfl ?_
        obtain ⟨fs35, es35, w⟩ := w
        obtain ⟨d35, P35, E35, m35, n35, ct35, w⟩ := w
        obtain ⟨⟨x1, x2, x3⟩, w⟩ := w
        obtain ⟨x4, w⟩ := w
        refine r_callV X (As := [.ref v35, .int l1]) dX11_stretch_163 mk_X2_pullsBy ⟨ml_X11_202, im_X2_pullsBy, se_X2_pullsBy⟩ (oF_s es35) (ci_X2).1 rfl rfl rfl (by simp [Value.category]) ⟨x1, by show 60 * (d35 + 1) + 200 ≤ 60 * D + 200; omega⟩ ⟨x2, x3⟩ ct35 x4 (fun _ z => nomatch z) (fun _ => ⟨x2, x3⟩) (fun v h35 w1 => ?_)
        have w := w v h35 w1
        have hk : ((kc + m0) + m30) + m35 ≤ mc ∧ ((ks + n0) + n30) + n35 ≤ ms := ⟨x2, x3⟩
        obtain ⟨v37, rfl, w⟩ := w
        exact r_iret X dX11_stretch_166 rfl w hk.1 hk.2
      · have w := w.2 q
        refine r_iconst X dX11_stretch_147 (v := 0) (by decide) ?_
        refine r_goto X dX11_stretch_148 (tgt := 166) (by decide) ?_
        exact r_iret X dX11_stretch_166 rfl w hk.1 hk.2

set_option maxRecDepth 10000 in
theorem b_X11_tear_0 {g : GG} {K : KX} {D mc ms : Nat} {Pr : Option Value → Hp → Prop} {Pt : String → Hp → Prop} {kc ks : Nat} (hg : GOK g) (hD : 8 ≤ D) (hk : kc ≤ mc ∧ ks ≤ ms) (X : CB g K cX11_tear 3 yX11_tear (some (.int)) []) (l0 : Nat) (l1 : Int32) (l2 : Int32) (h : Hp)
    (w : (∃ fs0, oF h l0 10 = some fs0 ∧ (∃ d0 P0 E0 m0 n0, CT g d0 yX11_needStretch (wsC yX11_needStretch cX11_needStretch 2 none) [.ref l0, .int l1] h m0 n0 P0 E0 ∧ (d0 + 1 ≤ D ∧ kc + m0 ≤ mc ∧ ks + n0 ≤ ms) ∧ (∀ E h', E0 E h' → Pt E h') ∧ (∀ v h0, P0 v h0 → v = none ∧ ((l2 < (1 : Int32) → VB g K 3 D mc ms Pr Pt ((kc + m0)) ((ks + n0)) 30 [some (.ref l0), none, none] [] h0) ∧ (¬ l2 < (1 : Int32) → (((50 : Int32) < l2 → VB g K 3 D mc ms Pr Pt ((kc + m0)) ((ks + n0)) 30 [some (.ref l0), none, none] [] h0) ∧ (¬ (50 : Int32) < l2 → (∃ v2, gN h0 l0 10 8 = some v2 ∧ (∃ v3, gN h0 v2 3 0 = some v3 ∧ (∃ fs3, oF h0 v3 2 = some fs3 ∧ (∃ d3 P3 E3 m3 n3, CT g d3 yX2_isOpen (wsC yX2_isOpen cX2_isOpen 2 (some (.boolean))) [.ref v3, .int l1] h0 m3 n3 P3 E3 ∧ (d3 + 1 ≤ D ∧ (kc + m0) + m3 ≤ mc ∧ (ks + n0) + n3 ≤ ms) ∧ (∀ E h', E3 E h' → Pt E h') ∧ (∀ v h3, P3 v h3 → ∃ v5, v = some (.int v5) ∧ ((v5 = 0 → (∃ v6, gN h3 l0 10 8 = some v6 ∧ (∃ v7, gN h3 v6 3 1 = some v7 ∧ (∃ v8, gN h3 l0 10 8 = some v8 ∧ (∃ v9, gN h3 v8 3 0 = some v9 ∧ (∃ fs9, oF h3 v7 4 = some fs9 ∧ (∃ d9 P9 E9 m9 n9, CT g d9 yX4_keep (wsC yX4_keep cX4_keep 2 none) [.ref v7, .ref v9] h3 m9 n9 P9 E9 ∧ (d9 + 1 ≤ D ∧ ((kc + m0) + m3) + m9 ≤ mc ∧ ((ks + n0) + n3) + n9 ≤ ms) ∧ (∀ E h', E9 E h' → Pt E h') ∧ (∀ v h9, P9 v h9 → v = none ∧ (∃ v11, gN h9 l0 10 8 = some v11 ∧ (∃ v12, gN h9 v11 3 0 = some v12 ∧ (∃ v13, gN h9 l0 10 6 = some v13 ∧ (∃ fs13, oF h9 v12 2 = some fs13 ∧ (∃ d13 P13 E13 m13 n13, CT g d13 yX2_tearOff (wsC yX2_tearOff cX2_tearOff 4 none) [.ref v12, .ref v13, .int l1, .int l2] h9 m13 n13 P13 E13 ∧ (d13 + 1 ≤ D ∧ (((kc + m0) + m3) + m9) + m13 ≤ mc ∧ (((ks + n0) + n3) + n9) + n13 ≤ ms) ∧ (∀ E h', E13 E h' → Pt E h') ∧ (∀ v h13, P13 v h13 → v = none ∧ (∃ v15, gN h13 l0 10 8 = some v15 ∧ (∃ v16, gN h13 v15 3 0 = some v16 ∧ (∃ v17, gN h13 v16 2 2 = some v17 ∧ (∃ v18, aI h13 0 v17 l1 = some v18 ∧ Pr (some (.int v18)) h13)))))))))))))))))) ∧ (¬ v5 = 0 → VB g K 3 D mc ms Pr Pt (((kc + m0) + m3)) (((ks + n0) + n3)) 30 [some (.ref l0), none, none] [] h3))))))))))))))) : VB g K 3 D mc ms Pr Pt kc ks 0 [some (.ref l0), some (.int l1), some (.int l2)] [] h := by
  obtain ⟨p, e, s, m, args, below, meth, c⟩ := K
  have X : CX g p s m args meth c cX11_tear 3 yX11_tear (some (.int)) [] := X
  have hz := hg s X.gk.z
  show VV g p e (rmm D mc ms) s m args below meth c 3 (QQ g below args s mc ms Pr Pt) kc ks 0 [some (.ref l0), some (.int l1), some (.int l2)] [] h
  refine r_aload_n X dX11_tear_0 rfl ?_
  refine r_iload_n X dX11_tear_1 rfl ?_
  obtain ⟨fs0, es0, w⟩ := w
  obtain ⟨d0, P0, E0, m0, n0, ct0, w⟩ := w
  obtain ⟨⟨x1, x2, x3⟩, w⟩ := w
  obtain ⟨x4, w⟩ := w
  refine r_callV X (As := [.int l1]) dX11_tear_2 mk_X11_needStretch ⟨ml_X11_179, im_X11_needStretch, se_X11_needStretch⟩ (oF_s es0) (ci_X11).1 rfl rfl rfl (by simp [Value.category]) ⟨x1, by show 60 * (d0 + 1) + 200 ≤ 60 * D + 200; omega⟩ ⟨x2, x3⟩ ct0 x4 (fun _ z => nomatch z) (fun _ => ⟨x2, x3⟩) (fun v h0 w1 => ?_)
  have w := w v h0 w1
  have hk : kc + m0 ≤ mc ∧ ks + n0 ≤ ms := ⟨x2, x3⟩
  obtain ⟨rfl, w⟩ := w
  refine r_iload_n X dX11_tear_5 rfl ?_
  refine r_iconst X dX11_tear_6 (v := 1) (by decide) ?_
  refine r_icmp_lt X dX11_tear_7 (tgt := 30) (by decide) (fun q => ?_) (fun q => ?_)
  · have w := w.1 q
    refine VB_wk (ls' := [some (.ref l0), none, none]) ?_ w
    exact (And.intro rfl trivial)
  · have w := w.2 q
    refine r_iload_n X dX11_tear_10 rfl ?_
    refine r_bipush X dX11_tear_11 (v := 50) (by decide) ?_
    refine r_icmp_gt X dX11_tear_13 (tgt := 30) (by decide) (fun q => ?_) (fun q => ?_)
    · have w := w.1 q
      refine VB_wk (ls' := [some (.ref l0), none, none]) ?_ w
      exact (And.intro rfl trivial)
    · have w := w.2 q
      refine r_aload_n X dX11_tear_16 rfl ?_
      obtain ⟨v2, ev2, w⟩ := w
      obtain ⟨fv2, cv2, qv2⟩ := gN_s ev2
      refine r_getf X dX11_tear_17 fl_X11_42 cv2 qv2 ?_
      obtain ⟨v3, ev3, w⟩ := w
      obtain ⟨fv3, cv3, qv3⟩ := gN_s ev3
      refine r_getf X dX11_tear_20 fl_X11_84 cv3 qv3 ?_
      refine r_iload_n X dX11_tear_23 rfl ?_
      obtain ⟨fs3, es3, w⟩ := w
      obtain ⟨d3, P3, E3, m3, n3, ct3, w⟩ := w
      obtain ⟨⟨x1, x2, x3⟩, w⟩ := w
      obtain ⟨x4, w⟩ := w
      refine r_callV X (As := [.int l1]) dX11_tear_24 mk_X2_isOpen ⟨ml_X11_195, im_X2_isOpen, se_X2_isOpen⟩ (oF_s es3) (ci_X2).1 rfl rfl rfl (by simp [Value.category]) ⟨x1, by show 60 * (d3 + 1) + 200 ≤ 60 * D + 200; omega⟩ ⟨x2, x3⟩ ct3 x4 (fun _ z => nomatch z) (fun _ => ⟨x2, x3⟩) (fun v h3 w1 => ?_)
      have w := w v h3 w1
      have hk : (kc + m0) + m3 ≤ mc ∧ (ks + n0) + n3 ≤ ms := ⟨x2, x3⟩
      obtain ⟨v5, rfl, w⟩ := w
      refine r_if_eq X dX11_tear_27 (tgt := 35) (by decide) (fun q => ?_) (fun q => ?_)
      · have w := w.1 q
        refine r_aload_n X dX11_tear_35 rfl ?_
        obtain ⟨v6, ev6, w⟩ := w
        obtain ⟨fv6, cv6, qv6⟩ := gN_s ev6
        refine r_getf X dX11_tear_36 fl_X11_42 cv6 qv6 ?_
        obtain ⟨v7, ev7, w⟩ := w
        obtain ⟨fv7, cv7, qv7⟩ := gN_s ev7
        refine r_getf X dX11_tear_39 fl_X11_127 cv7 qv7 ?_
        refine r_aload_n X dX11_tear_42 rfl ?_
        obtain ⟨v8, ev8, w⟩ := w
        obtain ⟨fv8, cv8, qv8⟩ := gN_s ev8
        refine r_getf X dX11_tear_43 fl_X11_42 cv8 qv8 ?_
        obtain ⟨v9, ev9, w⟩ := w
        obtain ⟨fv9, cv9, qv9⟩ := gN_s ev9
        refine r_getf X dX11_tear_46 fl_X11_84 cv9 qv9 ?_
        obtain ⟨fs9, es9, w⟩ := w
        obtain ⟨d9, P9, E9, m9, n9, ct9, w⟩ := w
        obtain ⟨⟨x1, x2, x3⟩, w⟩ := w
        obtain ⟨x4, w⟩ := w
        refine r_callV X (As := [.ref v9]) dX11_tear_49 mk_X4_keep ⟨ml_X11_225, im_X4_keep, se_X4_keep⟩ (oF_s es9) (ci_X4).1 rfl rfl rfl (by simp [Value.category]) ⟨x1, by show 60 * (d9 + 1) + 200 ≤ 60 * D + 200; omega⟩ ⟨x2, x3⟩ ct9 x4 (fun _ z => nomatch z) (fun _ => ⟨x2, x3⟩) (fun v h9 w1 => ?_)
        have w := w v h9 w1
        have hk : ((kc + m0) + m3) + m9 ≤ mc ∧ ((ks + n0) + n3) + n9 ≤ ms := ⟨x2, x3⟩
        obtain ⟨rfl, w⟩ := w
        refine r_aload_n X dX11_tear_52 rfl ?_
        obtain ⟨v11, ev11, w⟩ := w
        obtain ⟨fv11, cv11, qv11⟩ := gN_s ev11
        refine r_getf X dX11_tear_53 fl_X11_42 cv11 qv11 ?_
        obtain ⟨v12, ev12, w⟩ := w
        obtain ⟨fv12, cv12, qv12⟩ := gN_s ev12
        refine r_getf X dX11_tear_56 fl_X11_84 cv12 qv12 ?_
        refine r_aload_n X dX11_tear_59 rfl ?_
        obtain ⟨v13, ev13, w⟩ := w
        obtain ⟨fv13, cv13, qv13⟩ := gN_s ev13
        refine r_getf X dX11_tear_60 fl_X11_32 cv13 qv13 ?_
        refine r_iload_n X dX11_tear_63 rfl ?_
        refine r_iload_n X dX11_tear_64 rfl ?_
        obtain ⟨fs13, es13, w⟩ := w
        obtain ⟨d13, P13, E13, m13, n13, ct13, w⟩ := w
        obtain ⟨⟨x1, x2, x3⟩, w⟩ := w
        obtain ⟨x4, w⟩ := w
        refine r_callV X (As := [.ref v13, .int l1, .int l2]) dX11_tear_65 mk_X2_tearOff ⟨ml_X11_243, im_X2_tearOff, se_X2_tearOff⟩ (oF_s es13) (ci_X2).1 rfl rfl rfl (by simp [Value.category]) ⟨x1, by show 60 * (d13 + 1) + 200 ≤ 60 * D + 200; omega⟩ ⟨x2, x3⟩ ct13 x4 (fun _ z => nomatch z) (fun _ => ⟨x2, x3⟩) (fun v h13 w1 => ?_)
        have w := w v h13 w1
        have hk : (((kc + m0) + m3) + m9) + m13 ≤ mc ∧ (((ks + n0) + n3) + n9) + n13 ≤ ms := ⟨x2, x3⟩
        obtain ⟨rfl, w⟩ := w
        refine r_aload_n X dX11_tear_68 rfl ?_
        obtain ⟨v15, ev15, w⟩ := w
        obtain ⟨fv15, cv15, qv15⟩ := gN_s ev15
        refine r_getf X dX11_tear_69 fl_X11_42 cv15 qv15 ?_
        obtain ⟨v16, ev16, w⟩ := w
        obtain ⟨fv16, cv16, qv16⟩ := gN_s ev16
        refine r_getf X dX11_tear_72 fl_X11_84 cv16 qv16 ?_
        obtain ⟨v17, ev17, w⟩ := w
        obtain ⟨fv17, cv17, qv17⟩ := gN_s ev17
        refine r_getf X dX11_tear_75 fl_X11_185 cv17 qv17 ?_
        refine r_iload_n X dX11_tear_78 rfl ?_
        obtain ⟨v18, ev18, w⟩ := w
        obtain ⟨nv18, fv18, cv18, iv18, qv18⟩ := aI_s ev18
        refine r_iald X dX11_tear_79 cv18 iv18 ?_
        rw [qv18]
        exact r_iret X dX11_tear_80 rfl w hk.1 hk.2
      · have w := w.2 q
        refine VB_wk (ls' := [some (.ref l0), none, none]) ?_ w
        exact (And.intro rfl trivial)

set_option maxRecDepth 10000 in
theorem b_X11_tear_30 {g : GG} {K : KX} {D mc ms : Nat} {Pr : Option Value → Hp → Prop} {Pt : String → Hp → Prop} {kc ks : Nat} (hg : GOK g) (hD : 8 ≤ D) (hk : kc ≤ mc ∧ ks ≤ ms) (X : CB g K cX11_tear 3 yX11_tear (some (.int)) []) (l0 : Nat) (h : Hp)
    (w : (∃ fs0, oF h l0 10 = some fs0 ∧ (∃ d0 P0 E0 m0 n0, CT g d0 yX11_refuseAct (wsC yX11_refuseAct cX11_refuseAct 1 (some (.int))) [.ref l0] h m0 n0 P0 E0 ∧ (d0 + 1 ≤ D ∧ kc + m0 ≤ mc ∧ ks + n0 ≤ ms) ∧ (∀ E h', E0 E h' → Pt E h') ∧ (∀ v h0, P0 v h0 → ∃ v2, v = some (.int v2) ∧ Pr (some (.int v2)) h0)))) : VB g K 3 D mc ms Pr Pt kc ks 30 [some (.ref l0), none, none] [] h := by
  obtain ⟨p, e, s, m, args, below, meth, c⟩ := K
  have X : CX g p s m args meth c cX11_tear 3 yX11_tear (some (.int)) [] := X
  have hz := hg s X.gk.z
  show VV g p e (rmm D mc ms) s m args below meth c 3 (QQ g below args s mc ms Pr Pt) kc ks 30 [some (.ref l0), none, none] [] h
  refine r_aload_n X dX11_tear_30 rfl ?_
  obtain ⟨fs0, es0, w⟩ := w
  obtain ⟨d0, P0, E0, m0, n0, ct0, w⟩ := w
  obtain ⟨⟨x1, x2, x3⟩, w⟩ := w
  obtain ⟨x4, w⟩ := w
  refine r_callV X (As := []) dX11_tear_31 mk_X11_refuseAct ⟨ml_X11_221, im_X11_refuseAct, se_X11_refuseAct⟩ (oF_s es0) (ci_X11).1 rfl rfl rfl (by simp [Value.category]) ⟨x1, by show 60 * (d0 + 1) + 200 ≤ 60 * D + 200; omega⟩ ⟨x2, x3⟩ ct0 x4 (fun _ z => nomatch z) (fun _ => ⟨x2, x3⟩) (fun v h0 w1 => ?_)
  have w := w v h0 w1
  have hk : kc + m0 ≤ mc ∧ ks + n0 ≤ ms := ⟨x2, x3⟩
  obtain ⟨v2, rfl, w⟩ := w
  exact r_iret X dX11_tear_34 rfl w hk.1 hk.2

set_option maxRecDepth 10000 in
theorem b_X11_then_0 {g : GG} {K : KX} {D mc ms : Nat} {Pr : Option Value → Hp → Prop} {Pt : String → Hp → Prop} {kc ks : Nat} (hg : GOK g) (hD : 8 ≤ D) (hk : kc ≤ mc ∧ ks ≤ ms) (X : CB g K cX11_then 4 yX11_then (some (.int)) []) (l0 : Nat) (l1 : Int32) (l2 : Int32) (l3 : Int32) (h : Hp)
    (w : (∃ fs0, oF h l0 10 = some fs0 ∧ (∃ d0 P0 E0 m0 n0, CT g d0 yX11_needStretch (wsC yX11_needStretch cX11_needStretch 2 none) [.ref l0, .int l1] h m0 n0 P0 E0 ∧ (d0 + 1 ≤ D ∧ kc + m0 ≤ mc ∧ ks + n0 ≤ ms) ∧ (∀ E h', E0 E h' → Pt E h') ∧ (∀ v h0, P0 v h0 → v = none ∧ (∃ d1 P1 E1 m1 n1, CT g d1 yX11_needWhat (wsC yX11_needWhat cX11_needWhat 2 none) [.int l3, .int ((1 : Int32))] h0 m1 n1 P1 E1 ∧ (d1 + 1 ≤ D ∧ (kc + m0) + m1 ≤ mc ∧ (ks + n0) + n1 ≤ ms) ∧ (∀ E h', E1 E h' → Pt E h') ∧ (∀ v h1, P1 v h1 → v = none ∧ (∃ d2 P2 E2 m2 n2, CT g d2 yX11_needDays (wsC yX11_needDays cX11_needDays 2 none) [.int l2, .int ((0 : Int32))] h1 m2 n2 P2 E2 ∧ (d2 + 1 ≤ D ∧ ((kc + m0) + m1) + m2 ≤ mc ∧ ((ks + n0) + n1) + n2 ≤ ms) ∧ (∀ E h', E2 E h' → Pt E h') ∧ (∀ v h2, P2 v h2 → v = none ∧ (∃ fs3, oF h2 l0 10 = some fs3 ∧ (∃ d3 P3 E3 m3 n3, CT g d3 yX11_lookAhead (wsC yX11_lookAhead cX11_lookAhead 2 none) [.ref l0, .int l2] h2 m3 n3 P3 E3 ∧ (d3 + 1 ≤ D ∧ (((kc + m0) + m1) + m2) + m3 ≤ mc ∧ (((ks + n0) + n1) + n2) + n3 ≤ ms) ∧ (∀ E h', E3 E h' → Pt E h') ∧ (∀ v h3, P3 v h3 → v = none ∧ ((¬ l3 = 0 → (∃ v5, gN h3 l0 10 11 = some v5 ∧ (∃ v6, gN h3 v5 2 2 = some v6 ∧ (∃ v7, aI h3 0 v6 l1 = some v7 ∧ Pr (some (.int v7)) h3)))) ∧ (l3 = 0 → (∃ v8, gN h3 l0 10 11 = some v8 ∧ (∃ v9, gN h3 v8 2 1 = some v9 ∧ (∃ v10, aI h3 0 v9 l1 = some v10 ∧ Pr (some (.int v10)) h3)))))))))))))))) : VB g K 4 D mc ms Pr Pt kc ks 0 [some (.ref l0), some (.int l1), some (.int l2), some (.int l3)] [] h := by
  obtain ⟨p, e, s, m, args, below, meth, c⟩ := K
  have X : CX g p s m args meth c cX11_then 4 yX11_then (some (.int)) [] := X
  have hz := hg s X.gk.z
  show VV g p e (rmm D mc ms) s m args below meth c 4 (QQ g below args s mc ms Pr Pt) kc ks 0 [some (.ref l0), some (.int l1), some (.int l2), some (.int l3)] [] h
  refine r_aload_n X dX11_then_0 rfl ?_
  refine r_iload_n X dX11_then_1 rfl ?_
  obtain ⟨fs0, es0, w⟩ := w
  obtain ⟨d0, P0, E0, m0, n0, ct0, w⟩ := w
  obtain ⟨⟨x1, x2, x3⟩, w⟩ := w
  obtain ⟨x4, w⟩ := w
  refine r_callV X (As := [.int l1]) dX11_then_2 mk_X11_needStretch ⟨ml_X11_179, im_X11_needStretch, se_X11_needStretch⟩ (oF_s es0) (ci_X11).1 rfl rfl rfl (by simp [Value.category]) ⟨x1, by show 60 * (d0 + 1) + 200 ≤ 60 * D + 200; omega⟩ ⟨x2, x3⟩ ct0 x4 (fun _ z => nomatch z) (fun _ => ⟨x2, x3⟩) (fun v h0 w1 => ?_)
  have w := w v h0 w1
  have hk : kc + m0 ≤ mc ∧ ks + n0 ≤ ms := ⟨x2, x3⟩
  obtain ⟨rfl, w⟩ := w
  refine r_iload_n X dX11_then_5 rfl ?_
  refine r_iconst X dX11_then_6 (v := 1) (by decide) ?_
  obtain ⟨d1, P1, E1, m1, n1, ct1, w⟩ := w
  obtain ⟨⟨x1, x2, x3⟩, w⟩ := w
  obtain ⟨x4, w⟩ := w
  refine r_callS X (As := [.int l3, .int ((1 : Int32))]) dX11_then_7 mk_X11_needWhat ⟨ml_X11_250, sm_X11_needWhat⟩ rfl rfl (by simp [Value.category]) ⟨x1, by show 60 * (d1 + 1) + 200 ≤ 60 * D + 200; omega⟩ ⟨x2, x3⟩ ct1 x4 (fun _ z => nomatch z) (fun _ => ⟨x2, x3⟩) (fun v h1 w1 => ?_)
  have w := w v h1 w1
  have hk : (kc + m0) + m1 ≤ mc ∧ (ks + n0) + n1 ≤ ms := ⟨x2, x3⟩
  obtain ⟨rfl, w⟩ := w
  refine r_iload_n X dX11_then_10 rfl ?_
  refine r_iconst X dX11_then_11 (v := 0) (by decide) ?_
  obtain ⟨d2, P2, E2, m2, n2, ct2, w⟩ := w
  obtain ⟨⟨x1, x2, x3⟩, w⟩ := w
  obtain ⟨x4, w⟩ := w
  refine r_callS X (As := [.int l2, .int ((0 : Int32))]) dX11_then_12 mk_X11_needDays ⟨ml_X11_253, sm_X11_needDays⟩ rfl rfl (by simp [Value.category]) ⟨x1, by show 60 * (d2 + 1) + 200 ≤ 60 * D + 200; omega⟩ ⟨x2, x3⟩ ct2 x4 (fun _ z => nomatch z) (fun _ => ⟨x2, x3⟩) (fun v h2 w1 => ?_)
  have w := w v h2 w1
  have hk : ((kc + m0) + m1) + m2 ≤ mc ∧ ((ks + n0) + n1) + n2 ≤ ms := ⟨x2, x3⟩
  obtain ⟨rfl, w⟩ := w
  refine r_aload_n X dX11_then_15 rfl ?_
  refine r_iload_n X dX11_then_16 rfl ?_
  obtain ⟨fs3, es3, w⟩ := w
  obtain ⟨d3, P3, E3, m3, n3, ct3, w⟩ := w
  obtain ⟨⟨x1, x2, x3⟩, w⟩ := w
  obtain ⟨x4, w⟩ := w
  refine r_callV X (As := [.int l2]) dX11_then_17 mk_X11_lookAhead ⟨ml_X11_256, im_X11_lookAhead, se_X11_lookAhead⟩ (oF_s es3) (ci_X11).1 rfl rfl rfl (by simp [Value.category]) ⟨x1, by show 60 * (d3 + 1) + 200 ≤ 60 * D + 200; omega⟩ ⟨x2, x3⟩ ct3 x4 (fun _ z => nomatch z) (fun _ => ⟨x2, x3⟩) (fun v h3 w1 => ?_)
  have w := w v h3 w1
  have hk : (((kc + m0) + m1) + m2) + m3 ≤ mc ∧ (((ks + n0) + n1) + n2) + n3 ≤ ms := ⟨x2, x3⟩
  obtain ⟨rfl, w⟩ := w
  refine r_iload_n X dX11_then_20 rfl ?_
  refine r_if_ne X dX11_then_21 (tgt := 36) (by decide) (fun q => ?_) (fun q => ?_)
  · have w := w.1 q
    refine r_aload_n X dX11_then_36 rfl ?_
    obtain ⟨v5, ev5, w⟩ := w
    obtain ⟨fv5, cv5, qv5⟩ := gN_s ev5
    refine r_getf X dX11_then_37 fl_X11_56 cv5 qv5 ?_
    obtain ⟨v6, ev6, w⟩ := w
    obtain ⟨fv6, cv6, qv6⟩ := gN_s ev6
    refine r_getf X dX11_then_40 fl_X11_185 cv6 qv6 ?_
    refine r_iload_n X dX11_then_43 rfl ?_
    obtain ⟨v7, ev7, w⟩ := w
    obtain ⟨nv7, fv7, cv7, iv7, qv7⟩ := aI_s ev7
    refine r_iald X dX11_then_44 cv7 iv7 ?_
    rw [qv7]
    exact r_iret X dX11_then_45 rfl w hk.1 hk.2
  · have w := w.2 q
    refine r_aload_n X dX11_then_24 rfl ?_
    obtain ⟨v8, ev8, w⟩ := w
    obtain ⟨fv8, cv8, qv8⟩ := gN_s ev8
    refine r_getf X dX11_then_25 fl_X11_56 cv8 qv8 ?_
    obtain ⟨v9, ev9, w⟩ := w
    obtain ⟨fv9, cv9, qv9⟩ := gN_s ev9
    refine r_getf X dX11_then_28 fl_X11_182 cv9 qv9 ?_
    refine r_iload_n X dX11_then_31 rfl ?_
    obtain ⟨v10, ev10, w⟩ := w
    obtain ⟨nv10, fv10, cv10, iv10, qv10⟩ := aI_s ev10
    refine r_iald X dX11_then_32 cv10 iv10 ?_
    rw [qv10]
    refine r_goto X dX11_then_33 (tgt := 45) (by decide) ?_
    exact r_iret X dX11_then_45 rfl w hk.1 hk.2

set_option maxRecDepth 10000 in
theorem b_X11_thread_0 {g : GG} {K : KX} {D mc ms : Nat} {Pr : Option Value → Hp → Prop} {Pt : String → Hp → Prop} {kc ks : Nat} (hg : GOK g) (hD : 8 ≤ D) (hk : kc ≤ mc ∧ ks ≤ ms) (X : CB g K cX11_thread 3 yX11_thread (some (.int)) []) (l0 : Nat) (l1 : Int32) (l2 : Int32) (h : Hp)
    (w : (∃ fs0, oF h l0 10 = some fs0 ∧ (∃ d0 P0 E0 m0 n0, CT g d0 yX11_needWoman (wsC yX11_needWoman cX11_needWoman 2 none) [.ref l0, .int l1] h m0 n0 P0 E0 ∧ (d0 + 1 ≤ D ∧ kc + m0 ≤ mc ∧ ks + n0 ≤ ms) ∧ (∀ E h', E0 E h' → Pt E h') ∧ (∀ v h0, P0 v h0 → v = none ∧ ((l2 < (1 : Int32) → VB g K 3 D mc ms Pr Pt ((kc + m0)) ((ks + n0)) 16 [some (.ref l0), none, none] [] h0) ∧ (¬ l2 < (1 : Int32) → ((l2 ≤ (50 : Int32) → (∃ v2, gN h0 l0 10 8 = some v2 ∧ (∃ v3, gN h0 v2 3 1 = some v3 ∧ (∃ v4, gN h0 l0 10 8 = some v4 ∧ (∃ v5, gN h0 v4 3 0 = some v5 ∧ (∃ fs5, oF h0 v3 4 = some fs5 ∧ (∃ d5 P5 E5 m5 n5, CT g d5 yX4_keep (wsC yX4_keep cX4_keep 2 none) [.ref v3, .ref v5] h0 m5 n5 P5 E5 ∧ (d5 + 1 ≤ D ∧ (kc + m0) + m5 ≤ mc ∧ (ks + n0) + n5 ≤ ms) ∧ (∀ E h', E5 E h' → Pt E h') ∧ (∀ v h5, P5 v h5 → v = none ∧ (∃ v7, gN h5 l0 10 8 = some v7 ∧ (∃ v8, gN h5 v7 3 0 = some v8 ∧ (∃ fs8, oF h5 v8 2 = some fs8 ∧ (∃ d8 P8 E8 m8 n8, CT g d8 yX2_giveThread (wsC yX2_giveThread cX2_giveThread 3 none) [.ref v8, .int l1, .int l2] h5 m8 n8 P8 E8 ∧ (d8 + 1 ≤ D ∧ ((kc + m0) + m5) + m8 ≤ mc ∧ ((ks + n0) + n5) + n8 ≤ ms) ∧ (∀ E h', E8 E h' → Pt E h') ∧ (∀ v h8, P8 v h8 → v = none ∧ (∃ v10, gN h8 l0 10 8 = some v10 ∧ (∃ v11, gN h8 v10 3 0 = some v11 ∧ (∃ v12, gN h8 v11 2 5 = some v12 ∧ (∃ v13, aI h8 0 v12 l1 = some v13 ∧ Pr (some (.int v13)) h8))))))))))))))))) ∧ (¬ l2 ≤ (50 : Int32) → VB g K 3 D mc ms Pr Pt ((kc + m0)) ((ks + n0)) 16 [some (.ref l0), none, none] [] h0)))))))) : VB g K 3 D mc ms Pr Pt kc ks 0 [some (.ref l0), some (.int l1), some (.int l2)] [] h := by
  obtain ⟨p, e, s, m, args, below, meth, c⟩ := K
  have X : CX g p s m args meth c cX11_thread 3 yX11_thread (some (.int)) [] := X
  have hz := hg s X.gk.z
  show VV g p e (rmm D mc ms) s m args below meth c 3 (QQ g below args s mc ms Pr Pt) kc ks 0 [some (.ref l0), some (.int l1), some (.int l2)] [] h
  refine r_aload_n X dX11_thread_0 rfl ?_
  refine r_iload_n X dX11_thread_1 rfl ?_
  obtain ⟨fs0, es0, w⟩ := w
  obtain ⟨d0, P0, E0, m0, n0, ct0, w⟩ := w
  obtain ⟨⟨x1, x2, x3⟩, w⟩ := w
  obtain ⟨x4, w⟩ := w
  refine r_callV X (As := [.int l1]) dX11_thread_2 mk_X11_needWoman ⟨ml_X11_207, im_X11_needWoman, se_X11_needWoman⟩ (oF_s es0) (ci_X11).1 rfl rfl rfl (by simp [Value.category]) ⟨x1, by show 60 * (d0 + 1) + 200 ≤ 60 * D + 200; omega⟩ ⟨x2, x3⟩ ct0 x4 (fun _ z => nomatch z) (fun _ => ⟨x2, x3⟩) (fun v h0 w1 => ?_)
  have w := w v h0 w1
  have hk : kc + m0 ≤ mc ∧ ks + n0 ≤ ms := ⟨x2, x3⟩
  obtain ⟨rfl, w⟩ := w
  refine r_iload_n X dX11_thread_5 rfl ?_
  refine r_iconst X dX11_thread_6 (v := 1) (by decide) ?_
  refine r_icmp_lt X dX11_thread_7 (tgt := 16) (by decide) (fun q => ?_) (fun q => ?_)
  · have w := w.1 q
    refine VB_wk (ls' := [some (.ref l0), none, none]) ?_ w
    exact (And.intro rfl trivial)
  · have w := w.2 q
    refine r_iload_n X dX11_thread_10 rfl ?_
    refine r_bipush X dX11_thread_11 (v := 50) (by decide) ?_
    refine r_icmp_le X dX11_thread_13 (tgt := 21) (by decide) (fun q => ?_) (fun q => ?_)
    · have w := w.1 q
      refine r_aload_n X dX11_thread_21 rfl ?_
      obtain ⟨v2, ev2, w⟩ := w
      obtain ⟨fv2, cv2, qv2⟩ := gN_s ev2
      refine r_getf X dX11_thread_22 fl_X11_42 cv2 qv2 ?_
      obtain ⟨v3, ev3, w⟩ := w
      obtain ⟨fv3, cv3, qv3⟩ := gN_s ev3
      refine r_getf X dX11_thread_25 fl_X11_127 cv3 qv3 ?_
      refine r_aload_n X dX11_thread_28 rfl ?_
      obtain ⟨v4, ev4, w⟩ := w
      obtain ⟨fv4, cv4, qv4⟩ := gN_s ev4
      refine r_getf X dX11_thread_29 fl_X11_42 cv4 qv4 ?_
      obtain ⟨v5, ev5, w⟩ := w
      obtain ⟨fv5, cv5, qv5⟩ := gN_s ev5
      refine r_getf X dX11_thread_32 fl_X11_84 cv5 qv5 ?_
      obtain ⟨fs5, es5, w⟩ := w
      obtain ⟨d5, P5, E5, m5, n5, ct5, w⟩ := w
      obtain ⟨⟨x1, x2, x3⟩, w⟩ := w
      obtain ⟨x4, w⟩ := w
      refine r_callV X (As := [.ref v5]) dX11_thread_35 mk_X4_keep ⟨ml_X11_225, im_X4_keep, se_X4_keep⟩ (oF_s es5) (ci_X4).1 rfl rfl rfl (by simp [Value.category]) ⟨x1, by show 60 * (d5 + 1) + 200 ≤ 60 * D + 200; omega⟩ ⟨x2, x3⟩ ct5 x4 (fun _ z => nomatch z) (fun _ => ⟨x2, x3⟩) (fun v h5 w1 => ?_)
      have w := w v h5 w1
      have hk : (kc + m0) + m5 ≤ mc ∧ (ks + n0) + n5 ≤ ms := ⟨x2, x3⟩
      obtain ⟨rfl, w⟩ := w
      refine r_aload_n X dX11_thread_38 rfl ?_
      obtain ⟨v7, ev7, w⟩ := w
      obtain ⟨fv7, cv7, qv7⟩ := gN_s ev7
      refine r_getf X dX11_thread_39 fl_X11_42 cv7 qv7 ?_
      obtain ⟨v8, ev8, w⟩ := w
      obtain ⟨fv8, cv8, qv8⟩ := gN_s ev8
      refine r_getf X dX11_thread_42 fl_X11_84 cv8 qv8 ?_
      refine r_iload_n X dX11_thread_45 rfl ?_
      refine r_iload_n X dX11_thread_46 rfl ?_
      obtain ⟨fs8, es8, w⟩ := w
      obtain ⟨d8, P8, E8, m8, n8, ct8, w⟩ := w
      obtain ⟨⟨x1, x2, x3⟩, w⟩ := w
      obtain ⟨x4, w⟩ := w
      refine r_callV X (As := [.int l1, .int l2]) dX11_thread_47 mk_X2_giveThread ⟨ml_X11_239, im_X2_giveThread, se_X2_giveThread⟩ (oF_s es8) (ci_X2).1 rfl rfl rfl (by simp [Value.category]) ⟨x1, by show 60 * (d8 + 1) + 200 ≤ 60 * D + 200; omega⟩ ⟨x2, x3⟩ ct8 x4 (fun _ z => nomatch z) (fun _ => ⟨x2, x3⟩) (fun v h8 w1 => ?_)
      have w := w v h8 w1
      have hk : ((kc + m0) + m5) + m8 ≤ mc ∧ ((ks + n0) + n5) + n8 ≤ ms := ⟨x2, x3⟩
      obtain ⟨rfl, w⟩ := w
      refine r_aload_n X dX11_thread_50 rfl ?_
      obtain ⟨v10, ev10, w⟩ := w
      obtain ⟨fv10, cv10, qv10⟩ := gN_s ev10
      refine r_getf X dX11_thread_51 fl_X11_42 cv10 qv10 ?_
      obtain ⟨v11, ev11, w⟩ := w
      obtain ⟨fv11, cv11, qv11⟩ := gN_s ev11
      refine r_getf X dX11_thread_54 fl_X11_84 cv11 qv11 ?_
      obtain ⟨v12, ev12, w⟩ := w
      obtain ⟨fv12, cv12, qv12⟩ := gN_s ev12
      refine r_getf X dX11_thread_57 fl_X11_216 cv12 qv12 ?_
      refine r_iload_n X dX11_thread_60 rfl ?_
      obtain ⟨v13, ev13, w⟩ := w
      obtain ⟨nv13, fv13, cv13, iv13, qv13⟩ := aI_s ev13
      refine r_iald X dX11_thread_61 cv13 iv13 ?_
      rw [qv13]
      exact r_iret X dX11_thread_62 rfl w hk.1 hk.2
    · have w := w.2 q
      refine VB_wk (ls' := [some (.ref l0), none, none]) ?_ w
      exact (And.intro rfl trivial)

set_option maxRecDepth 10000 in
theorem b_X11_thread_16 {g : GG} {K : KX} {D mc ms : Nat} {Pr : Option Value → Hp → Prop} {Pt : String → Hp → Prop} {kc ks : Nat} (hg : GOK g) (hD : 8 ≤ D) (hk : kc ≤ mc ∧ ks ≤ ms) (X : CB g K cX11_thread 3 yX11_thread (some (.int)) []) (l0 : Nat) (h : Hp)
    (w : (∃ fs0, oF h l0 10 = some fs0 ∧ (∃ d0 P0 E0 m0 n0, CT g d0 yX11_refuseAct (wsC yX11_refuseAct cX11_refuseAct 1 (some (.int))) [.ref l0] h m0 n0 P0 E0 ∧ (d0 + 1 ≤ D ∧ kc + m0 ≤ mc ∧ ks + n0 ≤ ms) ∧ (∀ E h', E0 E h' → Pt E h') ∧ (∀ v h0, P0 v h0 → ∃ v2, v = some (.int v2) ∧ Pr (some (.int v2)) h0)))) : VB g K 3 D mc ms Pr Pt kc ks 16 [some (.ref l0), none, none] [] h := by
  obtain ⟨p, e, s, m, args, below, meth, c⟩ := K
  have X : CX g p s m args meth c cX11_thread 3 yX11_thread (some (.int)) [] := X
  have hz := hg s X.gk.z
  show VV g p e (rmm D mc ms) s m args below meth c 3 (QQ g below args s mc ms Pr Pt) kc ks 16 [some (.ref l0), none, none] [] h
  refine r_aload_n X dX11_thread_16 rfl ?_
  obtain ⟨fs0, es0, w⟩ := w
  obtain ⟨d0, P0, E0, m0, n0, ct0, w⟩ := w
  obtain ⟨⟨x1, x2, x3⟩, w⟩ := w
  obtain ⟨x4, w⟩ := w
  refine r_callV X (As := []) dX11_thread_17 mk_X11_refuseAct ⟨ml_X11_221, im_X11_refuseAct, se_X11_refuseAct⟩ (oF_s es0) (ci_X11).1 rfl rfl rfl (by simp [Value.category]) ⟨x1, by show 60 * (d0 + 1) + 200 ≤ 60 * D + 200; omega⟩ ⟨x2, x3⟩ ct0 x4 (fun _ z => nomatch z) (fun _ => ⟨x2, x3⟩) (fun v h0 w1 => ?_)
  have w := w v h0 w1
  have hk : kc + m0 ≤ mc ∧ ks + n0 ≤ ms := ⟨x2, x3⟩
  obtain ⟨v2, rfl, w⟩ := w
  exact r_iret X dX11_thread_20 rfl w hk.1 hk.2

set_option maxRecDepth 10000 in
theorem b_X11_tight_0 {g : GG} {K : KX} {D mc ms : Nat} {Pr : Option Value → Hp → Prop} {Pt : String → Hp → Prop} {kc ks : Nat} (hg : GOK g) (hD : 8 ≤ D) (hk : kc ≤ mc ∧ ks ≤ ms) (X : CB g K cX11_tight 7 yX11_tight (some (.int)) []) (l0 : Nat) (l1 : Int32) (l2 : Int32) (h : Hp)
    (w : (∃ d0 P0 E0 m0 n0, CT g d0 yX11_needWhat (wsC yX11_needWhat cX11_needWhat 2 none) [.int l2, .int ((1 : Int32))] h m0 n0 P0 E0 ∧ (d0 + 1 ≤ D ∧ kc + m0 ≤ mc ∧ ks + n0 ≤ ms) ∧ (∀ E h', E0 E h' → Pt E h') ∧ (∀ v h0, P0 v h0 → v = none ∧ ((l1 < (1 : Int32) → VB g K 7 D mc ms Pr Pt ((kc + m0)) ((ks + n0)) 16 [none, none, none, none, none, none, none] [] h0) ∧ (¬ l1 < (1 : Int32) → ((l1 ≤ (12 : Int32) → (∃ v2, gN h0 l0 10 6 = some v2 ∧ (∃ v3, gI h0 v2 9 0 = some v3 ∧ ((l1 ≤ v3 → VB g K 7 D mc ms Pr Pt ((kc + m0)) ((ks + n0)) 48 [some (.ref l0), some (.int l1), some (.int l2), some (.int ((-1 : Int32))), some (.int ((-1 : Int32))), some (.int ((0 : Int32))), none] [] h0) ∧ (¬ l1 ≤ v3 → Pr (some (.int ((-1 : Int32)))) h0))))) ∧ (¬ l1 ≤ (12 : Int32) → VB g K 7 D mc ms Pr Pt ((kc + m0)) ((ks + n0)) 16 [none, none, none, none, none, none, none] [] h0))))))) : VB g K 7 D mc ms Pr Pt kc ks 0 [some (.ref l0), some (.int l1), some (.int l2), none, none, none, none] [] h := by
  obtain ⟨p, e, s, m, args, below, meth, c⟩ := K
  have X : CX g p s m args meth c cX11_tight 7 yX11_tight (some (.int)) [] := X
  have hz := hg s X.gk.z
  show VV g p e (rmm D mc ms) s m args below meth c 7 (QQ g below args s mc ms Pr Pt) kc ks 0 [some (.ref l0), some (.int l1), some (.int l2), none, none, none, none] [] h
  refine r_iload_n X dX11_tight_0 rfl ?_
  refine r_iconst X dX11_tight_1 (v := 1) (by decide) ?_
  obtain ⟨d0, P0, E0, m0, n0, ct0, w⟩ := w
  obtain ⟨⟨x1, x2, x3⟩, w⟩ := w
  obtain ⟨x4, w⟩ := w
  refine r_callS X (As := [.int l2, .int ((1 : Int32))]) dX11_tight_2 mk_X11_needWhat ⟨ml_X11_250, sm_X11_needWhat⟩ rfl rfl (by simp [Value.category]) ⟨x1, by show 60 * (d0 + 1) + 200 ≤ 60 * D + 200; omega⟩ ⟨x2, x3⟩ ct0 x4 (fun _ z => nomatch z) (fun _ => ⟨x2, x3⟩) (fun v h0 w1 => ?_)
  have w := w v h0 w1
  have hk : kc + m0 ≤ mc ∧ ks + n0 ≤ ms := ⟨x2, x3⟩
  obtain ⟨rfl, w⟩ := w
  refine r_iload_n X dX11_tight_5 rfl ?_
  refine r_iconst X dX11_tight_6 (v := 1) (by decide) ?_
  refine r_icmp_lt X dX11_tight_7 (tgt := 16) (by decide) (fun q => ?_) (fun q => ?_)
  · have w := w.1 q
    refine VB_wk (ls' := [none, none, none, none, none, none, none]) ?_ w
    exact trivial
  · have w := w.2 q
    refine r_iload_n X dX11_tight_10 rfl ?_
    refine r_bipush X dX11_tight_11 (v := 12) (by decide) ?_
    refine r_icmp_le X dX11_tight_13 (tgt := 27) (by decide) (fun q => ?_) (fun q => ?_)
    · have w := w.1 q
      refine r_iload_n X dX11_tight_27 rfl ?_
      refine r_aload_n X dX11_tight_28 rfl ?_
      obtain ⟨v2, ev2, w⟩ := w
      obtain ⟨fv2, cv2, qv2⟩ := gN_s ev2
      refine r_getf X dX11_tight_29 fl_X11_32 cv2 qv2 ?_
      obtain ⟨v3, ev3, w⟩ := w
      obtain ⟨fv3, cv3, qv3⟩ := gI_s ev3
      refine r_getf X dX11_tight_32 fl_X11_141 cv3 qv3 ?_
      refine r_icmp_le X dX11_tight_35 (tgt := 40) (by decide) (fun q => ?_) (fun q => ?_)
      · have w := w.1 q
        refine r_iconst X dX11_tight_40 (v := -1) (by decide) ?_
        refine r_istore_n X dX11_tight_41 (by decide) rfl ?_
        refine r_iconst X dX11_tight_42 (v := -1) (by decide) ?_
        refine r_istore X dX11_tight_43 (by decide) rfl ?_
        refine r_iconst X dX11_tight_45 (v := 0) (by decide) ?_
        refine r_istore X dX11_tight_46 (by decide) rfl ?_
        refine VB_wk (ls' := [some (.ref l0), some (.int l1), some (.int l2), some (.int ((-1 : Int32))), some (.int ((-1 : Int32))), some (.int ((0 : Int32))), none]) ?_ w
        exact (And.intro rfl (And.intro rfl (And.intro rfl (And.intro rfl (And.intro rfl (And.intro rfl trivial))))))
      · have w := w.2 q
        refine r_iconst X dX11_tight_38 (v := -1) (by decide) ?_
        exact r_iret X dX11_tight_39 rfl w hk.1 hk.2
    · have w := w.2 q
      refine VB_wk (ls' := [none, none, none, none, none, none, none]) ?_ w
      exact trivial

set_option maxRecDepth 10000 in
theorem b_X11_tight_16 {g : GG} {K : KX} {D mc ms : Nat} {Pr : Option Value → Hp → Prop} {Pt : String → Hp → Prop} {kc ks : Nat} (hg : GOK g) (hD : 8 ≤ D) (hk : kc ≤ mc ∧ ks ≤ ms) (X : CB g K cX11_tight 7 yX11_tight (some (.int)) [])  (h : Hp)
    (w : ((kc + 1 ≤ mc ∧ ks + 6 ≤ ms) ∧ Pt "java/lang/IllegalArgumentException" (h ++ [dead]))) : VB g K 7 D mc ms Pr Pt kc ks 16 [none, none, none, none, none, none, none] [] h := by
  obtain ⟨p, e, s, m, args, below, meth, c⟩ := K
  have X : CX g p s m args meth c cX11_tight 7 yX11_tight (some (.int)) [] := X
  have hz := hg s X.gk.z
  show VV g p e (rmm D mc ms) s m args below meth c 7 (QQ g below args s mc ms Pr Pt) kc ks 16 [none, none, none, none, none, none, none] [] h
  obtain ⟨q1, w⟩ := w
  exact r_throwSW X hz.1 (hz.2.1 (RX11, 95, 317, 99, "java/lang/IllegalArgumentException", "no row is so long") (by decide)) dX11_tight_16 dX11_tight_19 dX11_tight_20 dX11_tight_23 dX11_tight_26 (fun _ z => nomatch z) (by refine ⟨?_, ?_, q1.1, q1.2⟩ <;> simp [rmm, Value.category] <;> omega) q1.1 q1.2 w

set_option maxRecDepth 10000 in
theorem b_X11_tight_48 {g : GG} {K : KX} {D mc ms : Nat} {Pr : Option Value → Hp → Prop} {Pt : String → Hp → Prop} {kc ks : Nat} (hg : GOK g) (hD : 8 ≤ D) (hk : kc ≤ mc ∧ ks ≤ ms) (X : CB g K cX11_tight 7 yX11_tight (some (.int)) []) (l0 : Nat) (l1 : Int32) (l2 : Int32) (l3 : Int32) (l4 : Int32) (l5 : Int32) (h : Hp)
    (w : (∃ v1, gN h l0 10 6 = some v1 ∧ (∃ v2, gI h v1 9 0 = some v2 ∧ ((v2 ≤ l5 → ((¬ l2 = 0 → Pr (some (.int l4)) h) ∧ (l2 = 0 → Pr (some (.int l3)) h))) ∧ (¬ v2 ≤ l5 → (∃ fs2, oF h l0 10 = some fs2 ∧ (∃ d2 P2 E2 m2 n2, CT g d2 yX11_strainFrom (wsC yX11_strainFrom cX11_strainFrom 6 (some (.int))) [.ref l0, .int l5, .int l1] h m2 n2 P2 E2 ∧ (d2 + 1 ≤ D ∧ kc + m2 ≤ mc ∧ ks + n2 ≤ ms) ∧ (∀ E h', E2 E h' → Pt E h') ∧ (∀ v h2, P2 v h2 → ∃ v4, v = some (.int v4) ∧ ((v4 ≤ l3 → VB g K 7 D mc ms Pr Pt ((kc + m2)) ((ks + n2)) 82 [some (.ref l0), some (.int l1), some (.int l2), some (.int l3), some (.int l4), some (.int l5), none] [] h2) ∧ (¬ v4 ≤ l3 → VB g K 7 D mc ms Pr Pt ((kc + m2)) ((ks + n2)) 82 [some (.ref l0), some (.int l1), some (.int l2), some (.int v4), some (.int l5), some (.int l5), none] [] h2)))))))))) : VB g K 7 D mc ms Pr Pt kc ks 48 [some (.ref l0), some (.int l1), some (.int l2), some (.int l3), some (.int l4), some (.int l5), none] [] h := by
  obtain ⟨p, e, s, m, args, below, meth, c⟩ := K
  have X : CX g p s m args meth c cX11_tight 7 yX11_tight (some (.int)) [] := X
  have hz := hg s X.gk.z
  show VV g p e (rmm D mc ms) s m args below meth c 7 (QQ g below args s mc ms Pr Pt) kc ks 48 [some (.ref l0), some (.int l1), some (.int l2), some (.int l3), some (.int l4), some (.int l5), none] [] h
  refine r_iload X dX11_tight_48 rfl ?_
  refine r_aload_n X dX11_tight_50 rfl ?_
  obtain ⟨v1, ev1, w⟩ := w
  obtain ⟨fv1, cv1, qv1⟩ := gN_s ev1
  refine r_getf X dX11_tight_51 fl_X11_32 cv1 qv1 ?_
  obtain ⟨v2, ev2, w⟩ := w
  obtain ⟨fv2, cv2, qv2⟩ := gI_s ev2
  refine r_getf X dX11_tight_54 fl_X11_141 cv2 qv2 ?_
  refine r_icmp_ge X dX11_tight_57 (tgt := 88) (by decide) (fun q => ?_) (fun q => ?_)
  · have w := w.1 q
    refine r_iload_n X dX11_tight_88 rfl ?_
    refine r_if_ne X dX11_tight_89 (tgt := 96) (by decide) (fun q => ?_) (fun q => ?_)
    · have w := w.1 q
      refine r_iload X dX11_tight_96 rfl ?_
      exact r_iret X dX11_tight_98 rfl w hk.1 hk.2
    · have w := w.2 q
      refine r_iload_n X dX11_tight_92 rfl ?_
      refine r_goto X dX11_tight_93 (tgt := 98) (by decide) ?_
      exact r_iret X dX11_tight_98 rfl w hk.1 hk.2
  · have w := w.2 q
    refine r_aload_n X dX11_tight_60 rfl ?_
    refine r_iload X dX11_tight_61 rfl ?_
    refine r_iload_n X dX11_tight_63 rfl ?_
    obtain ⟨fs2, es2, w⟩ := w
    obtain ⟨d2, P2, E2, m2, n2, ct2, w⟩ := w
    obtain ⟨⟨x1, x2, x3⟩, w⟩ := w
    obtain ⟨x4, w⟩ := w
    refine r_callV X (As := [.int l5, .int l1]) dX11_tight_64 mk_X11_strainFrom ⟨ml_X11_319, im_X11_strainFrom, se_X11_strainFrom⟩ (oF_s es2) (ci_X11).1 rfl rfl rfl (by simp [Value.category]) ⟨x1, by show 60 * (d2 + 1) + 200 ≤ 60 * D + 200; omega⟩ ⟨x2, x3⟩ ct2 x4 (fun _ z => nomatch z) (fun _ => ⟨x2, x3⟩) (fun v h2 w1 => ?_)
    have w := w v h2 w1
    have hk : kc + m2 ≤ mc ∧ ks + n2 ≤ ms := ⟨x2, x3⟩
    obtain ⟨v4, rfl, w⟩ := w
    refine r_istore X dX11_tight_67 (by decide) rfl ?_
    refine r_iload X dX11_tight_69 rfl ?_
    refine r_iload_n X dX11_tight_71 rfl ?_
    refine r_icmp_le X dX11_tight_72 (tgt := 82) (by decide) (fun q => ?_) (fun q => ?_)
    · have w := w.1 q
      refine VB_wk (ls' := [some (.ref l0), some (.int l1), some (.int l2), some (.int l3), some (.int l4), some (.int l5), none]) ?_ w
      exact (And.intro rfl (And.intro rfl (And.intro rfl (And.intro rfl (And.intro rfl (And.intro rfl trivial))))))
    · have w := w.2 q
      refine r_iload X dX11_tight_75 rfl ?_
      refine r_istore_n X dX11_tight_77 (by decide) rfl ?_
      refine r_iload X dX11_tight_78 rfl ?_
      refine r_istore X dX11_tight_80 (by decide) rfl ?_
      refine VB_wk (ls' := [some (.ref l0), some (.int l1), some (.int l2), some (.int v4), some (.int l5), some (.int l5), none]) ?_ w
      exact (And.intro rfl (And.intro rfl (And.intro rfl (And.intro rfl (And.intro rfl (And.intro rfl trivial))))))

set_option maxRecDepth 10000 in
theorem b_X11_tight_82 {g : GG} {K : KX} {D mc ms : Nat} {Pr : Option Value → Hp → Prop} {Pt : String → Hp → Prop} {kc ks : Nat} (hg : GOK g) (hD : 8 ≤ D) (hk : kc ≤ mc ∧ ks ≤ ms) (X : CB g K cX11_tight 7 yX11_tight (some (.int)) []) (l0 : Nat) (l1 : Int32) (l2 : Int32) (l3 : Int32) (l4 : Int32) (l5 : Int32) (h : Hp)
    (w : VB g K 7 D mc ms Pr Pt kc ks 48 [some (.ref l0), some (.int l1), some (.int l2), some (.int l3), some (.int l4), some (.int ((l5 + 1))), none] [] h) : VB g K 7 D mc ms Pr Pt kc ks 82 [some (.ref l0), some (.int l1), some (.int l2), some (.int l3), some (.int l4), some (.int l5), none] [] h := by
  obtain ⟨p, e, s, m, args, below, meth, c⟩ := K
  have X : CX g p s m args meth c cX11_tight 7 yX11_tight (some (.int)) [] := X
  have hz := hg s X.gk.z
  show VV g p e (rmm D mc ms) s m args below meth c 7 (QQ g below args s mc ms Pr Pt) kc ks 82 [some (.ref l0), some (.int l1), some (.int l2), some (.int l3), some (.int l4), some (.int l5), none] [] h
  refine r_iinc X dX11_tight_82 rfl (v := (l5 + 1)) rfl (by decide) rfl ?_
  refine r_goto X dX11_tight_85 (tgt := 48) (by decide) ?_
  refine VB_wk (ls' := [some (.ref l0), some (.int l1), some (.int l2), some (.int l3), some (.int l4), some (.int ((l5 + 1))), none]) ?_ w
  exact (And.intro rfl (And.intro rfl (And.intro rfl (And.intro rfl (And.intro rfl (And.intro rfl trivial))))))

set_option maxRecDepth 10000 in
theorem b_X11_toHold_0 {g : GG} {K : KX} {D mc ms : Nat} {Pr : Option Value → Hp → Prop} {Pt : String → Hp → Prop} {kc ks : Nat} (hg : GOK g) (hD : 8 ≤ D) (hk : kc ≤ mc ∧ ks ≤ ms) (X : CB g K cX11_toHold 5 yX11_toHold (some (.int)) []) (l0 : Nat) (l1 : Int32) (l2 : Int32) (h : Hp)
    (w : (∃ fs0, oF h l0 10 = some fs0 ∧ (∃ d0 P0 E0 m0 n0, CT g d0 yX11_needStretch (wsC yX11_needStretch cX11_needStretch 2 none) [.ref l0, .int l1] h m0 n0 P0 E0 ∧ (d0 + 1 ≤ D ∧ kc + m0 ≤ mc ∧ ks + n0 ≤ ms) ∧ (∀ E h', E0 E h' → Pt E h') ∧ (∀ v h0, P0 v h0 → v = none ∧ (∃ d1 P1 E1 m1 n1, CT g d1 yX11_needDays (wsC yX11_needDays cX11_needDays 2 none) [.int l2, .int ((1 : Int32))] h0 m1 n1 P1 E1 ∧ (d1 + 1 ≤ D ∧ (kc + m0) + m1 ≤ mc ∧ (ks + n0) + n1 ≤ ms) ∧ (∀ E h', E1 E h' → Pt E h') ∧ (∀ v h1, P1 v h1 → v = none ∧ (∃ v3, gN h1 l0 10 8 = some v3 ∧ (∃ v4, gN h1 v3 3 0 = some v4 ∧ (∃ v5, gN h1 v4 2 2 = some v5 ∧ (∃ v6, aI h1 0 v5 l1 = some v6 ∧ VB g K 5 D mc ms Pr Pt (((kc + m0) + m1)) (((ks + n0) + n1)) 29 [some (.ref l0), some (.int l1), some (.int l2), some (.int (((99 : Int32) - v6))), some (.int ((0 : Int32)))] [] h1)))))))))) : VB g K 5 D mc ms Pr Pt kc ks 0 [some (.ref l0), some (.int l1), some (.int l2), none, none] [] h := by
  obtain ⟨p, e, s, m, args, below, meth, c⟩ := K
  have X : CX g p s m args meth c cX11_toHold 5 yX11_toHold (some (.int)) [] := X
  have hz := hg s X.gk.z
  show VV g p e (rmm D mc ms) s m args below meth c 5 (QQ g below args s mc ms Pr Pt) kc ks 0 [some (.ref l0), some (.int l1), some (.int l2), none, none] [] h
  refine r_aload_n X dX11_toHold_0 rfl ?_
  refine r_iload_n X dX11_toHold_1 rfl ?_
  obtain ⟨fs0, es0, w⟩ := w
  obtain ⟨d0, P0, E0, m0, n0, ct0, w⟩ := w
  obtain ⟨⟨x1, x2, x3⟩, w⟩ := w
  obtain ⟨x4, w⟩ := w
  refine r_callV X (As := [.int l1]) dX11_toHold_2 mk_X11_needStretch ⟨ml_X11_179, im_X11_needStretch, se_X11_needStretch⟩ (oF_s es0) (ci_X11).1 rfl rfl rfl (by simp [Value.category]) ⟨x1, by show 60 * (d0 + 1) + 200 ≤ 60 * D + 200; omega⟩ ⟨x2, x3⟩ ct0 x4 (fun _ z => nomatch z) (fun _ => ⟨x2, x3⟩) (fun v h0 w1 => ?_)
  have w := w v h0 w1
  have hk : kc + m0 ≤ mc ∧ ks + n0 ≤ ms := ⟨x2, x3⟩
  obtain ⟨rfl, w⟩ := w
  refine r_iload_n X dX11_toHold_5 rfl ?_
  refine r_iconst X dX11_toHold_6 (v := 1) (by decide) ?_
  obtain ⟨d1, P1, E1, m1, n1, ct1, w⟩ := w
  obtain ⟨⟨x1, x2, x3⟩, w⟩ := w
  obtain ⟨x4, w⟩ := w
  refine r_callS X (As := [.int l2, .int ((1 : Int32))]) dX11_toHold_7 mk_X11_needDays ⟨ml_X11_253, sm_X11_needDays⟩ rfl rfl (by simp [Value.category]) ⟨x1, by show 60 * (d1 + 1) + 200 ≤ 60 * D + 200; omega⟩ ⟨x2, x3⟩ ct1 x4 (fun _ z => nomatch z) (fun _ => ⟨x2, x3⟩) (fun v h1 w1 => ?_)
  have w := w v h1 w1
  have hk : (kc + m0) + m1 ≤ mc ∧ (ks + n0) + n1 ≤ ms := ⟨x2, x3⟩
  obtain ⟨rfl, w⟩ := w
  refine r_bipush X dX11_toHold_10 (v := 99) (by decide) ?_
  refine r_aload_n X dX11_toHold_12 rfl ?_
  obtain ⟨v3, ev3, w⟩ := w
  obtain ⟨fv3, cv3, qv3⟩ := gN_s ev3
  refine r_getf X dX11_toHold_13 fl_X11_42 cv3 qv3 ?_
  obtain ⟨v4, ev4, w⟩ := w
  obtain ⟨fv4, cv4, qv4⟩ := gN_s ev4
  refine r_getf X dX11_toHold_16 fl_X11_84 cv4 qv4 ?_
  obtain ⟨v5, ev5, w⟩ := w
  obtain ⟨fv5, cv5, qv5⟩ := gN_s ev5
  refine r_getf X dX11_toHold_19 fl_X11_185 cv5 qv5 ?_
  refine r_iload_n X dX11_toHold_22 rfl ?_
  obtain ⟨v6, ev6, w⟩ := w
  obtain ⟨nv6, fv6, cv6, iv6, qv6⟩ := aI_s ev6
  refine r_iald X dX11_toHold_23 cv6 iv6 ?_
  rw [qv6]
  refine r_isub X dX11_toHold_24 ?_
  refine r_istore_n X dX11_toHold_25 (by decide) rfl ?_
  refine r_iconst X dX11_toHold_26 (v := 0) (by decide) ?_
  refine r_istore X dX11_toHold_27 (by decide) rfl ?_
  refine VB_wk (ls' := [some (.ref l0), some (.int l1), some (.int l2), some (.int (((99 : Int32) - v6))), some (.int ((0 : Int32)))]) ?_ w
  exact (And.intro rfl (And.intro rfl (And.intro rfl (And.intro rfl (And.intro rfl trivial)))))

set_option maxRecDepth 10000 in
theorem b_X11_toHold_29 {g : GG} {K : KX} {D mc ms : Nat} {Pr : Option Value → Hp → Prop} {Pt : String → Hp → Prop} {kc ks : Nat} (hg : GOK g) (hD : 8 ≤ D) (hk : kc ≤ mc ∧ ks ≤ ms) (X : CB g K cX11_toHold 5 yX11_toHold (some (.int)) []) (l0 : Nat) (l1 : Int32) (l2 : Int32) (l3 : Int32) (l4 : Int32) (h : Hp)
    (w : ((l3 < l4 → Pr (some (.int ((-1 : Int32)))) h) ∧ (¬ l3 < l4 → (∃ v1, gN h l0 10 11 = some v1 ∧ (∃ v2, gN h l0 10 8 = some v2 ∧ (∃ v3, gN h v2 3 0 = some v3 ∧ (∃ fs3, oF h v1 2 = some fs3 ∧ (∃ d3 P3 E3 m3 n3, CT g d3 yX2_copyFrom (wsC yX2_copyFrom cX2_copyFrom 2 none) [.ref v1, .ref v3] h m3 n3 P3 E3 ∧ (d3 + 1 ≤ D ∧ kc + m3 ≤ mc ∧ ks + n3 ≤ ms) ∧ (∀ E h', E3 E h' → Pt E h') ∧ (∀ v h3, P3 v h3 → v = none ∧ (∃ v5, gN h3 l0 10 11 = some v5 ∧ (∃ v6, gN h3 v5 2 2 = some v6 ∧ (∃ v7, aI h3 0 v6 l1 = some v7 ∧ (∃ h8, uI h3 0 v6 l1 ((v7 + l4)) = some h8 ∧ (∃ fs8, oF h8 l0 10 = some fs8 ∧ (∃ d8 P8 E8 m8 n8, CT g d8 yX11_staysClosed (wsC yX11_staysClosed cX11_staysClosed 4 (some (.boolean))) [.ref l0, .int l1, .int l2] h8 m8 n8 P8 E8 ∧ (d8 + 1 ≤ D ∧ (kc + m3) + m8 ≤ mc ∧ (ks + n3) + n8 ≤ ms) ∧ (∀ E h', E8 E h' → Pt E h') ∧ (∀ v h8, P8 v h8 → ∃ v10, v = some (.int v10) ∧ ((v10 = 0 → VB g K 5 D mc ms Pr Pt (((kc + m3) + m8)) (((ks + n3) + n8)) 29 [some (.ref l0), some (.int l1), some (.int l2), some (.int l3), some (.int ((l4 + 1)))] [] h8) ∧ (¬ v10 = 0 → Pr (some (.int l4)) h8)))))))))))))))))) : VB g K 5 D mc ms Pr Pt kc ks 29 [some (.ref l0), some (.int l1), some (.int l2), some (.int l3), some (.int l4)] [] h := by
  obtain ⟨p, e, s, m, args, below, meth, c⟩ := K
  have X : CX g p s m args meth c cX11_toHold 5 yX11_toHold (some (.int)) [] := X
  have hz := hg s X.gk.z
  show VV g p e (rmm D mc ms) s m args below meth c 5 (QQ g below args s mc ms Pr Pt) kc ks 29 [some (.ref l0), some (.int l1), some (.int l2), some (.int l3), some (.int l4)] [] h
  refine r_iload X dX11_toHold_29 rfl ?_
  refine r_iload_n X dX11_toHold_31 rfl ?_
  refine r_icmp_gt X dX11_toHold_32 (tgt := 81) (by decide) (fun q => ?_) (fun q => ?_)
  · have w := w.1 q
    refine r_iconst X dX11_toHold_81 (v := -1) (by decide) ?_
    exact r_iret X dX11_toHold_82 rfl w hk.1 hk.2
  · have w := w.2 q
    refine r_aload_n X dX11_toHold_35 rfl ?_
    obtain ⟨v1, ev1, w⟩ := w
    obtain ⟨fv1, cv1, qv1⟩ := gN_s ev1
    refine r_getf X dX11_toHold_36 fl_X11_56 cv1 qv1 ?_
    refine r_aload_n X dX11_toHold_39 rfl ?_
    obtain ⟨v2, ev2, w⟩ := w
    obtain ⟨fv2, cv2, qv2⟩ := gN_s ev2
    refine r_getf X dX11_toHold_40 fl_X11_42 cv2 qv2 ?_
    obtain ⟨v3, ev3, w⟩ := w
    obtain ⟨fv3, cv3, qv3⟩ := gN_s ev3
    refine r_getf X dX11_toHold_43 fl_X11_84 cv3 qv3 ?_
    obtain ⟨fs3, es3, w⟩ := w
    obtain ⟨d3, P3, E3, m3, n3, ct3, w⟩ := w
    obtain ⟨⟨x1, x2, x3⟩, w⟩ := w
    obtain ⟨x4, w⟩ := w
    refine r_callV X (As := [.ref v3]) dX11_toHold_46 mk_X2_copyFrom ⟨ml_X11_123, im_X2_copyFrom, se_X2_copyFrom⟩ (oF_s es3) (ci_X2).1 rfl rfl rfl (by simp [Value.category]) ⟨x1, by show 60 * (d3 + 1) + 200 ≤ 60 * D + 200; omega⟩ ⟨x2, x3⟩ ct3 x4 (fun _ z => nomatch z) (fun _ => ⟨x2, x3⟩) (fun v h3 w1 => ?_)
    have w := w v h3 w1
    have hk : kc + m3 ≤ mc ∧ ks + n3 ≤ ms := ⟨x2, x3⟩
    obtain ⟨rfl, w⟩ := w
    refine r_aload_n X dX11_toHold_49 rfl ?_
    obtain ⟨v5, ev5, w⟩ := w
    obtain ⟨fv5, cv5, qv5⟩ := gN_s ev5
    refine r_getf X dX11_toHold_50 fl_X11_56 cv5 qv5 ?_
    obtain ⟨v6, ev6, w⟩ := w
    obtain ⟨fv6, cv6, qv6⟩ := gN_s ev6
    refine r_getf X dX11_toHold_53 fl_X11_185 cv6 qv6 ?_
    refine r_iload_n X dX11_toHold_56 rfl ?_
    refine r_dup2 X dX11_toHold_57 rfl rfl ?_
    obtain ⟨v7, ev7, w⟩ := w
    obtain ⟨nv7, fv7, cv7, iv7, qv7⟩ := aI_s ev7
    refine r_iald X dX11_toHold_58 cv7 iv7 ?_
    rw [qv7]
    refine r_iload X dX11_toHold_59 rfl ?_
    refine r_iadd X dX11_toHold_61 ?_
    obtain ⟨h8, eh8, w⟩ := w
    obtain ⟨nh8, fh8, ch8, ih8, rh8⟩ := uI_s eh8
    subst rh8
    refine r_iast X dX11_toHold_62 ch8 ih8 ?_
    refine r_aload_n X dX11_toHold_63 rfl ?_
    refine r_iload_n X dX11_toHold_64 rfl ?_
    refine r_iload_n X dX11_toHold_65 rfl ?_
    obtain ⟨fs8, es8, w⟩ := w
    obtain ⟨d8, P8, E8, m8, n8, ct8, w⟩ := w
    obtain ⟨⟨x1, x2, x3⟩, w⟩ := w
    obtain ⟨x4, w⟩ := w
    refine r_callV X (As := [.int l1, .int l2]) dX11_toHold_66 mk_X11_staysClosed ⟨ml_X11_282, im_X11_staysClosed, se_X11_staysClosed⟩ (oF_s es8) (ci_X11).1 rfl rfl rfl (by simp [Value.category]) ⟨x1, by show 60 * (d8 + 1) + 200 ≤ 60 * D + 200; omega⟩ ⟨x2, x3⟩ ct8 x4 (fun _ z => nomatch z) (fun _ => ⟨x2, x3⟩) (fun v h8 w1 => ?_)
    have w := w v h8 w1
    have hk : (kc + m3) + m8 ≤ mc ∧ (ks + n3) + n8 ≤ ms := ⟨x2, x3⟩
    obtain ⟨v10, rfl, w⟩ := w
    refine r_if_eq X dX11_toHold_69 (tgt := 75) (by decide) (fun q => ?_) (fun q => ?_)
    · have w := w.1 q
      refine r_iinc X dX11_toHold_75 rfl (v := (l4 + 1)) rfl (by decide) rfl ?_
      refine r_goto X dX11_toHold_78 (tgt := 29) (by decide) ?_
      refine VB_wk (ls' := [some (.ref l0), some (.int l1), some (.int l2), some (.int l3), some (.int ((l4 + 1)))]) ?_ w
      exact (And.intro rfl (And.intro rfl (And.intro rfl (And.intro rfl (And.intro rfl trivial)))))
    · have w := w.2 q
      refine r_iload X dX11_toHold_72 rfl ?_
      exact r_iret X dX11_toHold_74 rfl w hk.1 hk.2

set_option maxRecDepth 10000 in
theorem b_X11_toSend_0 {g : GG} {K : KX} {D mc ms : Nat} {Pr : Option Value → Hp → Prop} {Pt : String → Hp → Prop} {kc ks : Nat} (hg : GOK g) (hD : 8 ≤ D) (hk : kc ≤ mc ∧ ks ≤ ms) (X : CB g K cX11_toSend 8 yX11_toSend (some (.int)) []) (l0 : Nat) (l1 : Int32) (l2 : Int32) (l3 : Int32) (h : Hp)
    (w : (∃ fs0, oF h l0 10 = some fs0 ∧ (∃ d0 P0 E0 m0 n0, CT g d0 yX11_needWoman (wsC yX11_needWoman cX11_needWoman 2 none) [.ref l0, .int l1] h m0 n0 P0 E0 ∧ (d0 + 1 ≤ D ∧ kc + m0 ≤ mc ∧ ks + n0 ≤ ms) ∧ (∀ E h', E0 E h' → Pt E h') ∧ (∀ v h0, P0 v h0 → v = none ∧ (∃ d1 P1 E1 m1 n1, CT g d1 yX11_needWhat (wsC yX11_needWhat cX11_needWhat 2 none) [.int l3, .int ((1 : Int32))] h0 m1 n1 P1 E1 ∧ (d1 + 1 ≤ D ∧ (kc + m0) + m1 ≤ mc ∧ (ks + n0) + n1 ≤ ms) ∧ (∀ E h', E1 E h' → Pt E h') ∧ (∀ v h1, P1 v h1 → v = none ∧ (∃ d2 P2 E2 m2 n2, CT g d2 yX11_needDays (wsC yX11_needDays cX11_needDays 2 none) [.int l2, .int ((1 : Int32))] h1 m2 n2 P2 E2 ∧ (d2 + 1 ≤ D ∧ ((kc + m0) + m1) + m2 ≤ mc ∧ ((ks + n0) + n1) + n2 ≤ ms) ∧ (∀ E h', E2 E h' → Pt E h') ∧ (∀ v h2, P2 v h2 → v = none ∧ VB g K 8 D mc ms Pr Pt ((((kc + m0) + m1) + m2)) ((((ks + n0) + n1) + n2)) 25 [some (.ref l0), some (.int l1), some (.int l2), some (.int l3), some (.int ((0 : Int32))), some (.int ((13 : Int32))), some (.int ((0 : Int32))), none] [] h2)))))))) : VB g K 8 D mc ms Pr Pt kc ks 0 [some (.ref l0), some (.int l1), some (.int l2), some (.int l3), none, none, none, none] [] h := by
  obtain ⟨p, e, s, m, args, below, meth, c⟩ := K
  have X : CX g p s m args meth c cX11_toSend 8 yX11_toSend (some (.int)) [] := X
  have hz := hg s X.gk.z
  show VV g p e (rmm D mc ms) s m args below meth c 8 (QQ g below args s mc ms Pr Pt) kc ks 0 [some (.ref l0), some (.int l1), some (.int l2), some (.int l3), none, none, none, none] [] h
  refine r_aload_n X dX11_toSend_0 rfl ?_
  refine r_iload_n X dX11_toSend_1 rfl ?_
  obtain ⟨fs0, es0, w⟩ := w
  obtain ⟨d0, P0, E0, m0, n0, ct0, w⟩ := w
  obtain ⟨⟨x1, x2, x3⟩, w⟩ := w
  obtain ⟨x4, w⟩ := w
  refine r_callV X (As := [.int l1]) dX11_toSend_2 mk_X11_needWoman ⟨ml_X11_207, im_X11_needWoman, se_X11_needWoman⟩ (oF_s es0) (ci_X11).1 rfl rfl rfl (by simp [Value.category]) ⟨x1, by show 60 * (d0 + 1) + 200 ≤ 60 * D + 200; omega⟩ ⟨x2, x3⟩ ct0 x4 (fun _ z => nomatch z) (fun _ => ⟨x2, x3⟩) (fun v h0 w1 => ?_)
  have w := w v h0 w1
  have hk : kc + m0 ≤ mc ∧ ks + n0 ≤ ms := ⟨x2, x3⟩
  obtain ⟨rfl, w⟩ := w
  refine r_iload_n X dX11_toSend_5 rfl ?_
  refine r_iconst X dX11_toSend_6 (v := 1) (by decide) ?_
  obtain ⟨d1, P1, E1, m1, n1, ct1, w⟩ := w
  obtain ⟨⟨x1, x2, x3⟩, w⟩ := w
  obtain ⟨x4, w⟩ := w
  refine r_callS X (As := [.int l3, .int ((1 : Int32))]) dX11_toSend_7 mk_X11_needWhat ⟨ml_X11_250, sm_X11_needWhat⟩ rfl rfl (by simp [Value.category]) ⟨x1, by show 60 * (d1 + 1) + 200 ≤ 60 * D + 200; omega⟩ ⟨x2, x3⟩ ct1 x4 (fun _ z => nomatch z) (fun _ => ⟨x2, x3⟩) (fun v h1 w1 => ?_)
  have w := w v h1 w1
  have hk : (kc + m0) + m1 ≤ mc ∧ (ks + n0) + n1 ≤ ms := ⟨x2, x3⟩
  obtain ⟨rfl, w⟩ := w
  refine r_iload_n X dX11_toSend_10 rfl ?_
  refine r_iconst X dX11_toSend_11 (v := 1) (by decide) ?_
  obtain ⟨d2, P2, E2, m2, n2, ct2, w⟩ := w
  obtain ⟨⟨x1, x2, x3⟩, w⟩ := w
  obtain ⟨x4, w⟩ := w
  refine r_callS X (As := [.int l2, .int ((1 : Int32))]) dX11_toSend_12 mk_X11_needDays ⟨ml_X11_253, sm_X11_needDays⟩ rfl rfl (by simp [Value.category]) ⟨x1, by show 60 * (d2 + 1) + 200 ≤ 60 * D + 200; omega⟩ ⟨x2, x3⟩ ct2 x4 (fun _ z => nomatch z) (fun _ => ⟨x2, x3⟩) (fun v h2 w1 => ?_)
  have w := w v h2 w1
  have hk : ((kc + m0) + m1) + m2 ≤ mc ∧ ((ks + n0) + n1) + n2 ≤ ms := ⟨x2, x3⟩
  obtain ⟨rfl, w⟩ := w
  refine r_iconst X dX11_toSend_15 (v := 0) (by decide) ?_
  refine r_istore X dX11_toSend_16 (by decide) rfl ?_
  refine r_bipush X dX11_toSend_18 (v := 13) (by decide) ?_
  refine r_istore X dX11_toSend_20 (by decide) rfl ?_
  refine r_iconst X dX11_toSend_22 (v := 0) (by decide) ?_
  refine r_istore X dX11_toSend_23 (by decide) rfl ?_
  refine VB_wk (ls' := [some (.ref l0), some (.int l1), some (.int l2), some (.int l3), some (.int ((0 : Int32))), some (.int ((13 : Int32))), some (.int ((0 : Int32))), none]) ?_ w
  exact (And.intro rfl (And.intro rfl (And.intro rfl (And.intro rfl (And.intro rfl (And.intro rfl (And.intro rfl trivial)))))))

set_option maxRecDepth 10000 in
theorem b_X11_toSend_25 {g : GG} {K : KX} {D mc ms : Nat} {Pr : Option Value → Hp → Prop} {Pt : String → Hp → Prop} {kc ks : Nat} (hg : GOK g) (hD : 8 ≤ D) (hk : kc ≤ mc ∧ ks ≤ ms) (X : CB g K cX11_toSend 8 yX11_toSend (some (.int)) []) (l0 : Nat) (l1 : Int32) (l2 : Int32) (l3 : Int32) (l4 : Int32) (l5 : Int32) (l6 : Int32) (h : Hp)
    (w : (∃ v1, gN h l0 10 6 = some v1 ∧ (∃ v2, gI h v1 9 0 = some v2 ∧ ((v2 ≤ l6 → ((¬ l3 = 0 → Pr (some (.int l5)) h) ∧ (l3 = 0 → Pr (some (.int l4)) h))) ∧ (¬ v2 ≤ l6 → (∃ v3, gN h l0 10 11 = some v3 ∧ (∃ v4, gN h l0 10 8 = some v4 ∧ (∃ v5, gN h v4 3 0 = some v5 ∧ (∃ fs5, oF h v3 2 = some fs5 ∧ (∃ d5 P5 E5 m5 n5, CT g d5 yX2_copyFrom (wsC yX2_copyFrom cX2_copyFrom 2 none) [.ref v3, .ref v5] h m5 n5 P5 E5 ∧ (d5 + 1 ≤ D ∧ kc + m5 ≤ mc ∧ ks + n5 ≤ ms) ∧ (∀ E h', E5 E h' → Pt E h') ∧ (∀ v h5, P5 v h5 → v = none ∧ (∃ v7, gN h5 l0 10 11 = some v7 ∧ (∃ v8, gN h5 v7 2 4 = some v8 ∧ (∃ h9, uI h5 0 v8 l1 l6 = some h9 ∧ (∃ v10, gN h9 l0 10 11 = some v10 ∧ (∃ v11, gN h9 l0 10 6 = some v11 ∧ (∃ fs11, oF h9 v10 2 = some fs11 ∧ (∃ d11 P11 E11 m11 n11, CT g d11 yX2_passDays (wsC yX2_passDays cX2_passDays 4 none) [.ref v10, .ref v11, .int l2] h9 m11 n11 P11 E11 ∧ (d11 + 1 ≤ D ∧ (kc + m5) + m11 ≤ mc ∧ (ks + n5) + n11 ≤ ms) ∧ (∀ E h', E11 E h' → Pt E h') ∧ (∀ v h11, P11 v h11 → v = none ∧ (∃ v13, gN h11 l0 10 11 = some v13 ∧ (∃ v14, gN h11 l0 10 6 = some v14 ∧ (∃ fs14, oF h11 v13 2 = some fs14 ∧ (∃ d14 P14 E14 m14 n14, CT g d14 yX2_openBits (wsC yX2_openBits cX2_openBits 4 (some (.int))) [.ref v13, .ref v14] h11 m14 n14 P14 E14 ∧ (d14 + 1 ≤ D ∧ ((kc + m5) + m11) + m14 ≤ mc ∧ ((ks + n5) + n11) + n14 ≤ ms) ∧ (∀ E h', E14 E h' → Pt E h') ∧ (∀ v h14, P14 v h14 → ∃ v16, v = some (.int v16) ∧ (∃ d16 P16 E16 m16 n16, CT g d16 yJ6_bitCount_0f7a4 (wsC yJ6_bitCount_0f7a4 cJ6_bitCount_0f7a4 1 (some (.int))) [.int v16] h14 m16 n16 P16 E16 ∧ (d16 + 1 ≤ D ∧ (((kc + m5) + m11) + m14) + m16 ≤ mc ∧ (((ks + n5) + n11) + n14) + n16 ≤ ms) ∧ (∀ E h', E16 E h' → Pt E h') ∧ (∀ v h16, P16 v h16 → ∃ v18, v = some (.int v18) ∧ ((l5 ≤ v18 → VB g K 8 D mc ms Pr Pt (((((kc + m5) + m11) + m14) + m16)) (((((ks + n5) + n11) + n14) + n16)) 105 [some (.ref l0), some (.int l1), some (.int l2), some (.int l3), some (.int l4), some (.int l5), some (.int l6), none] [] h16) ∧ (¬ l5 ≤ v18 → VB g K 8 D mc ms Pr Pt (((((kc + m5) + m11) + m14) + m16)) (((((ks + n5) + n11) + n14) + n16)) 105 [some (.ref l0), some (.int l1), some (.int l2), some (.int l3), some (.int l6), some (.int v18), some (.int l6), none] [] h16)))))))))))))))))))))))))))) : VB g K 8 D mc ms Pr Pt kc ks 25 [some (.ref l0), some (.int l1), some (.int l2), some (.int l3), some (.int l4), some (.int l5), some (.int l6), none] [] h := by
  obtain ⟨p, e, s, m, args, below, meth, c⟩ := K
  have X : CX g p s m args meth c cX11_toSend 8 yX11_toSend (some (.int)) [] := X
  have hz := hg s X.gk.z
  show VV g p e (rmm D mc ms) s m args below meth c 8 (QQ g below args s mc ms Pr Pt) kc ks 25 [some (.ref l0), some (.int l1), some (.int l2), some (.int l3), some (.int l4), some (.int l5), some (.int l6), none] [] h
  refine r_iload X dX11_toSend_25 rfl ?_
  refine r_aload_n X dX11_toSend_27 rfl ?_
  obtain ⟨v1, ev1, w⟩ := w
  obtain ⟨fv1, cv1, qv1⟩ := gN_s ev1
  refine r_getf X dX11_toSend_28 fl_X11_32 cv1 qv1 ?_
  obtain ⟨v2, ev2, w⟩ := w
  obtain ⟨fv2, cv2, qv2⟩ := gI_s ev2
  refine r_getf X dX11_toSend_31 fl_X11_141 cv2 qv2 ?_
  refine r_icmp_ge X dX11_toSend_34 (tgt := 111) (by decide) (fun q => ?_) (fun q => ?_)
  · have w := w.1 q
    refine r_iload_n X dX11_toSend_111 rfl ?_
    refine r_if_ne X dX11_toSend_112 (tgt := 120) (by decide) (fun q => ?_) (fun q => ?_)
    · have w := w.1 q
      refine r_iload X dX11_toSend_120 rfl ?_
      exact r_iret X dX11_toSend_122 rfl w hk.1 hk.2
    · have w := w.2 q
      refine r_iload X dX11_toSend_115 rfl ?_
      refine r_goto X dX11_toSend_117 (tgt := 122) (by decide) ?_
      exact r_iret X dX11_toSend_122 rfl w hk.1 hk.2
  · have w := w.2 q
    refine r_aload_n X dX11_toSend_37 rfl ?_
    obtain ⟨v3, ev3, w⟩ := w
    obtain ⟨fv3, cv3, qv3⟩ := gN_s ev3
    refine r_getf X dX11_toSend_38 fl_X11_56 cv3 qv3 ?_
    refine r_aload_n X dX11_toSend_41 rfl ?_
    obtain ⟨v4, ev4, w⟩ := w
    obtain ⟨fv4, cv4, qv4⟩ := gN_s ev4
    refine r_getf X dX11_toSend_42 fl_X11_42 cv4 qv4 ?_
    obtain ⟨v5, ev5, w⟩ := w
    obtain ⟨fv5, cv5, qv5⟩ := gN_s ev5
    refine r_getf X dX11_toSend_45 fl_X11_84 cv5 qv5 ?_
    obtain ⟨fs5, es5, w⟩ := w
    obtain ⟨d5, P5, E5, m5, n5, ct5, w⟩ := w
    obtain ⟨⟨x1, x2, x3⟩, w⟩ := w
    obtain ⟨x4, w⟩ := w
    refine r_callV X (As := [.ref v5]) dX11_toSend_48 mk_X2_copyFrom ⟨ml_X11_123, im_X2_copyFrom, se_X2_copyFrom⟩ (oF_s es5) (ci_X2).1 rfl rfl rfl (by simp [Value.category]) ⟨x1, by show 60 * (d5 + 1) + 200 ≤ 60 * D + 200; omega⟩ ⟨x2, x3⟩ ct5 x4 (fun _ z => nomatch z) (fun _ => ⟨x2, x3⟩) (fun v h5 w1 => ?_)
    have w := w v h5 w1
    have hk : kc + m5 ≤ mc ∧ ks + n5 ≤ ms := ⟨x2, x3⟩
    obtain ⟨rfl, w⟩ := w
    refine r_aload_n X dX11_toSend_51 rfl ?_
    obtain ⟨v7, ev7, w⟩ := w
    obtain ⟨fv7, cv7, qv7⟩ := gN_s ev7
    refine r_getf X dX11_toSend_52 fl_X11_56 cv7 qv7 ?_
    obtain ⟨v8, ev8, w⟩ := w
    obtain ⟨fv8, cv8, qv8⟩ := gN_s ev8
    refine r_getf X dX11_toSend_55 fl_X11_213 cv8 qv8 ?_
    refine r_iload_n X dX11_toSend_58 rfl ?_
    refine r_iload X dX11_toSend_59 rfl ?_
    obtain ⟨h9, eh9, w⟩ := w
    obtain ⟨nh9, fh9, ch9, ih9, rh9⟩ := uI_s eh9
    subst rh9
    refine r_iast X dX11_toSend_61 ch9 ih9 ?_
    refine r_aload_n X dX11_toSend_62 rfl ?_
    obtain ⟨v10, ev10, w⟩ := w
    obtain ⟨fv10, cv10, qv10⟩ := gN_s ev10
    refine r_getf X dX11_toSend_63 fl_X11_56 cv10 qv10 ?_
    refine r_aload_n X dX11_toSend_66 rfl ?_
    obtain ⟨v11, ev11, w⟩ := w
    obtain ⟨fv11, cv11, qv11⟩ := gN_s ev11
    refine r_getf X dX11_toSend_67 fl_X11_32 cv11 qv11 ?_
    refine r_iload_n X dX11_toSend_70 rfl ?_
    obtain ⟨fs11, es11, w⟩ := w
    obtain ⟨d11, P11, E11, m11, n11, ct11, w⟩ := w
    obtain ⟨⟨x1, x2, x3⟩, w⟩ := w
    obtain ⟨x4, w⟩ := w
    refine r_callV X (As := [.ref v11, .int l2]) dX11_toSend_71 mk_X2_passDays ⟨ml_X11_228, im_X2_passDays, se_X2_passDays⟩ (oF_s es11) (ci_X2).1 rfl rfl rfl (by simp [Value.category]) ⟨x1, by show 60 * (d11 + 1) + 200 ≤ 60 * D + 200; omega⟩ ⟨x2, x3⟩ ct11 x4 (fun _ z => nomatch z) (fun _ => ⟨x2, x3⟩) (fun v h11 w1 => ?_)
    have w := w v h11 w1
    have hk : (kc + m5) + m11 ≤ mc ∧ (ks + n5) + n11 ≤ ms := ⟨x2, x3⟩
    obtain ⟨rfl, w⟩ := w
    refine r_aload_n X dX11_toSend_74 rfl ?_
    obtain ⟨v13, ev13, w⟩ := w
    obtain ⟨fv13, cv13, qv13⟩ := gN_s ev13
    refine r_getf X dX11_toSend_75 fl_X11_56 cv13 qv13 ?_
    refine r_aload_n X dX11_toSend_78 rfl ?_
    obtain ⟨v14, ev14, w⟩ := w
    obtain ⟨fv14, cv14, qv14⟩ := gN_s ev14
    refine r_getf X dX11_toSend_79 fl_X11_32 cv14 qv14 ?_
    obtain ⟨fs14, es14, w⟩ := w
    obtain ⟨d14, P14, E14, m14, n14, ct14, w⟩ := w
    obtain ⟨⟨x1, x2, x3⟩, w⟩ := w
    obtain ⟨x4, w⟩ := w
    refine r_callV X (As := [.ref v14]) dX11_toSend_82 mk_X2_openBits ⟨ml_X11_159, im_X2_openBits, se_X2_openBits⟩ (oF_s es14) (ci_X2).1 rfl rfl rfl (by simp [Value.category]) ⟨x1, by show 60 * (d14 + 1) + 200 ≤ 60 * D + 200; omega⟩ ⟨x2, x3⟩ ct14 x4 (fun _ z => nomatch z) (fun _ => ⟨x2, x3⟩) (fun v h14 w1 => ?_)
    have w := w v h14 w1
    have hk : ((kc + m5) + m11) + m14 ≤ mc ∧ ((ks + n5) + n11) + n14 ≤ ms := ⟨x2, x3⟩
    obtain ⟨v16, rfl, w⟩ := w
    obtain ⟨d16, P16, E16, m16, n16, ct16, w⟩ := w
    obtain ⟨⟨x1, x2, x3⟩, w⟩ := w
    obtain ⟨x4, w⟩ := w
    refine r_callS X (As := [.int v16]) dX11_toSend_85 mk_J6_bitCount_0f7a4 ⟨ml_X11_286, sm_J6_bitCount_0f7a4⟩ rfl rfl (by simp [Value.category]) ⟨x1, by show 60 * (d16 + 1) + 200 ≤ 60 * D + 200; omega⟩ ⟨x2, x3⟩ ct16 x4 (fun _ z => nomatch z) (fun _ => ⟨x2, x3⟩) (fun v h16 w1 => ?_)
    have w := w v h16 w1
    have hk : (((kc + m5) + m11) + m14) + m16 ≤ mc ∧ (((ks + n5) + n11) + n14) + n16 ≤ ms := ⟨x2, x3⟩
    obtain ⟨v18, rfl, w⟩ := w
    refine r_istore X dX11_toSend_88 (by decide) rfl ?_
    refine r_iload X dX11_toSend_90 rfl ?_
    refine r_iload X dX11_toSend_92 rfl ?_
    refine r_icmp_ge X dX11_toSend_94 (tgt := 105) (by decide) (fun q => ?_) (fun q => ?_)
    · have w := w.1 q
      refine VB_wk (ls' := [some (.ref l0), some (.int l1), some (.int l2), some (.int l3), some (.int l4), some (.int l5), some (.int l6), none]) ?_ w
      exact (And.intro rfl (And.intro rfl (And.intro rfl (And.intro rfl (And.intro rfl (And.intro rfl (And.intro rfl trivial)))))))
    · have w := w.2 q
      refine r_iload X dX11_toSend_97 rfl ?_
      refine r_istore X dX11_toSend_99 (by decide) rfl ?_
      refine r_iload X dX11_toSend_101 rfl ?_
      refine r_istore X dX11_toSend_103 (by decide) rfl ?_
      refine VB_wk (ls' := [some (.ref l0), some (.int l1), some (.int l2), some (.int l3), some (.int l6), some (.int v18), some (.int l6), none]) ?_ w
      exact (And.intro rfl (And.intro rfl (And.intro rfl (And.intro rfl (And.intro rfl (And.intro rfl (And.intro rfl trivial)))))))

set_option maxRecDepth 10000 in
theorem b_X11_toSend_105 {g : GG} {K : KX} {D mc ms : Nat} {Pr : Option Value → Hp → Prop} {Pt : String → Hp → Prop} {kc ks : Nat} (hg : GOK g) (hD : 8 ≤ D) (hk : kc ≤ mc ∧ ks ≤ ms) (X : CB g K cX11_toSend 8 yX11_toSend (some (.int)) []) (l0 : Nat) (l1 : Int32) (l2 : Int32) (l3 : Int32) (l4 : Int32) (l5 : Int32) (l6 : Int32) (h : Hp)
    (w : VB g K 8 D mc ms Pr Pt kc ks 25 [some (.ref l0), some (.int l1), some (.int l2), some (.int l3), some (.int l4), some (.int l5), some (.int ((l6 + 1))), none] [] h) : VB g K 8 D mc ms Pr Pt kc ks 105 [some (.ref l0), some (.int l1), some (.int l2), some (.int l3), some (.int l4), some (.int l5), some (.int l6), none] [] h := by
  obtain ⟨p, e, s, m, args, below, meth, c⟩ := K
  have X : CX g p s m args meth c cX11_toSend 8 yX11_toSend (some (.int)) [] := X
  have hz := hg s X.gk.z
  show VV g p e (rmm D mc ms) s m args below meth c 8 (QQ g below args s mc ms Pr Pt) kc ks 105 [some (.ref l0), some (.int l1), some (.int l2), some (.int l3), some (.int l4), some (.int l5), some (.int l6), none] [] h
  refine r_iinc X dX11_toSend_105 rfl (v := (l6 + 1)) rfl (by decide) rfl ?_
  refine r_goto X dX11_toSend_108 (tgt := 25) (by decide) ?_
  refine VB_wk (ls' := [some (.ref l0), some (.int l1), some (.int l2), some (.int l3), some (.int l4), some (.int l5), some (.int ((l6 + 1))), none]) ?_ w
  exact (And.intro rfl (And.intro rfl (And.intro rfl (And.intro rfl (And.intro rfl (And.intro rfl (And.intro rfl trivial)))))))

set_option maxRecDepth 10000 in
theorem b_X11_torn_0 {g : GG} {K : KX} {D mc ms : Nat} {Pr : Option Value → Hp → Prop} {Pt : String → Hp → Prop} {kc ks : Nat} (hg : GOK g) (hD : 8 ≤ D) (hk : kc ≤ mc ∧ ks ≤ ms) (X : CB g K cX11_torn 2 yX11_torn (some (.int)) []) (l0 : Nat) (l1 : Int32) (h : Hp)
    (w : (∃ d0 P0 E0 m0 n0, CT g d0 yX11_needWhat (wsC yX11_needWhat cX11_needWhat 2 none) [.int l1, .int ((2 : Int32))] h m0 n0 P0 E0 ∧ (d0 + 1 ≤ D ∧ kc + m0 ≤ mc ∧ ks + n0 ≤ ms) ∧ (∀ E h', E0 E h' → Pt E h') ∧ (∀ v h0, P0 v h0 → v = none ∧ ((¬ l1 = (2 : Int32) → (∃ v2, gN h0 l0 10 13 = some v2 ∧ (∃ v3, gN h0 l0 10 6 = some v3 ∧ (∃ v4, gN h0 l0 10 8 = some v4 ∧ (∃ fs4, oF h0 v2 0 = some fs4 ∧ (∃ d4 P4 E4 m4 n4, CT g d4 yX0_weighTears (wsC yX0_weighTears cX0_weighTears 8 none) [.ref v2, .ref v3, .ref v4, .int ((0 : Int32))] h0 m4 n4 P4 E4 ∧ (d4 + 1 ≤ D ∧ (kc + m0) + m4 ≤ mc ∧ (ks + n0) + n4 ≤ ms) ∧ (∀ E h', E4 E h' → Pt E h') ∧ (∀ v h4, P4 v h4 → v = none ∧ ((¬ l1 = 0 → (∃ v6, gN h4 l0 10 13 = some v6 ∧ (∃ v7, gI h4 v6 0 1 = some v7 ∧ Pr (some (.int v7)) h4))) ∧ (l1 = 0 → (∃ v8, gN h4 l0 10 13 = some v8 ∧ (∃ v9, gI h4 v8 0 0 = some v9 ∧ Pr (some (.int v9)) h4))))))))))) ∧ (l1 = (2 : Int32) → (∃ v10, gN h0 l0 10 13 = some v10 ∧ (∃ v11, gN h0 l0 10 6 = some v11 ∧ (∃ v12, gN h0 l0 10 8 = some v12 ∧ (∃ fs12, oF h0 v10 0 = some fs12 ∧ (∃ d12 P12 E12 m12 n12, CT g d12 yX0_isSoWithout (wsC yX0_isSoWithout cX0_isSoWithout 3 (some (.boolean))) [.ref v10, .ref v11, .ref v12] h0 m12 n12 P12 E12 ∧ (d12 + 1 ≤ D ∧ (kc + m0) + m12 ≤ mc ∧ (ks + n0) + n12 ≤ ms) ∧ (∀ E h', E12 E h' → Pt E h') ∧ (∀ v h12, P12 v h12 → ∃ v14, v = some (.int v14) ∧ ((v14 = 0 → Pr (some (.int ((0 : Int32)))) h12) ∧ (¬ v14 = 0 → Pr (some (.int ((1 : Int32)))) h12))))))))))))) : VB g K 2 D mc ms Pr Pt kc ks 0 [some (.ref l0), some (.int l1)] [] h := by
  obtain ⟨p, e, s, m, args, below, meth, c⟩ := K
  have X : CX g p s m args meth c cX11_torn 2 yX11_torn (some (.int)) [] := X
  have hz := hg s X.gk.z
  show VV g p e (rmm D mc ms) s m args below meth c 2 (QQ g below args s mc ms Pr Pt) kc ks 0 [some (.ref l0), some (.int l1)] [] h
  refine r_iload_n X dX11_torn_0 rfl ?_
  refine r_iconst X dX11_torn_1 (v := 2) (by decide) ?_
  obtain ⟨d0, P0, E0, m0, n0, ct0, w⟩ := w
  obtain ⟨⟨x1, x2, x3⟩, w⟩ := w
  obtain ⟨x4, w⟩ := w
  refine r_callS X (As := [.int l1, .int ((2 : Int32))]) dX11_torn_2 mk_X11_needWhat ⟨ml_X11_250, sm_X11_needWhat⟩ rfl rfl (by simp [Value.category]) ⟨x1, by show 60 * (d0 + 1) + 200 ≤ 60 * D + 200; omega⟩ ⟨x2, x3⟩ ct0 x4 (fun _ z => nomatch z) (fun _ => ⟨x2, x3⟩) (fun v h0 w1 => ?_)
  have w := w v h0 w1
  have hk : kc + m0 ≤ mc ∧ ks + n0 ≤ ms := ⟨x2, x3⟩
  obtain ⟨rfl, w⟩ := w
  refine r_iload_n X dX11_torn_5 rfl ?_
  refine r_iconst X dX11_torn_6 (v := 2) (by decide) ?_
  refine r_icmp_ne X dX11_torn_7 (tgt := 34) (by decide) (fun q => ?_) (fun q => ?_)
  · have w := w.1 q
    refine r_aload_n X dX11_torn_34 rfl ?_
    obtain ⟨v2, ev2, w⟩ := w
    obtain ⟨fv2, cv2, qv2⟩ := gN_s ev2
    refine r_getf X dX11_torn_35 fl_X11_66 cv2 qv2 ?_
    refine r_aload_n X dX11_torn_38 rfl ?_
    obtain ⟨v3, ev3, w⟩ := w
    obtain ⟨fv3, cv3, qv3⟩ := gN_s ev3
    refine r_getf X dX11_torn_39 fl_X11_32 cv3 qv3 ?_
    refine r_aload_n X dX11_torn_42 rfl ?_
    obtain ⟨v4, ev4, w⟩ := w
    obtain ⟨fv4, cv4, qv4⟩ := gN_s ev4
    refine r_getf X dX11_torn_43 fl_X11_42 cv4 qv4 ?_
    refine r_iconst X dX11_torn_46 (v := 0) (by decide) ?_
    obtain ⟨fs4, es4, w⟩ := w
    obtain ⟨d4, P4, E4, m4, n4, ct4, w⟩ := w
    obtain ⟨⟨x1, x2, x3⟩, w⟩ := w
    obtain ⟨x4, w⟩ := w
    refine r_callV X (As := [.ref v3, .ref v4, .int ((0 : Int32))]) dX11_torn_47 mk_X0_weighTears ⟨ml_X11_357, im_X0_weighTears, se_X0_weighTears⟩ (oF_s es4) (ci_X0).1 rfl rfl rfl (by simp [Value.category]) ⟨x1, by show 60 * (d4 + 1) + 200 ≤ 60 * D + 200; omega⟩ ⟨x2, x3⟩ ct4 x4 (fun _ z => nomatch z) (fun _ => ⟨x2, x3⟩) (fun v h4 w1 => ?_)
    have w := w v h4 w1
    have hk : (kc + m0) + m4 ≤ mc ∧ (ks + n0) + n4 ≤ ms := ⟨x2, x3⟩
    obtain ⟨rfl, w⟩ := w
    refine r_iload_n X dX11_torn_50 rfl ?_
    refine r_if_ne X dX11_torn_51 (tgt := 64) (by decide) (fun q => ?_) (fun q => ?_)
    · have w := w.1 q
      refine r_aload_n X dX11_torn_64 rfl ?_
      obtain ⟨v6, ev6, w⟩ := w
      obtain ⟨fv6, cv6, qv6⟩ := gN_s ev6
      refine r_getf X dX11_torn_65 fl_X11_66 cv6 qv6 ?_
      obtain ⟨v7, ev7, w⟩ := w
      obtain ⟨fv7, cv7, qv7⟩ := gI_s ev7
      refine r_getf X dX11_torn_68 fl_X11_362 cv7 qv7 ?_
      exact r_iret X dX11_torn_71 rfl w hk.1 hk.2
    · have w := w.2 q
      refine r_aload_n X dX11_torn_54 rfl ?_
      obtain ⟨v8, ev8, w⟩ := w
      obtain ⟨fv8, cv8, qv8⟩ := gN_s ev8
      refine r_getf X dX11_torn_55 fl_X11_66 cv8 qv8 ?_
      obtain ⟨v9, ev9, w⟩ := w
      obtain ⟨fv9, cv9, qv9⟩ := gI_s ev9
      refine r_getf X dX11_torn_58 fl_X11_361 cv9 qv9 ?_
      refine r_goto X dX11_torn_61 (tgt := 71) (by decide) ?_
      exact r_iret X dX11_torn_71 rfl w hk.1 hk.2
  · have w := w.2 q
    refine r_aload_n X dX11_torn_10 rfl ?_
    obtain ⟨v10, ev10, w⟩ := w
    obtain ⟨fv10, cv10, qv10⟩ := gN_s ev10
    refine r_getf X dX11_torn_11 fl_X11_66 cv10 qv10 ?_
    refine r_aload_n X dX11_torn_14 rfl ?_
    obtain ⟨v11, ev11, w⟩ := w
    obtain ⟨fv11, cv11, qv11⟩ := gN_s ev11
    refine r_getf X dX11_torn_15 fl_X11_32 cv11 qv11 ?_
    refine r_aload_n X dX11_torn_18 rfl ?_
    obtain ⟨v12, ev12, w⟩ := w
    obtain ⟨fv12, cv12, qv12⟩ := gN_s ev12
    refine r_getf X dX11_torn_19 fl_X11_42 cv12 qv12 ?_
    obtain ⟨fs12, es12, w⟩ := w
    obtain ⟨d12, P12, E12, m12, n12, ct12, w⟩ := w
    obtain ⟨⟨x1, x2, x3⟩, w⟩ := w
    obtain ⟨x4, w⟩ := w
    refine r_callV X (As := [.ref v11, .ref v12]) dX11_torn_22 mk_X0_isSoWithout ⟨ml_X11_353, im_X0_isSoWithout, se_X0_isSoWithout⟩ (oF_s es12) (ci_X0).1 rfl rfl rfl (by simp [Value.category]) ⟨x1, by show 60 * (d12 + 1) + 200 ≤ 60 * D + 200; omega⟩ ⟨x2, x3⟩ ct12 x4 (fun _ z => nomatch z) (fun _ => ⟨x2, x3⟩) (fun v h12 w1 => ?_)
    have w := w v h12 w1
    have hk : (kc + m0) + m12 ≤ mc ∧ (ks + n0) + n12 ≤ ms := ⟨x2, x3⟩
    obtain ⟨v14, rfl, w⟩ := w
    refine r_if_eq X dX11_torn_25 (tgt := 32) (by decide) (fun q => ?_) (fun q => ?_)
    · have w := w.1 q
      refine r_iconst X dX11_torn_32 (v := 0) (by decide) ?_
      exact r_iret X dX11_torn_33 rfl w hk.1 hk.2
    · have w := w.2 q
      refine r_iconst X dX11_torn_28 (v := 1) (by decide) ?_
      refine r_goto X dX11_torn_29 (tgt := 33) (by decide) ?_
      exact r_iret X dX11_torn_33 rfl w hk.1 hk.2

set_option maxRecDepth 10000 in
theorem b_X11_undo_0 {g : GG} {K : KX} {D mc ms : Nat} {Pr : Option Value → Hp → Prop} {Pt : String → Hp → Prop} {kc ks : Nat} (hg : GOK g) (hD : 8 ≤ D) (hk : kc ≤ mc ∧ ks ≤ ms) (X : CB g K cX11_undo 1 yX11_undo (some (.int)) []) (l0 : Nat) (h : Hp)
    (w : (∃ v1, gN h l0 10 8 = some v1 ∧ (∃ v2, gN h v1 3 1 = some v2 ∧ (∃ v3, gI h v2 4 0 = some v3 ∧ (((1 : Int32) ≤ v3 → (∃ v4, gN h l0 10 8 = some v4 ∧ (∃ v5, gN h v4 3 1 = some v5 ∧ (∃ v6, gN h l0 10 8 = some v6 ∧ (∃ v7, gN h v6 3 0 = some v7 ∧ (∃ fs7, oF h v5 4 = some fs7 ∧ (∃ d7 P7 E7 m7 n7, CT g d7 yX4_takeBack (wsC yX4_takeBack cX4_takeBack 2 none) [.ref v5, .ref v7] h m7 n7 P7 E7 ∧ (d7 + 1 ≤ D ∧ kc + m7 ≤ mc ∧ ks + n7 ≤ ms) ∧ (∀ E h', E7 E h' → Pt E h') ∧ (∀ v h7, P7 v h7 → v = none ∧ (∃ v9, gN h7 l0 10 8 = some v9 ∧ (∃ v10, gN h7 v9 3 1 = some v10 ∧ (∃ v11, gI h7 v10 4 0 = some v11 ∧ Pr (some (.int v11)) h7))))))))))) ∧ (¬ (1 : Int32) ≤ v3 → Pr (some (.int ((-1 : Int32)))) h)))))) : VB g K 1 D mc ms Pr Pt kc ks 0 [some (.ref l0)] [] h := by
  obtain ⟨p, e, s, m, args, below, meth, c⟩ := K
  have X : CX g p s m args meth c cX11_undo 1 yX11_undo (some (.int)) [] := X
  have hz := hg s X.gk.z
  show VV g p e (rmm D mc ms) s m args below meth c 1 (QQ g below args s mc ms Pr Pt) kc ks 0 [some (.ref l0)] [] h
  refine r_aload_n X dX11_undo_0 rfl ?_
  obtain ⟨v1, ev1, w⟩ := w
  obtain ⟨fv1, cv1, qv1⟩ := gN_s ev1
  refine r_getf X dX11_undo_1 fl_X11_42 cv1 qv1 ?_
  obtain ⟨v2, ev2, w⟩ := w
  obtain ⟨fv2, cv2, qv2⟩ := gN_s ev2
  refine r_getf X dX11_undo_4 fl_X11_127 cv2 qv2 ?_
  obtain ⟨v3, ev3, w⟩ := w
  obtain ⟨fv3, cv3, qv3⟩ := gI_s ev3
  refine r_getf X dX11_undo_7 fl_X11_172 cv3 qv3 ?_
  refine r_iconst X dX11_undo_10 (v := 1) (by decide) ?_
  refine r_icmp_ge X dX11_undo_11 (tgt := 16) (by decide) (fun q => ?_) (fun q => ?_)
  · have w := w.1 q
    refine r_aload_n X dX11_undo_16 rfl ?_
    obtain ⟨v4, ev4, w⟩ := w
    obtain ⟨fv4, cv4, qv4⟩ := gN_s ev4
    refine r_getf X dX11_undo_17 fl_X11_42 cv4 qv4 ?_
    obtain ⟨v5, ev5, w⟩ := w
    obtain ⟨fv5, cv5, qv5⟩ := gN_s ev5
    refine r_getf X dX11_undo_20 fl_X11_127 cv5 qv5 ?_
    refine r_aload_n X dX11_undo_23 rfl ?_
    obtain ⟨v6, ev6, w⟩ := w
    obtain ⟨fv6, cv6, qv6⟩ := gN_s ev6
    refine r_getf X dX11_undo_24 fl_X11_42 cv6 qv6 ?_
    obtain ⟨v7, ev7, w⟩ := w
    obtain ⟨fv7, cv7, qv7⟩ := gN_s ev7
    refine r_getf X dX11_undo_27 fl_X11_84 cv7 qv7 ?_
    obtain ⟨fs7, es7, w⟩ := w
    obtain ⟨d7, P7, E7, m7, n7, ct7, w⟩ := w
    obtain ⟨⟨x1, x2, x3⟩, w⟩ := w
    obtain ⟨x4, w⟩ := w
    refine r_callV X (As := [.ref v7]) dX11_undo_30 mk_X4_takeBack ⟨ml_X11_247, im_X4_takeBack, se_X4_takeBack⟩ (oF_s es7) (ci_X4).1 rfl rfl rfl (by simp [Value.category]) ⟨x1, by show 60 * (d7 + 1) + 200 ≤ 60 * D + 200; omega⟩ ⟨x2, x3⟩ ct7 x4 (fun _ z => nomatch z) (fun _ => ⟨x2, x3⟩) (fun v h7 w1 => ?_)
    have w := w v h7 w1
    have hk : kc + m7 ≤ mc ∧ ks + n7 ≤ ms := ⟨x2, x3⟩
    obtain ⟨rfl, w⟩ := w
    refine r_aload_n X dX11_undo_33 rfl ?_
    obtain ⟨v9, ev9, w⟩ := w
    obtain ⟨fv9, cv9, qv9⟩ := gN_s ev9
    refine r_getf X dX11_undo_34 fl_X11_42 cv9 qv9 ?_
    obtain ⟨v10, ev10, w⟩ := w
    obtain ⟨fv10, cv10, qv10⟩ := gN_s ev10
    refine r_getf X dX11_undo_37 fl_X11_127 cv10 qv10 ?_
    obtain ⟨v11, ev11, w⟩ := w
    obtain ⟨fv11, cv11, qv11⟩ := gI_s ev11
    refine r_getf X dX11_undo_40 fl_X11_172 cv11 qv11 ?_
    exact r_iret X dX11_undo_43 rfl w hk.1 hk.2
  · have w := w.2 q
    refine r_iconst X dX11_undo_14 (v := -1) (by decide) ?_
    exact r_iret X dX11_undo_15 rfl w hk.1 hk.2

set_option maxRecDepth 10000 in
theorem b_X11_weightOf_0 {g : GG} {K : KX} {D mc ms : Nat} {Pr : Option Value → Hp → Prop} {Pt : String → Hp → Prop} {kc ks : Nat} (hg : GOK g) (hD : 8 ≤ D) (hk : kc ≤ mc ∧ ks ≤ ms) (X : CB g K cX11_weightOf 5 yX11_weightOf (some (.int)) []) (l0 : Int32) (l1 : Int32) (l2 : Int32) (h : Hp)
    (w : VB g K 5 D mc ms Pr Pt kc ks 5 [some (.int l0), some (.int l1), some (.int l2), some (.int ((1 : Int32))), some (.int ((0 : Int32)))] [] h) : VB g K 5 D mc ms Pr Pt kc ks 0 [some (.int l0), some (.int l1), some (.int l2), none, none] [] h := by
  obtain ⟨p, e, s, m, args, below, meth, c⟩ := K
  have X : CX g p s m args meth c cX11_weightOf 5 yX11_weightOf (some (.int)) [] := X
  have hz := hg s X.gk.z
  show VV g p e (rmm D mc ms) s m args below meth c 5 (QQ g below args s mc ms Pr Pt) kc ks 0 [some (.int l0), some (.int l1), some (.int l2), none, none] [] h
  refine r_iconst X dX11_weightOf_0 (v := 1) (by decide) ?_
  refine r_istore_n X dX11_weightOf_1 (by decide) rfl ?_
  refine r_iconst X dX11_weightOf_2 (v := 0) (by decide) ?_
  refine r_istore X dX11_weightOf_3 (by decide) rfl ?_
  refine VB_wk (ls' := [some (.int l0), some (.int l1), some (.int l2), some (.int ((1 : Int32))), some (.int ((0 : Int32)))]) ?_ w
  exact (And.intro rfl (And.intro rfl (And.intro rfl (And.intro rfl (And.intro rfl trivial)))))

set_option maxRecDepth 10000 in
theorem b_X11_weightOf_5 {g : GG} {K : KX} {D mc ms : Nat} {Pr : Option Value → Hp → Prop} {Pt : String → Hp → Prop} {kc ks : Nat} (hg : GOK g) (hD : 8 ≤ D) (hk : kc ≤ mc ∧ ks ≤ ms) (X : CB g K cX11_weightOf 5 yX11_weightOf (some (.int)) []) (l0 : Int32) (l1 : Int32) (l2 : Int32) (l3 : Int32) (l4 : Int32) (h : Hp)
    (w : ((l1 ≤ l4 → Pr (some (.int l3)) h) ∧ (¬ l1 ≤ l4 → ((¬ ((l0 >>> (l4 &&& 31)) &&& (1 : Int32)) = (1 : Int32) → VB g K 5 D mc ms Pr Pt kc ks 30 [some (.int l0), some (.int l1), some (.int l2), none, some (.int l4)] [.int (((10 : Int32) - l2)), .int l3] h) ∧ (((l0 >>> (l4 &&& 31)) &&& (1 : Int32)) = (1 : Int32) → VB g K 5 D mc ms Pr Pt kc ks 30 [some (.int l0), some (.int l1), some (.int l2), none, some (.int l4)] [.int l2, .int l3] h))))) : VB g K 5 D mc ms Pr Pt kc ks 5 [some (.int l0), some (.int l1), some (.int l2), some (.int l3), some (.int l4)] [] h := by
  obtain ⟨p, e, s, m, args, below, meth, c⟩ := K
  have X : CX g p s m args meth c cX11_weightOf 5 yX11_weightOf (some (.int)) [] := X
  have hz := hg s X.gk.z
  show VV g p e (rmm D mc ms) s m args below meth c 5 (QQ g below args s mc ms Pr Pt) kc ks 5 [some (.int l0), some (.int l1), some (.int l2), some (.int l3), some (.int l4)] [] h
  refine r_iload X dX11_weightOf_5 rfl ?_
  refine r_iload_n X dX11_weightOf_7 rfl ?_
  refine r_icmp_ge X dX11_weightOf_8 (tgt := 38) (by decide) (fun q => ?_) (fun q => ?_)
  · have w := w.1 q
    refine r_iload_n X dX11_weightOf_38 rfl ?_
    exact r_iret X dX11_weightOf_39 rfl w hk.1 hk.2
  · have w := w.2 q
    refine r_iload_n X dX11_weightOf_11 rfl ?_
    refine r_iload_n X dX11_weightOf_12 rfl ?_
    refine r_iload X dX11_weightOf_13 rfl ?_
    refine r_ishr X dX11_weightOf_15 ?_
    refine r_iconst X dX11_weightOf_16 (v := 1) (by decide) ?_
    refine r_iand X dX11_weightOf_17 ?_
    refine r_iconst X dX11_weightOf_18 (v := 1) (by decide) ?_
    refine r_icmp_ne X dX11_weightOf_19 (tgt := 26) (by decide) (fun q => ?_) (fun q => ?_)
    · have w := w.1 q
      refine r_bipush X dX11_weightOf_26 (v := 10) (by decide) ?_
      refine r_iload_n X dX11_weightOf_28 rfl ?_
      refine r_isub X dX11_weightOf_29 ?_
      refine VB_wk (ls' := [some (.int l0), some (.int l1), some (.int l2), none, some (.int l4)]) ?_ w
      exact (And.intro rfl (And.intro rfl (And.intro rfl (And.intro rfl trivial))))
    · have w := w.2 q
      refine r_iload_n X dX11_weightOf_22 rfl ?_
      refine r_goto X dX11_weightOf_23 (tgt := 30) (by decide) ?_
      refine VB_wk (ls' := [some (.int l0), some (.int l1), some (.int l2), none, some (.int l4)]) ?_ w
      exact (And.intro rfl (And.intro rfl (And.intro rfl (And.intro rfl trivial))))

set_option maxRecDepth 10000 in
theorem b_X11_weightOf_30 {g : GG} {K : KX} {D mc ms : Nat} {Pr : Option Value → Hp → Prop} {Pt : String → Hp → Prop} {kc ks : Nat} (hg : GOK g) (hD : 8 ≤ D) (hk : kc ≤ mc ∧ ks ≤ ms) (X : CB g K cX11_weightOf 5 yX11_weightOf (some (.int)) []) (l0 : Int32) (l1 : Int32) (l2 : Int32) (l4 : Int32) (s0 : Int32) (s1 : Int32) (h : Hp)
    (w : VB g K 5 D mc ms Pr Pt kc ks 5 [some (.int l0), some (.int l1), some (.int l2), some (.int ((s0 * s1))), some (.int ((l4 + 1)))] [] h) : VB g K 5 D mc ms Pr Pt kc ks 30 [some (.int l0), some (.int l1), some (.int l2), none, some (.int l4)] [.int s1, .int s0] h := by
  obtain ⟨p, e, s, m, args, below, meth, c⟩ := K
  have X : CX g p s m args meth c cX11_weightOf 5 yX11_weightOf (some (.int)) [] := X
  have hz := hg s X.gk.z
  show VV g p e (rmm D mc ms) s m args below meth c 5 (QQ g below args s mc ms Pr Pt) kc ks 30 [some (.int l0), some (.int l1), some (.int l2), none, some (.int l4)] [.int s1, .int s0] h
  refine r_imul X dX11_weightOf_30 ?_
  refine r_istore_n X dX11_weightOf_31 (by decide) rfl ?_
  refine r_iinc X dX11_weightOf_32 rfl (v := (l4 + 1)) rfl (by decide) rfl ?_
  refine r_goto X dX11_weightOf_35 (tgt := 5) (by decide) ?_
  refine VB_wk (ls' := [some (.int l0), some (.int l1), some (.int l2), some (.int ((s0 * s1))), some (.int ((l4 + 1)))]) ?_ w
  exact (And.intro rfl (And.intro rfl (And.intro rfl (And.intro rfl (And.intro rfl trivial)))))

set_option maxRecDepth 10000 in
theorem b_X11_where_0 {g : GG} {K : KX} {D mc ms : Nat} {Pr : Option Value → Hp → Prop} {Pt : String → Hp → Prop} {kc ks : Nat} (hg : GOK g) (hD : 8 ≤ D) (hk : kc ≤ mc ∧ ks ≤ ms) (X : CB g K cX11_where 4 yX11_where (some (.int)) []) (l0 : Nat) (l1 : Int32) (l2 : Int32) (l3 : Int32) (h : Hp)
    (w : (∃ fs0, oF h l0 10 = some fs0 ∧ (∃ d0 P0 E0 m0 n0, CT g d0 yX11_needWoman (wsC yX11_needWoman cX11_needWoman 2 none) [.ref l0, .int l1] h m0 n0 P0 E0 ∧ (d0 + 1 ≤ D ∧ kc + m0 ≤ mc ∧ ks + n0 ≤ ms) ∧ (∀ E h', E0 E h' → Pt E h') ∧ (∀ v h0, P0 v h0 → v = none ∧ (∃ d1 P1 E1 m1 n1, CT g d1 yX11_needWhat (wsC yX11_needWhat cX11_needWhat 2 none) [.int l3, .int ((1 : Int32))] h0 m1 n1 P1 E1 ∧ (d1 + 1 ≤ D ∧ (kc + m0) + m1 ≤ mc ∧ (ks + n0) + n1 ≤ ms) ∧ (∀ E h', E1 E h' → Pt E h') ∧ (∀ v h1, P1 v h1 → v = none ∧ (∃ d2 P2 E2 m2 n2, CT g d2 yX11_needDays (wsC yX11_needDays cX11_needDays 2 none) [.int l2, .int ((0 : Int32))] h1 m2 n2 P2 E2 ∧ (d2 + 1 ≤ D ∧ ((kc + m0) + m1) + m2 ≤ mc ∧ ((ks + n0) + n1) + n2 ≤ ms) ∧ (∀ E h', E2 E h' → Pt E h') ∧ (∀ v h2, P2 v h2 → v = none ∧ (∃ fs3, oF h2 l0 10 = some fs3 ∧ (∃ d3 P3 E3 m3 n3, CT g d3 yX11_lookAhead (wsC yX11_lookAhead cX11_lookAhead 2 none) [.ref l0, .int l2] h2 m3 n3 P3 E3 ∧ (d3 + 1 ≤ D ∧ (((kc + m0) + m1) + m2) + m3 ≤ mc ∧ (((ks + n0) + n1) + n2) + n3 ≤ ms) ∧ (∀ E h', E3 E h' → Pt E h') ∧ (∀ v h3, P3 v h3 → v = none ∧ ((¬ l3 = 0 → (∃ v5, gN h3 l0 10 11 = some v5 ∧ (∃ v6, gN h3 v5 2 5 = some v6 ∧ (∃ v7, aI h3 0 v6 l1 = some v7 ∧ Pr (some (.int v7)) h3)))) ∧ (l3 = 0 → (∃ v8, gN h3 l0 10 11 = some v8 ∧ (∃ v9, gN h3 v8 2 4 = some v9 ∧ (∃ v10, aI h3 0 v9 l1 = some v10 ∧ Pr (some (.int v10)) h3)))))))))))))))) : VB g K 4 D mc ms Pr Pt kc ks 0 [some (.ref l0), some (.int l1), some (.int l2), some (.int l3)] [] h := by
  obtain ⟨p, e, s, m, args, below, meth, c⟩ := K
  have X : CX g p s m args meth c cX11_where 4 yX11_where (some (.int)) [] := X
  have hz := hg s X.gk.z
  show VV g p e (rmm D mc ms) s m args below meth c 4 (QQ g below args s mc ms Pr Pt) kc ks 0 [some (.ref l0), some (.int l1), some (.int l2), some (.int l3)] [] h
  refine r_aload_n X dX11_where_0 rfl ?_
  refine r_iload_n X dX11_where_1 rfl ?_
  obtain ⟨fs0, es0, w⟩ := w
  obtain ⟨d0, P0, E0, m0, n0, ct0, w⟩ := w
  obtain ⟨⟨x1, x2, x3⟩, w⟩ := w
  obtain ⟨x4, w⟩ := w
  refine r_callV X (As := [.int l1]) dX11_where_2 mk_X11_needWoman ⟨ml_X11_207, im_X11_needWoman, se_X11_needWoman⟩ (oF_s es0) (ci_X11).1 rfl rfl rfl (by simp [Value.category]) ⟨x1, by show 60 * (d0 + 1) + 200 ≤ 60 * D + 200; omega⟩ ⟨x2, x3⟩ ct0 x4 (fun _ z => nomatch z) (fun _ => ⟨x2, x3⟩) (fun v h0 w1 => ?_)
  have w := w v h0 w1
  have hk : kc + m0 ≤ mc ∧ ks + n0 ≤ ms := ⟨x2, x3⟩
  obtain ⟨rfl, w⟩ := w
  refine r_iload_n X dX11_where_5 rfl ?_
  refine r_iconst X dX11_where_6 (v := 1) (by decide) ?_
  obtain ⟨d1, P1, E1, m1, n1, ct1, w⟩ := w
  obtain ⟨⟨x1, x2, x3⟩, w⟩ := w
  obtain ⟨x4, w⟩ := w
  refine r_callS X (As := [.int l3, .int ((1 : Int32))]) dX11_where_7 mk_X11_needWhat ⟨ml_X11_250, sm_X11_needWhat⟩ rfl rfl (by simp [Value.category]) ⟨x1, by show 60 * (d1 + 1) + 200 ≤ 60 * D + 200; omega⟩ ⟨x2, x3⟩ ct1 x4 (fun _ z => nomatch z) (fun _ => ⟨x2, x3⟩) (fun v h1 w1 => ?_)
  have w := w v h1 w1
  have hk : (kc + m0) + m1 ≤ mc ∧ (ks + n0) + n1 ≤ ms := ⟨x2, x3⟩
  obtain ⟨rfl, w⟩ := w
  refine r_iload_n X dX11_where_10 rfl ?_
  refine r_iconst X dX11_where_11 (v := 0) (by decide) ?_
  obtain ⟨d2, P2, E2, m2, n2, ct2, w⟩ := w
  obtain ⟨⟨x1, x2, x3⟩, w⟩ := w
  obtain ⟨x4, w⟩ := w
  refine r_callS X (As := [.int l2, .int ((0 : Int32))]) dX11_where_12 mk_X11_needDays ⟨ml_X11_253, sm_X11_needDays⟩ rfl rfl (by simp [Value.category]) ⟨x1, by show 60 * (d2 + 1) + 200 ≤ 60 * D + 200; omega⟩ ⟨x2, x3⟩ ct2 x4 (fun _ z => nomatch z) (fun _ => ⟨x2, x3⟩) (fun v h2 w1 => ?_)
  have w := w v h2 w1
  have hk : ((kc + m0) + m1) + m2 ≤ mc ∧ ((ks + n0) + n1) + n2 ≤ ms := ⟨x2, x3⟩
  obtain ⟨rfl, w⟩ := w
  refine r_aload_n X dX11_where_15 rfl ?_
  refine r_iload_n X dX11_where_16 rfl ?_
  obtain ⟨fs3, es3, w⟩ := w
  obtain ⟨d3, P3, E3, m3, n3, ct3, w⟩ := w
  obtain ⟨⟨x1, x2, x3⟩, w⟩ := w
  obtain ⟨x4, w⟩ := w
  refine r_callV X (As := [.int l2]) dX11_where_17 mk_X11_lookAhead ⟨ml_X11_256, im_X11_lookAhead, se_X11_lookAhead⟩ (oF_s es3) (ci_X11).1 rfl rfl rfl (by simp [Value.category]) ⟨x1, by show 60 * (d3 + 1) + 200 ≤ 60 * D + 200; omega⟩ ⟨x2, x3⟩ ct3 x4 (fun _ z => nomatch z) (fun _ => ⟨x2, x3⟩) (fun v h3 w1 => ?_)
  have w := w v h3 w1
  have hk : (((kc + m0) + m1) + m2) + m3 ≤ mc ∧ (((ks + n0) + n1) + n2) + n3 ≤ ms := ⟨x2, x3⟩
  obtain ⟨rfl, w⟩ := w
  refine r_iload_n X dX11_where_20 rfl ?_
  refine r_if_ne X dX11_where_21 (tgt := 36) (by decide) (fun q => ?_) (fun q => ?_)
  · have w := w.1 q
    refine r_aload_n X dX11_where_36 rfl ?_
    obtain ⟨v5, ev5, w⟩ := w
    obtain ⟨fv5, cv5, qv5⟩ := gN_s ev5
    refine r_getf X dX11_where_37 fl_X11_56 cv5 qv5 ?_
    obtain ⟨v6, ev6, w⟩ := w
    obtain ⟨fv6, cv6, qv6⟩ := gN_s ev6
    refine r_getf X dX11_where_40 fl_X11_216 cv6 qv6 ?_
    refine r_iload_n X dX11_where_43 rfl ?_
    obtain ⟨v7, ev7, w⟩ := w
    obtain ⟨nv7, fv7, cv7, iv7, qv7⟩ := aI_s ev7
    refine r_iald X dX11_where_44 cv7 iv7 ?_
    rw [qv7]
    exact r_iret X dX11_where_45 rfl w hk.1 hk.2
  · have w := w.2 q
    refine r_aload_n X dX11_where_24 rfl ?_
    obtain ⟨v8, ev8, w⟩ := w
    obtain ⟨fv8, cv8, qv8⟩ := gN_s ev8
    refine r_getf X dX11_where_25 fl_X11_56 cv8 qv8 ?_
    obtain ⟨v9, ev9, w⟩ := w
    obtain ⟨fv9, cv9, qv9⟩ := gN_s ev9
    refine r_getf X dX11_where_28 fl_X11_213 cv9 qv9 ?_
    refine r_iload_n X dX11_where_31 rfl ?_
    obtain ⟨v10, ev10, w⟩ := w
    obtain ⟨nv10, fv10, cv10, iv10, qv10⟩ := aI_s ev10
    refine r_iald X dX11_where_32 cv10 iv10 ?_
    rw [qv10]
    refine r_goto X dX11_where_33 (tgt := 45) (by decide) ?_
    exact r_iret X dX11_where_45 rfl w hk.1 hk.2

set_option maxRecDepth 10000 in
theorem b_X11_within_0 {g : GG} {K : KX} {D mc ms : Nat} {Pr : Option Value → Hp → Prop} {Pt : String → Hp → Prop} {kc ks : Nat} (hg : GOK g) (hD : 8 ≤ D) (hk : kc ≤ mc ∧ ks ≤ ms) (X : CB g K cX11_within 3 yX11_within (some (.int)) []) (l0 : Int32) (l1 : Int32) (l2 : Int32) (h : Hp)
    (w : Pr (some (.int ((if l1 < (if l0 < l2 then l0 else l2) then (if l0 < l2 then l0 else l2) else l1)))) h) : VB g K 3 D mc ms Pr Pt kc ks 0 [some (.int l0), some (.int l1), some (.int l2)] [] h := by
  obtain ⟨p, e, s, m, args, below, meth, c⟩ := K
  have X : CX g p s m args meth c cX11_within 3 yX11_within (some (.int)) [] := X
  have hz := hg s X.gk.z
  show VV g p e (rmm D mc ms) s m args below meth c 3 (QQ g below args s mc ms Pr Pt) kc ks 0 [some (.int l0), some (.int l1), some (.int l2)] [] h
  refine r_iload_n X dX11_within_0 rfl ?_
  refine r_iload_n X dX11_within_1 rfl ?_
  refine r_iload_n X dX11_within_2 rfl ?_
  refine r_mmin X dX11_within_3 ma_X11_427 (by refine ⟨?_, ?_, ?_, ?_⟩ <;> simp [rmm, Value.category] <;> omega) ?_
  refine r_mmax X dX11_within_6 ma_X11_422 (by refine ⟨?_, ?_, ?_, ?_⟩ <;> simp [rmm, Value.category] <;> omega) ?_
  exact r_iret X dX11_within_9 rfl w hk.1 hk.2

set_option maxRecDepth 10000 in
theorem b_X11_woman_0 {g : GG} {K : KX} {D mc ms : Nat} {Pr : Option Value → Hp → Prop} {Pt : String → Hp → Prop} {kc ks : Nat} (hg : GOK g) (hD : 8 ≤ D) (hk : kc ≤ mc ∧ ks ≤ ms) (X : CB g K cX11_woman 3 yX11_woman (some (.int)) []) (l0 : Nat) (l1 : Int32) (l2 : Int32) (h : Hp)
    (w : (∃ fs0, oF h l0 10 = some fs0 ∧ (∃ d0 P0 E0 m0 n0, CT g d0 yX11_needWoman (wsC yX11_needWoman cX11_needWoman 2 none) [.ref l0, .int l1] h m0 n0 P0 E0 ∧ (d0 + 1 ≤ D ∧ kc + m0 ≤ mc ∧ ks + n0 ≤ ms) ∧ (∀ E h', E0 E h' → Pt E h') ∧ (∀ v h0, P0 v h0 → v = none ∧ ((((l2).toInt < 0 ∨ 2 < (l2).toInt) → (((kc + m0) + 1 ≤ mc ∧ (ks + n0) + 6 ≤ ms) ∧ Pt "java/util/NoSuchElementException" (h0 ++ [dead]))) ∧ (((l2).toInt = 0 → (∃ v3, gN h0 l0 10 6 = some v3 ∧ (∃ v4, gN h0 v3 9 5 = some v4 ∧ (∃ v5, aI h0 0 v4 l1 = some v5 ∧ Pr (some (.int v5)) h0)))) ∧ (((l2).toInt = 1 → (∃ v6, gN h0 l0 10 8 = some v6 ∧ (∃ v7, gN h0 v6 3 0 = some v7 ∧ (∃ v8, gN h0 v7 2 4 = some v8 ∧ (∃ v9, aI h0 0 v8 l1 = some v9 ∧ Pr (some (.int v9)) h0))))) ∧ ((l2).toInt = 2 → (∃ v10, gN h0 l0 10 8 = some v10 ∧ (∃ v11, gN h0 v10 3 0 = some v11 ∧ (∃ v12, gN h0 v11 2 5 = some v12 ∧ (∃ v13, aI h0 0 v12 l1 = some v13 ∧ Pr (some (.int v13)) h0)))))))))))) : VB g K 3 D mc ms Pr Pt kc ks 0 [some (.ref l0), some (.int l1), some (.int l2)] [] h := by
  obtain ⟨p, e, s, m, args, below, meth, c⟩ := K
  have X : CX g p s m args meth c cX11_woman 3 yX11_woman (some (.int)) [] := X
  have hz := hg s X.gk.z
  show VV g p e (rmm D mc ms) s m args below meth c 3 (QQ g below args s mc ms Pr Pt) kc ks 0 [some (.ref l0), some (.int l1), some (.int l2)] [] h
  refine r_aload_n X dX11_woman_0 rfl ?_
  refine r_iload_n X dX11_woman_1 rfl ?_
  obtain ⟨fs0, es0, w⟩ := w
  obtain ⟨d0, P0, E0, m0, n0, ct0, w⟩ := w
  obtain ⟨⟨x1, x2, x3⟩, w⟩ := w
  obtain ⟨x4, w⟩ := w
  refine r_callV X (As := [.int l1]) dX11_woman_2 mk_X11_needWoman ⟨ml_X11_207, im_X11_needWoman, se_X11_needWoman⟩ (oF_s es0) (ci_X11).1 rfl rfl rfl (by simp [Value.category]) ⟨x1, by show 60 * (d0 + 1) + 200 ≤ 60 * D + 200; omega⟩ ⟨x2, x3⟩ ct0 x4 (fun _ z => nomatch z) (fun _ => ⟨x2, x3⟩) (fun v h0 w1 => ?_)
  have w := w v h0 w1
  have hk : kc + m0 ≤ mc ∧ ks + n0 ≤ ms := ⟨x2, x3⟩
  obtain ⟨rfl, w⟩ := w
  refine r_iload_n X dX11_woman_5 rfl ?_
  refine r_table X dX11_woman_6 (tgt := 68) (fun k => [32, 42, 55].getD k 0) (fun _ => by decide) (fun k y1 y2 y3 => ?_) (fun q => ?_) (fun k y1 y2 y3 => ?_)
  · rcases (by omega : k = 0 ∨ k = 1 ∨ k = 2) with rfl | rfl | rfl <;> exact ⟨_, rfl, by decide⟩
  · have w := w.1 q
    obtain ⟨q2, w⟩ := w
    exact r_throwS X hz.1 (hz.2.1 (RX11, 174, 219, 178, "java/util/NoSuchElementException", "no such what of a woman") (by decide)) dX11_woman_68 dX11_woman_71 dX11_woman_72 dX11_woman_74 dX11_woman_77 (fun _ z => nomatch z) (by refine ⟨?_, ?_, q2.1, q2.2⟩ <;> simp [rmm, Value.category] <;> omega) q2.1 q2.2 w
  · rcases (by omega : k = 0 ∨ k = 1 ∨ k = 2) with rfl | rfl | rfl
    · have w := w.2.1 (by omega)
      refine r_aload_n X dX11_woman_32 rfl ?_
      obtain ⟨v3, ev3, w⟩ := w
      obtain ⟨fv3, cv3, qv3⟩ := gN_s ev3
      refine r_getf X dX11_woman_33 fl_X11_32 cv3 qv3 ?_
      obtain ⟨v4, ev4, w⟩ := w
      obtain ⟨fv4, cv4, qv4⟩ := gN_s ev4
      refine r_getf X dX11_woman_36 fl_X11_210 cv4 qv4 ?_
      refine r_iload_n X dX11_woman_39 rfl ?_
      obtain ⟨v5, ev5, w⟩ := w
      obtain ⟨nv5, fv5, cv5, iv5, qv5⟩ := aI_s ev5
      refine r_iald X dX11_woman_40 cv5 iv5 ?_
      rw [qv5]
      exact r_iret X dX11_woman_41 rfl w hk.1 hk.2
    · have w := w.2.2.1 (by omega)
      refine r_aload_n X dX11_woman_42 rfl ?_
      obtain ⟨v6, ev6, w⟩ := w
      obtain ⟨fv6, cv6, qv6⟩ := gN_s ev6
      refine r_getf X dX11_woman_43 fl_X11_42 cv6 qv6 ?_
      obtain ⟨v7, ev7, w⟩ := w
      obtain ⟨fv7, cv7, qv7⟩ := gN_s ev7
      refine r_getf X dX11_woman_46 fl_X11_84 cv7 qv7 ?_
      obtain ⟨v8, ev8, w⟩ := w
      obtain ⟨fv8, cv8, qv8⟩ := gN_s ev8
      refine r_getf X dX11_woman_49 fl_X11_213 cv8 qv8 ?_
      refine r_iload_n X dX11_woman_52 rfl ?_
      obtain ⟨v9, ev9, w⟩ := w
      obtain ⟨nv9, fv9, cv9, iv9, qv9⟩ := aI_s ev9
      refine r_iald X dX11_woman_53 cv9 iv9 ?_
      rw [qv9]
      exact r_iret X dX11_woman_54 rfl w hk.1 hk.2
    · have w := w.2.2.2 (by omega)
      refine r_aload_n X dX11_woman_55 rfl ?_
      obtain ⟨v10, ev10, w⟩ := w
      obtain ⟨fv10, cv10, qv10⟩ := gN_s ev10
      refine r_getf X dX11_woman_56 fl_X11_42 cv10 qv10 ?_
      obtain ⟨v11, ev11, w⟩ := w
      obtain ⟨fv11, cv11, qv11⟩ := gN_s ev11
      refine r_getf X dX11_woman_59 fl_X11_84 cv11 qv11 ?_
      obtain ⟨v12, ev12, w⟩ := w
      obtain ⟨fv12, cv12, qv12⟩ := gN_s ev12
      refine r_getf X dX11_woman_62 fl_X11_216 cv12 qv12 ?_
      refine r_iload_n X dX11_woman_65 rfl ?_
      obtain ⟨v13, ev13, w⟩ := w
      obtain ⟨nv13, fv13, cv13, iv13, qv13⟩ := aI_s ev13
      refine r_iald X dX11_woman_66 cv13 iv13 ?_
      rw [qv13]
      exact r_iret X dX11_woman_67 rfl w hk.1 hk.2

set_option maxRecDepth 10000 in
theorem b_X11_worst_0 {g : GG} {K : KX} {D mc ms : Nat} {Pr : Option Value → Hp → Prop} {Pt : String → Hp → Prop} {kc ks : Nat} (hg : GOK g) (hD : 8 ≤ D) (hk : kc ≤ mc ∧ ks ≤ ms) (X : CB g K cX11_worst 6 yX11_worst (some (.int)) []) (l0 : Nat) (l1 : Int32) (h : Hp)
    (w : ((l1 < (1 : Int32) → VB g K 6 D mc ms Pr Pt kc ks 11 [none, none, none, none, none, none] [] h) ∧ (¬ l1 < (1 : Int32) → ((l1 ≤ (50 : Int32) → VB g K 6 D mc ms Pr Pt kc ks 29 [some (.ref l0), some (.int l1), some (.int ((-1 : Int32))), some (.int ((-1 : Int32))), some (.int ((0 : Int32))), none] [] h) ∧ (¬ l1 ≤ (50 : Int32) → VB g K 6 D mc ms Pr Pt kc ks 11 [none, none, none, none, none, none] [] h))))) : VB g K 6 D mc ms Pr Pt kc ks 0 [some (.ref l0), some (.int l1), none, none, none, none] [] h := by
  obtain ⟨p, e, s, m, args, below, meth, c⟩ := K
  have X : CX g p s m args meth c cX11_worst 6 yX11_worst (some (.int)) [] := X
  have hz := hg s X.gk.z
  show VV g p e (rmm D mc ms) s m args below meth c 6 (QQ g below args s mc ms Pr Pt) kc ks 0 [some (.ref l0), some (.int l1), none, none, none, none] [] h
  refine r_iload_n X dX11_worst_0 rfl ?_
  refine r_iconst X dX11_worst_1 (v := 1) (by decide) ?_
  refine r_icmp_lt X dX11_worst_2 (tgt := 11) (by decide) (fun q => ?_) (fun q => ?_)
  · have w := w.1 q
    refine VB_wk (ls' := [none, none, none, none, none, none]) ?_ w
    exact trivial
  · have w := w.2 q
    refine r_iload_n X dX11_worst_5 rfl ?_
    refine r_bipush X dX11_worst_6 (v := 50) (by decide) ?_
    refine r_icmp_le X dX11_worst_8 (tgt := 22) (by decide) (fun q => ?_) (fun q => ?_)
    · have w := w.1 q
      refine r_iconst X dX11_worst_22 (v := -1) (by decide) ?_
      refine r_istore_n X dX11_worst_23 (by decide) rfl ?_
      refine r_iconst X dX11_worst_24 (v := -1) (by decide) ?_
      refine r_istore_n X dX11_worst_25 (by decide) rfl ?_
      refine r_iconst X dX11_worst_26 (v := 0) (by decide) ?_
      refine r_istore X dX11_worst_27 (by decide) rfl ?_
      refine VB_wk (ls' := [some (.ref l0), some (.int l1), some (.int ((-1 : Int32))), some (.int ((-1 : Int32))), some (.int ((0 : Int32))), none]) ?_ w
      exact (And.intro rfl (And.intro rfl (And.intro rfl (And.intro rfl (And.intro rfl trivial)))))
    · have w := w.2 q
      refine VB_wk (ls' := [none, none, none, none, none, none]) ?_ w
      exact trivial

set_option maxRecDepth 10000 in
theorem b_X11_worst_11 {g : GG} {K : KX} {D mc ms : Nat} {Pr : Option Value → Hp → Prop} {Pt : String → Hp → Prop} {kc ks : Nat} (hg : GOK g) (hD : 8 ≤ D) (hk : kc ≤ mc ∧ ks ≤ ms) (X : CB g K cX11_worst 6 yX11_worst (some (.int)) [])  (h : Hp)
    (w : ((kc + 1 ≤ mc ∧ ks + 6 ≤ ms) ∧ Pt "java/lang/IllegalArgumentException" (h ++ [dead]))) : VB g K 6 D mc ms Pr Pt kc ks 11 [none, none, none, none, none, none] [] h := by
  obtain ⟨p, e, s, m, args, below, meth, c⟩ := K
  have X : CX g p s m args meth c cX11_worst 6 yX11_worst (some (.int)) [] := X
  have hz := hg s X.gk.z
  show VV g p e (rmm D mc ms) s m args below meth c 6 (QQ g below args s mc ms Pr Pt) kc ks 11 [none, none, none, none, none, none] [] h
  obtain ⟨q1, w⟩ := w
  exact r_throwSW X hz.1 (hz.2.1 (RX11, 95, 291, 99, "java/lang/IllegalArgumentException", "a ship does not tear so much") (by decide)) dX11_worst_11 dX11_worst_14 dX11_worst_15 dX11_worst_18 dX11_worst_21 (fun _ z => nomatch z) (by refine ⟨?_, ?_, q1.1, q1.2⟩ <;> simp [rmm, Value.category] <;> omega) q1.1 q1.2 w

set_option maxRecDepth 10000 in
theorem b_X11_worst_29 {g : GG} {K : KX} {D mc ms : Nat} {Pr : Option Value → Hp → Prop} {Pt : String → Hp → Prop} {kc ks : Nat} (hg : GOK g) (hD : 8 ≤ D) (hk : kc ≤ mc ∧ ks ≤ ms) (X : CB g K cX11_worst 6 yX11_worst (some (.int)) []) (l0 : Nat) (l1 : Int32) (l2 : Int32) (l3 : Int32) (l4 : Int32) (h : Hp)
    (w : (∃ v1, gN h l0 10 6 = some v1 ∧ (∃ v2, gI h v1 9 0 = some v2 ∧ ((v2 ≤ l4 → Pr (some (.int l2)) h) ∧ (¬ v2 ≤ l4 → (∃ v3, gN h l0 10 8 = some v3 ∧ (∃ v4, gN h v3 3 0 = some v4 ∧ (∃ fs4, oF h v4 2 = some fs4 ∧ (∃ d4 P4 E4 m4 n4, CT g d4 yX2_isOpen (wsC yX2_isOpen cX2_isOpen 2 (some (.boolean))) [.ref v4, .int l4] h m4 n4 P4 E4 ∧ (d4 + 1 ≤ D ∧ kc + m4 ≤ mc ∧ ks + n4 ≤ ms) ∧ (∀ E h', E4 E h' → Pt E h') ∧ (∀ v h4, P4 v h4 → ∃ v6, v = some (.int v6) ∧ ((¬ v6 = 0 → VB g K 6 D mc ms Pr Pt ((kc + m4)) ((ks + n4)) 125 [some (.ref l0), some (.int l1), some (.int l2), some (.int l3), some (.int l4), none] [] h4) ∧ (v6 = 0 → (∃ v7, gN h4 l0 10 11 = some v7 ∧ (∃ v8, gN h4 l0 10 8 = some v8 ∧ (∃ v9, gN h4 v8 3 0 = some v9 ∧ (∃ fs9, oF h4 v7 2 = some fs9 ∧ (∃ d9 P9 E9 m9 n9, CT g d9 yX2_copyFrom (wsC yX2_copyFrom cX2_copyFrom 2 none) [.ref v7, .ref v9] h4 m9 n9 P9 E9 ∧ (d9 + 1 ≤ D ∧ (kc + m4) + m9 ≤ mc ∧ (ks + n4) + n9 ≤ ms) ∧ (∀ E h', E9 E h' → Pt E h') ∧ (∀ v h9, P9 v h9 → v = none ∧ (∃ v11, gN h9 l0 10 11 = some v11 ∧ (∃ v12, gN h9 l0 10 6 = some v12 ∧ (∃ fs12, oF h9 v11 2 = some fs12 ∧ (∃ d12 P12 E12 m12 n12, CT g d12 yX2_tearOff (wsC yX2_tearOff cX2_tearOff 4 none) [.ref v11, .ref v12, .int l4, .int l1] h9 m12 n12 P12 E12 ∧ (d12 + 1 ≤ D ∧ ((kc + m4) + m9) + m12 ≤ mc ∧ ((ks + n4) + n9) + n12 ≤ ms) ∧ (∀ E h', E12 E h' → Pt E h') ∧ (∀ v h12, P12 v h12 → v = none ∧ (∃ v14, gN h12 l0 10 11 = some v14 ∧ (∃ v15, gN h12 l0 10 6 = some v15 ∧ (∃ fs15, oF h12 v14 2 = some fs15 ∧ (∃ d15 P15 E15 m15 n15, CT g d15 yX2_passDays (wsC yX2_passDays cX2_passDays 4 none) [.ref v14, .ref v15, .int ((7 : Int32))] h12 m15 n15 P15 E15 ∧ (d15 + 1 ≤ D ∧ (((kc + m4) + m9) + m12) + m15 ≤ mc ∧ (((ks + n4) + n9) + n12) + n15 ≤ ms) ∧ (∀ E h', E15 E h' → Pt E h') ∧ (∀ v h15, P15 v h15 → v = none ∧ (∃ v17, gN h15 l0 10 11 = some v17 ∧ (∃ v18, gN h15 l0 10 6 = some v18 ∧ (∃ fs18, oF h15 v17 2 = some fs18 ∧ (∃ d18 P18 E18 m18 n18, CT g d18 yX2_openBits (wsC yX2_openBits cX2_openBits 4 (some (.int))) [.ref v17, .ref v18] h15 m18 n18 P18 E18 ∧ (d18 + 1 ≤ D ∧ ((((kc + m4) + m9) + m12) + m15) + m18 ≤ mc ∧ ((((ks + n4) + n9) + n12) + n15) + n18 ≤ ms) ∧ (∀ E h', E18 E h' → Pt E h') ∧ (∀ v h18, P18 v h18 → ∃ v20, v = some (.int v20) ∧ (∃ d20 P20 E20 m20 n20, CT g d20 yJ6_bitCount_0f7a4 (wsC yJ6_bitCount_0f7a4 cJ6_bitCount_0f7a4 1 (some (.int))) [.int v20] h18 m20 n20 P20 E20 ∧ (d20 + 1 ≤ D ∧ (((((kc + m4) + m9) + m12) + m15) + m18) + m20 ≤ mc ∧ (((((ks + n4) + n9) + n12) + n15) + n18) + n20 ≤ ms) ∧ (∀ E h', E20 E h' → Pt E h') ∧ (∀ v h20, P20 v h20 → ∃ v22, v = some (.int v22) ∧ ((v22 ≤ l3 → VB g K 6 D mc ms Pr Pt (((((((kc + m4) + m9) + m12) + m15) + m18) + m20)) (((((((ks + n4) + n9) + n12) + n15) + n18) + n20)) 125 [some (.ref l0), some (.int l1), some (.int l2), some (.int l3), some (.int l4), none] [] h20) ∧ (¬ v22 ≤ l3 → VB g K 6 D mc ms Pr Pt (((((((kc + m4) + m9) + m12) + m15) + m18) + m20)) (((((((ks + n4) + n9) + n12) + n15) + n18) + n20)) 125 [some (.ref l0), some (.int l1), some (.int l4), some (.int v22), some (.int l4), none] [] h20))))))))))))))))))))))))))))))))))))) : VB g K 6 D mc ms Pr Pt kc ks 29 [some (.ref l0), some (.int l1), some (.int l2), some (.int l3), some (.int l4), none] [] h := by
  obtain ⟨p, e, s, m, args, below, meth, c⟩ := K
  have X : CX g p s m args meth c cX11_worst 6 yX11_worst (some (.int)) [] := X
  have hz := hg s X.gk.z
  show VV g p e (rmm D mc ms) s m args below meth c 6 (QQ g below args s mc ms Pr Pt) kc ks 29 [some (.ref l0), some (.int l1), some (.int l2), some (.int l3), some (.int l4), none] [] h
  refine r_iload X dX11_worst_29 rfl ?_
  refine r_aload_n X dX11_worst_31 rfl ?_
  obtain ⟨v1, ev1, w⟩ := w
  obtain ⟨fv1, cv1, qv1⟩ := gN_s ev1
  refine r_getf X dX11_worst_32 fl_X11_32 cv1 qv1 ?_
  obtain ⟨v2, ev2, w⟩ := w
  obtain ⟨fv2, cv2, qv2⟩ := gI_s ev2
  refine r_getf X dX11_worst_35 fl_X11_141 cv2 qv2 ?_
  refine r_icmp_ge X dX11_worst_38 (tgt := 131) (by decide) (fun q => ?_) (fun q => ?_)
  · have w := w.1 q
    refine r_iload_n X dX11_worst_131 rfl ?_
    exact r_iret X dX11_worst_132 rfl w hk.1 hk.2
  · have w := w.2 q
    refine r_aload_n X dX11_worst_41 rfl ?_
    obtain ⟨v3, ev3, w⟩ := w
    obtain ⟨fv3, cv3, qv3⟩ := gN_s ev3
    refine r_getf X dX11_worst_42 fl_X11_42 cv3 qv3 ?_
    obtain ⟨v4, ev4, w⟩ := w
    obtain ⟨fv4, cv4, qv4⟩ := gN_s ev4
    refine r_getf X dX11_worst_45 fl_X11_84 cv4 qv4 ?_
    refine r_iload X dX11_worst_48 rfl ?_
    obtain ⟨fs4, es4, w⟩ := w
    obtain ⟨d4, P4, E4, m4, n4, ct4, w⟩ := w
    obtain ⟨⟨x1, x2, x3⟩, w⟩ := w
    obtain ⟨x4, w⟩ := w
    refine r_callV X (As := [.int l4]) dX11_worst_50 mk_X2_isOpen ⟨ml_X11_195, im_X2_isOpen, se_X2_isOpen⟩ (oF_s es4) (ci_X2).1 rfl rfl rfl (by simp [Value.category]) ⟨x1, by show 60 * (d4 + 1) + 200 ≤ 60 * D + 200; omega⟩ ⟨x2, x3⟩ ct4 x4 (fun _ z => nomatch z) (fun _ => ⟨x2, x3⟩) (fun v h4 w1 => ?_)
    have w := w v h4 w1
    have hk : kc + m4 ≤ mc ∧ ks + n4 ≤ ms := ⟨x2, x3⟩
    obtain ⟨v6, rfl, w⟩ := w
    refine r_if_ne X dX11_worst_53 (tgt := 125) (by decide) (fun q => ?_) (fun q => ?_)
    · have w := w.1 q
      refine VB_wk (ls' := [some (.ref l0), some (.int l1), some (.int l2), some (.int l3), some (.int l4), none]) ?_ w
      exact (And.intro rfl (And.intro rfl (And.intro rfl (And.intro rfl (And.intro rfl trivial)))))
    · have w := w.2 q
      refine r_aload_n X dX11_worst_56 rfl ?_
      obtain ⟨v7, ev7, w⟩ := w
      obtain ⟨fv7, cv7, qv7⟩ := gN_s ev7
      refine r_getf X dX11_worst_57 fl_X11_56 cv7 qv7 ?_
      refine r_aload_n X dX11_worst_60 rfl ?_
      obtain ⟨v8, ev8, w⟩ := w
      obtain ⟨fv8, cv8, qv8⟩ := gN_s ev8
      refine r_getf X dX11_worst_61 fl_X11_42 cv8 qv8 ?_
      obtain ⟨v9, ev9, w⟩ := w
      obtain ⟨fv9, cv9, qv9⟩ := gN_s ev9
      refine r_getf X dX11_worst_64 fl_X11_84 cv9 qv9 ?_
      obtain ⟨fs9, es9, w⟩ := w
      obtain ⟨d9, P9, E9, m9, n9, ct9, w⟩ := w
      obtain ⟨⟨x1, x2, x3⟩, w⟩ := w
      obtain ⟨x4, w⟩ := w
      refine r_callV X (As := [.ref v9]) dX11_worst_67 mk_X2_copyFrom ⟨ml_X11_123, im_X2_copyFrom, se_X2_copyFrom⟩ (oF_s es9) (ci_X2).1 rfl rfl rfl (by simp [Value.category]) ⟨x1, by show 60 * (d9 + 1) + 200 ≤ 60 * D + 200; omega⟩ ⟨x2, x3⟩ ct9 x4 (fun _ z => nomatch z) (fun _ => ⟨x2, x3⟩) (fun v h9 w1 => ?_)
      have w := w v h9 w1
      have hk : (kc + m4) + m9 ≤ mc ∧ (ks + n4) + n9 ≤ ms := ⟨x2, x3⟩
      obtain ⟨rfl, w⟩ := w
      refine r_aload_n X dX11_worst_70 rfl ?_
      obtain ⟨v11, ev11, w⟩ := w
      obtain ⟨fv11, cv11, qv11⟩ := gN_s ev11
      refine r_getf X dX11_worst_71 fl_X11_56 cv11 qv11 ?_
      refine r_aload_n X dX11_worst_74 rfl ?_
      obtain ⟨v12, ev12, w⟩ := w
      obtain ⟨fv12, cv12, qv12⟩ := gN_s ev12
      refine r_getf X dX11_worst_75 fl_X11_32 cv12 qv12 ?_
      refine r_iload X dX11_worst_78 rfl ?_
      refine r_iload_n X dX11_worst_80 rfl ?_
      obtain ⟨fs12, es12, w⟩ := w
      obtain ⟨d12, P12, E12, m12, n12, ct12, w⟩ := w
      obtain ⟨⟨x1, x2, x3⟩, w⟩ := w
      obtain ⟨x4, w⟩ := w
      refine r_callV X (As := [.ref v12, .int l4, .int l1]) dX11_worst_81 mk_X2_tearOff ⟨ml_X11_243, im_X2_tearOff, se_X2_tearOff⟩ (oF_s es12) (ci_X2).1 rfl rfl rfl (by simp [Value.category]) ⟨x1, by show 60 * (d12 + 1) + 200 ≤ 60 * D + 200; omega⟩ ⟨x2, x3⟩ ct12 x4 (fun _ z => nomatch z) (fun _ => ⟨x2, x3⟩) (fun v h12 w1 => ?_)
      have w := w v h12 w1
      have hk : ((kc + m4) + m9) + m12 ≤ mc ∧ ((ks + n4) + n9) + n12 ≤ ms := ⟨x2, x3⟩
      obtain ⟨rfl, w⟩ := w
      refine r_aload_n X dX11_worst_84 rfl ?_
      obtain ⟨v14, ev14, w⟩ := w
      obtain ⟨fv14, cv14, qv14⟩ := gN_s ev14
      refine r_getf X dX11_worst_85 fl_X11_56 cv14 qv14 ?_
      refine r_aload_n X dX11_worst_88 rfl ?_
      obtain ⟨v15, ev15, w⟩ := w
      obtain ⟨fv15, cv15, qv15⟩ := gN_s ev15
      refine r_getf X dX11_worst_89 fl_X11_32 cv15 qv15 ?_
      refine r_bipush X dX11_worst_92 (v := 7) (by decide) ?_
      obtain ⟨fs15, es15, w⟩ := w
      obtain ⟨d15, P15, E15, m15, n15, ct15, w⟩ := w
      obtain ⟨⟨x1, x2, x3⟩, w⟩ := w
      obtain ⟨x4, w⟩ := w
      refine r_callV X (As := [.ref v15, .int ((7 : Int32))]) dX11_worst_94 mk_X2_passDays ⟨ml_X11_228, im_X2_passDays, se_X2_passDays⟩ (oF_s es15) (ci_X2).1 rfl rfl rfl (by simp [Value.category]) ⟨x1, by show 60 * (d15 + 1) + 200 ≤ 60 * D + 200; omega⟩ ⟨x2, x3⟩ ct15 x4 (fun _ z => nomatch z) (fun _ => ⟨x2, x3⟩) (fun v h15 w1 => ?_)
      have w := w v h15 w1
      have hk : (((kc + m4) + m9) + m12) + m15 ≤ mc ∧ (((ks + n4) + n9) + n12) + n15 ≤ ms := ⟨x2, x3⟩
      obtain ⟨rfl, w⟩ := w
      refine r_aload_n X dX11_worst_97 rfl ?_
      obtain ⟨v17, ev17, w⟩ := w
      obtain ⟨fv17, cv17, qv17⟩ := gN_s ev17
      refine r_getf X dX11_worst_98 fl_X11_56 cv17 qv17 ?_
      refine r_aload_n X dX11_worst_101 rfl ?_
      obtain ⟨v18, ev18, w⟩ := w
      obtain ⟨fv18, cv18, qv18⟩ := gN_s ev18
      refine r_getf X dX11_worst_102 fl_X11_32 cv18 qv18 ?_
      obtain ⟨fs18, es18, w⟩ := w
      obtain ⟨d18, P18, E18, m18, n18, ct18, w⟩ := w
      obtain ⟨⟨x1, x2, x3⟩, w⟩ := w
      obtain ⟨x4, w⟩ := w
      refine r_callV X (As := [.ref v18]) dX11_worst_105 mk_X2_openBits ⟨ml_X11_159, im_X2_openBits, se_X2_openBits⟩ (oF_s es18) (ci_X2).1 rfl rfl rfl (by simp [Value.category]) ⟨x1, by show 60 * (d18 + 1) + 200 ≤ 60 * D + 200; omega⟩ ⟨x2, x3⟩ ct18 x4 (fun _ z => nomatch z) (fun _ => ⟨x2, x3⟩) (fun v h18 w1 => ?_)
      have w := w v h18 w1
      have hk : ((((kc + m4) + m9) + m12) + m15) + m18 ≤ mc ∧ ((((ks + n4) + n9) + n12) + n15) + n18 ≤ ms := ⟨x2, x3⟩
      obtain ⟨v20, rfl, w⟩ := w
      obtain ⟨d20, P20, E20, m20, n20, ct20, w⟩ := w
      obtain ⟨⟨x1, x2, x3⟩, w⟩ := w
      obtain ⟨x4, w⟩ := w
      refine r_callS X (As := [.int v20]) dX11_worst_108 mk_J6_bitCount_0f7a4 ⟨ml_X11_286, sm_J6_bitCount_0f7a4⟩ rfl rfl (by simp [Value.category]) ⟨x1, by show 60 * (d20 + 1) + 200 ≤ 60 * D + 200; omega⟩ ⟨x2, x3⟩ ct20 x4 (fun _ z => nomatch z) (fun _ => ⟨x2, x3⟩) (fun v h20 w1 => ?_)
      have w := w v h20 w1
      have hk : (((((kc + m4) + m9) + m12) + m15) + m18) + m20 ≤ mc ∧ (((((ks + n4) + n9) + n12) + n15) + n18) + n20 ≤ ms := ⟨x2, x3⟩
      obtain ⟨v22, rfl, w⟩ := w
      refine r_istore X dX11_worst_111 (by decide) rfl ?_
      refine r_iload X dX11_worst_113 rfl ?_
      refine r_iload_n X dX11_worst_115 rfl ?_
      refine r_icmp_le X dX11_worst_116 (tgt := 125) (by decide) (fun q => ?_) (fun q => ?_)
      · have w := w.1 q
        refine VB_wk (ls' := [some (.ref l0), some (.int l1), some (.int l2), some (.int l3), some (.int l4), none]) ?_ w
        exact (And.intro rfl (And.intro rfl (And.intro rfl (And.intro rfl (And.intro rfl trivial)))))
      · have w := w.2 q
        refine r_iload X dX11_worst_119 rfl ?_
        refine r_istore_n X dX11_worst_121 (by decide) rfl ?_
        refine r_iload X dX11_worst_122 rfl ?_
        refine r_istore_n X dX11_worst_124 (by decide) rfl ?_
        refine VB_wk (ls' := [some (.ref l0), some (.int l1), some (.int l4), some (.int v22), some (.int l4), none]) ?_ w
        exact (And.intro rfl (And.intro rfl (And.intro rfl (And.intro rfl (And.intro rfl trivial)))))

set_option maxRecDepth 10000 in
theorem b_X11_worst_125 {g : GG} {K : KX} {D mc ms : Nat} {Pr : Option Value → Hp → Prop} {Pt : String → Hp → Prop} {kc ks : Nat} (hg : GOK g) (hD : 8 ≤ D) (hk : kc ≤ mc ∧ ks ≤ ms) (X : CB g K cX11_worst 6 yX11_worst (some (.int)) []) (l0 : Nat) (l1 : Int32) (l2 : Int32) (l3 : Int32) (l4 : Int32) (h : Hp)
    (w : VB g K 6 D mc ms Pr Pt kc ks 29 [some (.ref l0), some (.int l1), some (.int l2), some (.int l3), some (.int ((l4 + 1))), none] [] h) : VB g K 6 D mc ms Pr Pt kc ks 125 [some (.ref l0), some (.int l1), some (.int l2), some (.int l3), some (.int l4), none] [] h := by
  obtain ⟨p, e, s, m, args, below, meth, c⟩ := K
  have X : CX g p s m args meth c cX11_worst 6 yX11_worst (some (.int)) [] := X
  have hz := hg s X.gk.z
  show VV g p e (rmm D mc ms) s m args below meth c 6 (QQ g below args s mc ms Pr Pt) kc ks 125 [some (.ref l0), some (.int l1), some (.int l2), some (.int l3), some (.int l4), none] [] h
  refine r_iinc X dX11_worst_125 rfl (v := (l4 + 1)) rfl (by decide) rfl ?_
  refine r_goto X dX11_worst_128 (tgt := 29) (by decide) ?_
  refine VB_wk (ls' := [some (.ref l0), some (.int l1), some (.int l2), some (.int l3), some (.int ((l4 + 1))), none]) ?_ w
  exact (And.intro rfl (And.intro rfl (And.intro rfl (And.intro rfl (And.intro rfl trivial)))))

set_option maxRecDepth 10000 in
theorem b_X11_years_0 {g : GG} {K : KX} {D mc ms : Nat} {Pr : Option Value → Hp → Prop} {Pt : String → Hp → Prop} {kc ks : Nat} (hg : GOK g) (hD : 8 ≤ D) (hk : kc ≤ mc ∧ ks ≤ ms) (X : CB g K cX11_years 5 yX11_years (some (.int)) []) (l0 : Nat) (l1 : Int32) (l2 : Int32) (l3 : Int32) (h : Hp)
    (w : (∃ d0 P0 E0 m0 n0, CT g d0 yX11_needWhat (wsC yX11_needWhat cX11_needWhat 2 none) [.int l3, .int ((2 : Int32))] h m0 n0 P0 E0 ∧ (d0 + 1 ≤ D ∧ kc + m0 ≤ mc ∧ ks + n0 ≤ ms) ∧ (∀ E h', E0 E h' → Pt E h') ∧ (∀ v h0, P0 v h0 → v = none ∧ (∃ d1 P1 E1 m1 n1, CT g d1 yX11_needDays (wsC yX11_needDays cX11_needDays 2 none) [.int l2, .int ((0 : Int32))] h0 m1 n1 P1 E1 ∧ (d1 + 1 ≤ D ∧ (kc + m0) + m1 ≤ mc ∧ (ks + n0) + n1 ≤ ms) ∧ (∀ E h', E1 E h' → Pt E h') ∧ (∀ v h1, P1 v h1 → v = none ∧ (∃ v3, gN h1 l0 10 11 = some v3 ∧ (∃ v4, gN h1 l0 10 8 = some v4 ∧ (∃ v5, gN h1 v4 3 0 = some v5 ∧ (∃ fs5, oF h1 v3 2 = some fs5 ∧ (∃ d5 P5 E5 m5 n5, CT g d5 yX2_copyFrom (wsC yX2_copyFrom cX2_copyFrom 2 none) [.ref v3, .ref v5] h1 m5 n5 P5 E5 ∧ (d5 + 1 ≤ D ∧ ((kc + m0) + m1) + m5 ≤ mc ∧ ((ks + n0) + n1) + n5 ≤ ms) ∧ (∀ E h', E5 E h' → Pt E h') ∧ (∀ v h5, P5 v h5 → v = none ∧ (∃ h7, pF h5 l0 10 14 (.int l1) = some h7 ∧ VB g K 5 D mc ms Pr Pt ((((kc + m0) + m1) + m5)) ((((ks + n0) + n1) + n5)) 32 [some (.ref l0), none, some (.int l2), some (.int l3), some (.int ((0 : Int32)))] [] h7)))))))))))) : VB g K 5 D mc ms Pr Pt kc ks 0 [some (.ref l0), some (.int l1), some (.int l2), some (.int l3), none] [] h := by
  obtain ⟨p, e, s, m, args, below, meth, c⟩ := K
  have X : CX g p s m args meth c cX11_years 5 yX11_years (some (.int)) [] := X
  have hz := hg s X.gk.z
  show VV g p e (rmm D mc ms) s m args below meth c 5 (QQ g below args s mc ms Pr Pt) kc ks 0 [some (.ref l0), some (.int l1), some (.int l2), some (.int l3), none] [] h
  refine r_iload_n X dX11_years_0 rfl ?_
  refine r_iconst X dX11_years_1 (v := 2) (by decide) ?_
  obtain ⟨d0, P0, E0, m0, n0, ct0, w⟩ := w
  obtain ⟨⟨x1, x2, x3⟩, w⟩ := w
  obtain ⟨x4, w⟩ := w
  refine r_callS X (As := [.int l3, .int ((2 : Int32))]) dX11_years_2 mk_X11_needWhat ⟨ml_X11_250, sm_X11_needWhat⟩ rfl rfl (by simp [Value.category]) ⟨x1, by show 60 * (d0 + 1) + 200 ≤ 60 * D + 200; omega⟩ ⟨x2, x3⟩ ct0 x4 (fun _ z => nomatch z) (fun _ => ⟨x2, x3⟩) (fun v h0 w1 => ?_)
  have w := w v h0 w1
  have hk : kc + m0 ≤ mc ∧ ks + n0 ≤ ms := ⟨x2, x3⟩
  obtain ⟨rfl, w⟩ := w
  refine r_iload_n X dX11_years_5 rfl ?_
  refine r_iconst X dX11_years_6 (v := 0) (by decide) ?_
  obtain ⟨d1, P1, E1, m1, n1, ct1, w⟩ := w
  obtain ⟨⟨x1, x2, x3⟩, w⟩ := w
  obtain ⟨x4, w⟩ := w
  refine r_callS X (As := [.int l2, .int ((0 : Int32))]) dX11_years_7 mk_X11_needDays ⟨ml_X11_253, sm_X11_needDays⟩ rfl rfl (by simp [Value.category]) ⟨x1, by show 60 * (d1 + 1) + 200 ≤ 60 * D + 200; omega⟩ ⟨x2, x3⟩ ct1 x4 (fun _ z => nomatch z) (fun _ => ⟨x2, x3⟩) (fun v h1 w1 => ?_)
  have w := w v h1 w1
  have hk : (kc + m0) + m1 ≤ mc ∧ (ks + n0) + n1 ≤ ms := ⟨x2, x3⟩
  obtain ⟨rfl, w⟩ := w
  refine r_aload_n X dX11_years_10 rfl ?_
  obtain ⟨v3, ev3, w⟩ := w
  obtain ⟨fv3, cv3, qv3⟩ := gN_s ev3
  refine r_getf X dX11_years_11 fl_X11_56 cv3 qv3 ?_
  refine r_aload_n X dX11_years_14 rfl ?_
  obtain ⟨v4, ev4, w⟩ := w
  obtain ⟨fv4, cv4, qv4⟩ := gN_s ev4
  refine r_getf X dX11_years_15 fl_X11_42 cv4 qv4 ?_
  obtain ⟨v5, ev5, w⟩ := w
  obtain ⟨fv5, cv5, qv5⟩ := gN_s ev5
  refine r_getf X dX11_years_18 fl_X11_84 cv5 qv5 ?_
  obtain ⟨fs5, es5, w⟩ := w
  obtain ⟨d5, P5, E5, m5, n5, ct5, w⟩ := w
  obtain ⟨⟨x1, x2, x3⟩, w⟩ := w
  obtain ⟨x4, w⟩ := w
  refine r_callV X (As := [.ref v5]) dX11_years_21 mk_X2_copyFrom ⟨ml_X11_123, im_X2_copyFrom, se_X2_copyFrom⟩ (oF_s es5) (ci_X2).1 rfl rfl rfl (by simp [Value.category]) ⟨x1, by show 60 * (d5 + 1) + 200 ≤ 60 * D + 200; omega⟩ ⟨x2, x3⟩ ct5 x4 (fun _ z => nomatch z) (fun _ => ⟨x2, x3⟩) (fun v h5 w1 => ?_)
  have w := w v h5 w1
  have hk : ((kc + m0) + m1) + m5 ≤ mc ∧ ((ks + n0) + n1) + n5 ≤ ms := ⟨x2, x3⟩
  obtain ⟨rfl, w⟩ := w
  refine r_aload_n X dX11_years_24 rfl ?_
  refine r_iload_n X dX11_years_25 rfl ?_
  obtain ⟨h7, eh7, w⟩ := w
  obtain ⟨fh7, ch7, lh7, rh7⟩ := pF_s eh7
  subst rh7
  refine r_putf X dX11_years_26 fw_X11_70 ch7 lh7 rfl rfl ?_
  refine r_iconst X dX11_years_29 (v := 0) (by decide) ?_
  refine r_istore X dX11_years_30 (by decide) rfl ?_
  refine VB_wk (ls' := [some (.ref l0), none, some (.int l2), some (.int l3), some (.int ((0 : Int32)))]) ?_ w
  exact (And.intro rfl (And.intro rfl (And.intro rfl (And.intro rfl trivial))))

set_option maxRecDepth 10000 in
theorem b_X11_years_32 {g : GG} {K : KX} {D mc ms : Nat} {Pr : Option Value → Hp → Prop} {Pt : String → Hp → Prop} {kc ks : Nat} (hg : GOK g) (hD : 8 ≤ D) (hk : kc ≤ mc ∧ ks ≤ ms) (X : CB g K cX11_years 5 yX11_years (some (.int)) []) (l0 : Nat) (l2 : Int32) (l3 : Int32) (l4 : Int32) (h : Hp)
    (w : ((l2 ≤ l4 → (((l3).toInt = 0 → (∃ v1, gN h l0 10 11 = some v1 ∧ (∃ v2, gN h l0 10 6 = some v2 ∧ (∃ fs2, oF h v1 2 = some fs2 ∧ (∃ d2 P2 E2 m2 n2, CT g d2 yX2_openBits (wsC yX2_openBits cX2_openBits 4 (some (.int))) [.ref v1, .ref v2] h m2 n2 P2 E2 ∧ (d2 + 1 ≤ D ∧ kc + m2 ≤ mc ∧ ks + n2 ≤ ms) ∧ (∀ E h', E2 E h' → Pt E h') ∧ (∀ v h2, P2 v h2 → ∃ v4, v = some (.int v4) ∧ (∃ d4 P4 E4 m4 n4, CT g d4 yJ6_bitCount_0f7a4 (wsC yJ6_bitCount_0f7a4 cJ6_bitCount_0f7a4 1 (some (.int))) [.int v4] h2 m4 n4 P4 E4 ∧ (d4 + 1 ≤ D ∧ (kc + m2) + m4 ≤ mc ∧ (ks + n2) + n4 ≤ ms) ∧ (∀ E h', E4 E h' → Pt E h') ∧ (∀ v h4, P4 v h4 → ∃ v6, v = some (.int v6) ∧ Pr (some (.int v6)) h4)))))))) ∧ (((l3).toInt = 1 → (∃ v7, gN h l0 10 11 = some v7 ∧ (∃ v8, gN h l0 10 6 = some v8 ∧ (∃ fs8, oF h v7 2 = some fs8 ∧ (∃ d8 P8 E8 m8 n8, CT g d8 yX2_seamOfAll (wsC yX2_seamOfAll cX2_seamOfAll 4 (some (.int))) [.ref v7, .ref v8] h m8 n8 P8 E8 ∧ (d8 + 1 ≤ D ∧ kc + m8 ≤ mc ∧ ks + n8 ≤ ms) ∧ (∀ E h', E8 E h' → Pt E h') ∧ (∀ v h8, P8 v h8 → ∃ v10, v = some (.int v10) ∧ Pr (some (.int v10)) h8)))))) ∧ ((¬ (l3).toInt = 0 ∧ ¬ (l3).toInt = 1) → (∃ v11, gN h l0 10 11 = some v11 ∧ (∃ v12, gN h l0 10 6 = some v12 ∧ (∃ fs12, oF h v11 2 = some fs12 ∧ (∃ d12 P12 E12 m12 n12, CT g d12 yX2_threadOfAll (wsC yX2_threadOfAll cX2_threadOfAll 4 (some (.int))) [.ref v11, .ref v12] h m12 n12 P12 E12 ∧ (d12 + 1 ≤ D ∧ kc + m12 ≤ mc ∧ ks + n12 ≤ ms) ∧ (∀ E h', E12 E h' → Pt E h') ∧ (∀ v h12, P12 v h12 → ∃ v14, v = some (.int v14) ∧ Pr (some (.int v14)) h12))))))))) ∧ (¬ l2 ≤ l4 → (∃ fs14, oF h l0 10 = some fs14 ∧ (∃ d14 P14 E14 m14 n14, CT g d14 yX11_befall (wsC yX11_befall cX11_befall 4 none) [.ref l0] h m14 n14 P14 E14 ∧ (d14 + 1 ≤ D ∧ kc + m14 ≤ mc ∧ ks + n14 ≤ ms) ∧ (∀ E h', E14 E h' → Pt E h') ∧ (∀ v h14, P14 v h14 → v = none ∧ (∃ v16, gN h14 l0 10 11 = some v16 ∧ (∃ v17, gN h14 l0 10 6 = some v17 ∧ (∃ fs17, oF h14 v16 2 = some fs17 ∧ (∃ d17 P17 E17 m17 n17, CT g d17 yX2_passDay (wsC yX2_passDay cX2_passDay 3 none) [.ref v16, .ref v17] h14 m17 n17 P17 E17 ∧ (d17 + 1 ≤ D ∧ (kc + m14) + m17 ≤ mc ∧ (ks + n14) + n17 ≤ ms) ∧ (∀ E h', E17 E h' → Pt E h') ∧ (∀ v h17, P17 v h17 → v = none ∧ VB g K 5 D mc ms Pr Pt (((kc + m14) + m17)) (((ks + n14) + n17)) 32 [some (.ref l0), none, some (.int l2), some (.int l3), some (.int ((l4 + 1)))] [] h17))))))))))) : VB g K 5 D mc ms Pr Pt kc ks 32 [some (.ref l0), none, some (.int l2), some (.int l3), some (.int l4)] [] h := by
  obtain ⟨p, e, s, m, args, below, meth, c⟩ := K
  have X : CX g p s m args meth c cX11_years 5 yX11_years (some (.int)) [] := X
  have hz := hg s X.gk.z
  show VV g p e (rmm D mc ms) s m args below meth c 5 (QQ g below args s mc ms Pr Pt) kc ks 32 [some (.ref l0), none, some (.int l2), some (.int l3), some (.int l4)] [] h
  refine r_iload X dX11_years_32 rfl ?_
  refine r_iload_n X dX11_years_34 rfl ?_
  refine r_icmp_ge X dX11_years_35 (tgt := 59) (by decide) (fun q => ?_) (fun q => ?_)
  · have w := w.1 q
    refine r_iload_n X dX11_years_59 rfl ?_
    by_cases y0 : (l3).toInt = 0
    · have w := w.1 y0
      refine r_lookup X dX11_years_60 (tgt := 88) (by decide) (by rw [y0]) (by decide) ?_
      refine r_aload_n X dX11_years_88 rfl ?_
      obtain ⟨v1, ev1, w⟩ := w
      obtain ⟨fv1, cv1, qv1⟩ := gN_s ev1
      refine r_getf X dX11_years_89 fl_X11_56 cv1 qv1 ?_
      refine r_aload_n X dX11_years_92 rfl ?_
      obtain ⟨v2, ev2, w⟩ := w
      obtain ⟨fv2, cv2, qv2⟩ := gN_s ev2
      refine r_getf X dX11_years_93 fl_X11_32 cv2 qv2 ?_
      obtain ⟨fs2, es2, w⟩ := w
      obtain ⟨d2, P2, E2, m2, n2, ct2, w⟩ := w
      obtain ⟨⟨x1, x2, x3⟩, w⟩ := w
      obtain ⟨x4, w⟩ := w
      refine r_callV X (As := [.ref v2]) dX11_years_96 mk_X2_openBits ⟨ml_X11_159, im_X2_openBits, se_X2_openBits⟩ (oF_s es2) (ci_X2).1 rfl rfl rfl (by simp [Value.category]) ⟨x1, by show 60 * (d2 + 1) + 200 ≤ 60 * D + 200; omega⟩ ⟨x2, x3⟩ ct2 x4 (fun _ z => nomatch z) (fun _ => ⟨x2, x3⟩) (fun v h2 w1 => ?_)
      have w := w v h2 w1
      have hk : kc + m2 ≤ mc ∧ ks + n2 ≤ ms := ⟨x2, x3⟩
      obtain ⟨v4, rfl, w⟩ := w
      obtain ⟨d4, P4, E4, m4, n4, ct4, w⟩ := w
      obtain ⟨⟨x1, x2, x3⟩, w⟩ := w
      obtain ⟨x4, w⟩ := w
      refine r_callS X (As := [.int v4]) dX11_years_99 mk_J6_bitCount_0f7a4 ⟨ml_X11_286, sm_J6_bitCount_0f7a4⟩ rfl rfl (by simp [Value.category]) ⟨x1, by show 60 * (d4 + 1) + 200 ≤ 60 * D + 200; omega⟩ ⟨x2, x3⟩ ct4 x4 (fun _ z => nomatch z) (fun _ => ⟨x2, x3⟩) (fun v h4 w1 => ?_)
      have w := w v h4 w1
      have hk : (kc + m2) + m4 ≤ mc ∧ (ks + n2) + n4 ≤ ms := ⟨x2, x3⟩
      obtain ⟨v6, rfl, w⟩ := w
      exact r_iret X dX11_years_102 rfl w hk.1 hk.2
    ·
      by_cases y1 : (l3).toInt = 1
      · have w := w.2.1 y1
        refine r_lookup X dX11_years_60 (tgt := 103) (by decide) (by rw [y1]) (by decide) ?_
        refine r_aload_n X dX11_years_103 rfl ?_
        obtain ⟨v7, ev7, w⟩ := w
        obtain ⟨fv7, cv7, qv7⟩ := gN_s ev7
        refine r_getf X dX11_years_104 fl_X11_56 cv7 qv7 ?_
        refine r_aload_n X dX11_years_107 rfl ?_
        obtain ⟨v8, ev8, w⟩ := w
        obtain ⟨fv8, cv8, qv8⟩ := gN_s ev8
        refine r_getf X dX11_years_108 fl_X11_32 cv8 qv8 ?_
        obtain ⟨fs8, es8, w⟩ := w
        obtain ⟨d8, P8, E8, m8, n8, ct8, w⟩ := w
        obtain ⟨⟨x1, x2, x3⟩, w⟩ := w
        obtain ⟨x4, w⟩ := w
        refine r_callV X (As := [.ref v8]) dX11_years_111 mk_X2_seamOfAll ⟨ml_X11_163, im_X2_seamOfAll, se_X2_seamOfAll⟩ (oF_s es8) (ci_X2).1 rfl rfl rfl (by simp [Value.category]) ⟨x1, by show 60 * (d8 + 1) + 200 ≤ 60 * D + 200; omega⟩ ⟨x2, x3⟩ ct8 x4 (fun _ z => nomatch z) (fun _ => ⟨x2, x3⟩) (fun v h8 w1 => ?_)
        have w := w v h8 w1
        have hk : kc + m8 ≤ mc ∧ ks + n8 ≤ ms := ⟨x2, x3⟩
        obtain ⟨v10, rfl, w⟩ := w
        exact r_iret X dX11_years_114 rfl w hk.1 hk.2
      ·
        have w := w.2.2 ⟨y0, y1⟩
        have z0 : ¬ (0 : Int) = (l3).toInt := fun q => y0 q.symm
        have z1 : ¬ (1 : Int) = (l3).toInt := fun q => y1 q.symm
        refine r_lookup X dX11_years_60 (tgt := 115) (off := 55) (by decide) (by simp [Op.lookupswitch.offset, z0, z1]) (by decide) ?_
        refine r_aload_n X dX11_years_115 rfl ?_
        obtain ⟨v11, ev11, w⟩ := w
        obtain ⟨fv11, cv11, qv11⟩ := gN_s ev11
        refine r_getf X dX11_years_116 fl_X11_56 cv11 qv11 ?_
        refine r_aload_n X dX11_years_119 rfl ?_
        obtain ⟨v12, ev12, w⟩ := w
        obtain ⟨fv12, cv12, qv12⟩ := gN_s ev12
        refine r_getf X dX11_years_120 fl_X11_32 cv12 qv12 ?_
        obtain ⟨fs12, es12, w⟩ := w
        obtain ⟨d12, P12, E12, m12, n12, ct12, w⟩ := w
        obtain ⟨⟨x1, x2, x3⟩, w⟩ := w
        obtain ⟨x4, w⟩ := w
        refine r_callV X (As := [.ref v12]) dX11_years_123 mk_X2_threadOfAll ⟨ml_X11_166, im_X2_threadOfAll, se_X2_threadOfAll⟩ (oF_s es12) (ci_X2).1 rfl rfl rfl (by simp [Value.category]) ⟨x1, by show 60 * (d12 + 1) + 200 ≤ 60 * D + 200; omega⟩ ⟨x2, x3⟩ ct12 x4 (fun _ z => nomatch z) (fun _ => ⟨x2, x3⟩) (fun v h12 w1 => ?_)
        have w := w v h12 w1
        have hk : kc + m12 ≤ mc ∧ ks + n12 ≤ ms := ⟨x2, x3⟩
        obtain ⟨v14, rfl, w⟩ := w
        exact r_iret X dX11_years_126 rfl w hk.1 hk.2
  · have w := w.2 q
    refine r_aload_n X dX11_years_38 rfl ?_
    obtain ⟨fs14, es14, w⟩ := w
    obtain ⟨d14, P14, E14, m14, n14, ct14, w⟩ := w
    obtain ⟨⟨x1, x2, x3⟩, w⟩ := w
    obtain ⟨x4, w⟩ := w
    refine r_callV X (As := []) dX11_years_39 mk_X11_befall ⟨ml_X11_397, im_X11_befall, se_X11_befall⟩ (oF_s es14) (ci_X11).1 rfl rfl rfl (by simp [Value.category]) ⟨x1, by show 60 * (d14 + 1) + 200 ≤ 60 * D + 200; omega⟩ ⟨x2, x3⟩ ct14 x4 (fun _ z => nomatch z) (fun _ => ⟨x2, x3⟩) (fun v h14 w1 => ?_)
    have w := w v h14 w1
    have hk : kc + m14 ≤ mc ∧ ks + n14 ≤ ms := ⟨x2, x3⟩
    obtain ⟨rfl, w⟩ := w
    refine r_aload_n X dX11_years_42 rfl ?_
    obtain ⟨v16, ev16, w⟩ := w
    obtain ⟨fv16, cv16, qv16⟩ := gN_s ev16
    refine r_getf X dX11_years_43 fl_X11_56 cv16 qv16 ?_
    refine r_aload_n X dX11_years_46 rfl ?_
    obtain ⟨v17, ev17, w⟩ := w
    obtain ⟨fv17, cv17, qv17⟩ := gN_s ev17
    refine r_getf X dX11_years_47 fl_X11_32 cv17 qv17 ?_
    obtain ⟨fs17, es17, w⟩ := w
    obtain ⟨d17, P17, E17, m17, n17, ct17, w⟩ := w
    obtain ⟨⟨x1, x2, x3⟩, w⟩ := w
    obtain ⟨x4, w⟩ := w
    refine r_callV X (As := [.ref v17]) dX11_years_50 mk_X2_passDay ⟨ml_X11_268, im_X2_passDay, se_X2_passDay⟩ (oF_s es17) (ci_X2).1 rfl rfl rfl (by simp [Value.category]) ⟨x1, by show 60 * (d17 + 1) + 200 ≤ 60 * D + 200; omega⟩ ⟨x2, x3⟩ ct17 x4 (fun _ z => nomatch z) (fun _ => ⟨x2, x3⟩) (fun v h17 w1 => ?_)
    have w := w v h17 w1
    have hk : (kc + m14) + m17 ≤ mc ∧ (ks + n14) + n17 ≤ ms := ⟨x2, x3⟩
    obtain ⟨rfl, w⟩ := w
    refine r_iinc X dX11_years_53 rfl (v := (l4 + 1)) rfl (by decide) rfl ?_
    refine r_goto X dX11_years_56 (tgt := 32) (by decide) ?_
    refine VB_wk (ls' := [some (.ref l0), none, some (.int l2), some (.int l3), some (.int ((l4 + 1)))]) ?_ w
    exact (And.intro rfl (And.intro rfl (And.intro rfl (And.intro rfl trivial))))

set_option maxRecDepth 10000 in
theorem b_X5_fail_0 {g : GG} {K : KX} {D mc ms : Nat} {Pr : Option Value → Hp → Prop} {Pt : String → Hp → Prop} {kc ks : Nat} (hg : GOK g) (hD : 8 ≤ D) (hk : kc ≤ mc ∧ ks ≤ ms) (X : CB g K cX5_fail 2 yX5_fail (some (.boolean)) []) (l0 : Nat) (l1 : Int32) (h : Hp)
    (w : (∃ h1, pF h l0 5 0 (.int l1) = some h1 ∧ (∃ v2, gI h1 l0 5 8 = some v2 ∧ (∃ h3, pF h1 l0 5 1 (.int v2) = some h3 ∧ (isB ((0 : Int32)) ∧ Pr (some (.int ((0 : Int32)))) h3))))) : VB g K 2 D mc ms Pr Pt kc ks 0 [some (.ref l0), some (.int l1)] [] h := by
  obtain ⟨p, e, s, m, args, below, meth, c⟩ := K
  have X : CX g p s m args meth c cX5_fail 2 yX5_fail (some (.boolean)) [] := X
  have hz := hg s X.gk.z
  show VV g p e (rmm D mc ms) s m args below meth c 2 (QQ g below args s mc ms Pr Pt) kc ks 0 [some (.ref l0), some (.int l1)] [] h
  refine r_aload_n X dX5_fail_0 rfl ?_
  refine r_iload_n X dX5_fail_1 rfl ?_
  obtain ⟨h1, eh1, w⟩ := w
  obtain ⟨fh1, ch1, lh1, rh1⟩ := pF_s eh1
  subst rh1
  refine r_putf X dX5_fail_2 fw_X5_9 ch1 lh1 rfl rfl ?_
  refine r_aload_n X dX5_fail_5 rfl ?_
  refine r_aload_n X dX5_fail_6 rfl ?_
  obtain ⟨v2, ev2, w⟩ := w
  obtain ⟨fv2, cv2, qv2⟩ := gI_s ev2
  refine r_getf X dX5_fail_7 fl_X5_24 cv2 qv2 ?_
  obtain ⟨h3, eh3, w⟩ := w
  obtain ⟨fh3, ch3, lh3, rh3⟩ := pF_s eh3
  subst rh3
  refine r_putf X dX5_fail_10 fw_X5_15 ch3 lh3 rfl rfl ?_
  refine r_iconst X dX5_fail_13 (v := 0) (by decide) ?_
  exact r_zret X dX5_fail_14 rfl (isB_n w.1) w.2 hk.1 hk.2

set_option maxRecDepth 10000 in
theorem b_X5_init_0 {g : GG} {K : KX} {D mc ms : Nat} {Pr : Option Value → Hp → Prop} {Pt : String → Hp → Prop} {kc ks : Nat} (hg : GOK g) (hD : 8 ≤ D) (hk : kc ≤ mc ∧ ks ≤ ms) (X : CB g K cX5_init 5 yX5_init none []) (l0 : Nat) (l1 : Nat) (l2 : Int32) (l3 : Nat) (l4 : Nat) (h : Hp)
    (w : (∃ h1, pF h l0 5 0 (.int ((0 : Int32))) = some h1 ∧ (∃ h2, pF h1 l0 5 1 (.int ((-1 : Int32))) = some h2 ∧ (∃ h3, pF h2 l0 5 6 (.int ((0 : Int32))) = some h3 ∧ (∃ h4, pF h3 l0 5 7 (.int ((0 : Int32))) = some h4 ∧ (∃ h5, pF h4 l0 5 8 (.int ((0 : Int32))) = some h5 ∧ (∃ h6, pF h5 l0 5 9 (.int ((0 : Int32))) = some h6 ∧ (∃ h7, pF h6 l0 5 10 (.int ((0 : Int32))) = some h7 ∧ (∃ h8, pF h7 l0 5 2 (.ref l1) = some h8 ∧ (∃ v9, lenA h8 l1 = some v9 ∧ (∃ h10, pF h8 l0 5 3 (.int ((if v9 < l2 then v9 else l2))) = some h10 ∧ (∃ h11, pF h10 l0 5 4 (.ref l3) = some h11 ∧ (∃ h12, pF h11 l0 5 5 (.ref l4) = some h12 ∧ Pr none h12))))))))))))) : VB g K 5 D mc ms Pr Pt kc ks 0 [some (.ref l0), some (.ref l1), some (.int l2), some (.ref l3), some (.ref l4)] [] h := by
  obtain ⟨p, e, s, m, args, below, meth, c⟩ := K
  have X : CX g p s m args meth c cX5_init 5 yX5_init none [] := X
  have hz := hg s X.gk.z
  show VV g p e (rmm D mc ms) s m args below meth c 5 (QQ g below args s mc ms Pr Pt) kc ks 0 [some (.ref l0), some (.ref l1), some (.int l2), some (.ref l3), some (.ref l4)] [] h
  refine r_aload_n X dX5_init_0 rfl ?_
  refine r_objInit X dX5_init_1 ob_X5_3 (by show 1 ≤ D; omega) (by simp [rmm, Value.category]) ?_
  refine r_aload_n X dX5_init_4 rfl ?_
  refine r_iconst X dX5_init_5 (v := 0) (by decide) ?_
  obtain ⟨h1, eh1, w⟩ := w
  obtain ⟨fh1, ch1, lh1, rh1⟩ := pF_s eh1
  subst rh1
  refine r_putf X dX5_init_6 fw_X5_9 ch1 lh1 rfl rfl ?_
  refine r_aload_n X dX5_init_9 rfl ?_
  refine r_iconst X dX5_init_10 (v := -1) (by decide) ?_
  obtain ⟨h2, eh2, w⟩ := w
  obtain ⟨fh2, ch2, lh2, rh2⟩ := pF_s eh2
  subst rh2
  refine r_putf X dX5_init_11 fw_X5_15 ch2 lh2 rfl rfl ?_
  refine r_aload_n X dX5_init_14 rfl ?_
  refine r_iconst X dX5_init_15 (v := 0) (by decide) ?_
  obtain ⟨h3, eh3, w⟩ := w
  obtain ⟨fh3, ch3, lh3, rh3⟩ := pF_s eh3
  subst rh3
  refine r_putf X dX5_init_16 fw_X5_18 ch3 lh3 rfl rfl ?_
  refine r_aload_n X dX5_init_19 rfl ?_
  refine r_iconst X dX5_init_20 (v := 0) (by decide) ?_
  obtain ⟨h4, eh4, w⟩ := w
  obtain ⟨fh4, ch4, lh4, rh4⟩ := pF_s eh4
  subst rh4
  refine r_putf X dX5_init_21 fw_X5_21 ch4 lh4 rfl rfl ?_
  refine r_aload_n X dX5_init_24 rfl ?_
  refine r_iconst X dX5_init_25 (v := 0) (by decide) ?_
  obtain ⟨h5, eh5, w⟩ := w
  obtain ⟨fh5, ch5, lh5, rh5⟩ := pF_s eh5
  subst rh5
  refine r_putf X dX5_init_26 fw_X5_24 ch5 lh5 rfl rfl ?_
  refine r_aload_n X dX5_init_29 rfl ?_
  refine r_iconst X dX5_init_30 (v := 0) (by decide) ?_
  obtain ⟨h6, eh6, w⟩ := w
  obtain ⟨fh6, ch6, lh6, rh6⟩ := pF_s eh6
  subst rh6
  refine r_putf X dX5_init_31 fw_X5_27 ch6 lh6 rfl rfl ?_
  refine r_aload_n X dX5_init_34 rfl ?_
  refine r_iconst X dX5_init_35 (v := 0) (by decide) ?_
  obtain ⟨h7, eh7, w⟩ := w
  obtain ⟨fh7, ch7, lh7, rh7⟩ := pF_s eh7
  subst rh7
  refine r_putf X dX5_init_36 fw_X5_30 ch7 lh7 rfl rfl ?_
  refine r_aload_n X dX5_init_39 rfl ?_
  refine r_aload_n X dX5_init_40 rfl ?_
  obtain ⟨h8, eh8, w⟩ := w
  obtain ⟨fh8, ch8, lh8, rh8⟩ := pF_s eh8
  subst rh8
  refine r_putF X dX5_init_41 fw_X5_33 rfl ch8 lh8 rfl rfl ?_
  refine r_aload_n X dX5_init_44 rfl ?_
  refine r_iload_n X dX5_init_45 rfl ?_
  refine r_aload_n X dX5_init_46 rfl ?_
  obtain ⟨v9, ev9, w⟩ := w
  obtain ⟨tv9, nv9, fv9, cv9, iv9, qv9⟩ := lenA_s ev9
  refine r_alen X dX5_init_47 cv9 iv9 ?_
  rw [qv9]
  refine r_mmin X dX5_init_48 ma_X5_37 (by refine ⟨?_, ?_, ?_, ?_⟩ <;> simp [rmm, Value.category] <;> omega) ?_
  obtain ⟨h10, eh10, w⟩ := w
  obtain ⟨fh10, ch10, lh10, rh10⟩ := pF_s eh10
  subst rh10
  refine r_putF X dX5_init_51 fw_X5_43 rfl ch10 lh10 rfl rfl ?_
  refine r_aload_n X dX5_init_54 rfl ?_
  refine r_aload_n X dX5_init_55 rfl ?_
  obtain ⟨h11, eh11, w⟩ := w
  obtain ⟨fh11, ch11, lh11, rh11⟩ := pF_s eh11
  subst rh11
  refine r_putF X dX5_init_56 fw_X5_46 rfl ch11 lh11 rfl rfl ?_
  refine r_aload_n X dX5_init_59 rfl ?_
  refine r_aload X dX5_init_60 rfl ?_
  obtain ⟨h12, eh12, w⟩ := w
  obtain ⟨fh12, ch12, lh12, rh12⟩ := pF_s eh12
  subst rh12
  refine r_putF X dX5_init_62 fw_X5_50 rfl ch12 lh12 rfl rfl ?_
  exact r_vret X dX5_init_65 rfl w hk.1 hk.2

set_option maxRecDepth 10000 in
theorem b_X5_isNumber_0 {g : GG} {K : KX} {D mc ms : Nat} {Pr : Option Value → Hp → Prop} {Pt : String → Hp → Prop} {kc ks : Nat} (hg : GOK g) (hD : 8 ≤ D) (hk : kc ≤ mc ∧ ks ≤ ms) (X : CB g K cX5_isNumber 3 yX5_isNumber (some (.boolean)) []) (l0 : Nat) (l1 : Int32) (l2 : Int32) (h : Hp)
    (w : (∃ v1, gI h l0 5 7 = some v1 ∧ ((v1 = (2 : Int32) → (∃ v2, gI h l0 5 10 = some v2 ∧ (((4 : Int32) < v2 → VB g K 3 D mc ms Pr Pt kc ks 38 [some (.ref l0), none, none] [] h) ∧ (¬ (4 : Int32) < v2 → (∃ v3, gI h l0 5 9 = some v3 ∧ ((v3 < l1 → VB g K 3 D mc ms Pr Pt kc ks 38 [some (.ref l0), none, none] [] h) ∧ (¬ v3 < l1 → (∃ v4, gI h l0 5 9 = some v4 ∧ ((v4 ≤ l2 → VB g K 3 D mc ms Pr Pt kc ks 46 [none, none, none] [] h) ∧ (¬ v4 ≤ l2 → VB g K 3 D mc ms Pr Pt kc ks 38 [some (.ref l0), none, none] [] h)))))))))) ∧ (¬ v1 = (2 : Int32) → (∃ fs4, oF h l0 5 = some fs4 ∧ (∃ d4 P4 E4 m4 n4, CT g d4 yX5_fail (wsC yX5_fail cX5_fail 2 (some (.boolean))) [.ref l0, .int ((1 : Int32))] h m4 n4 P4 E4 ∧ (d4 + 1 ≤ D ∧ kc + m4 ≤ mc ∧ ks + n4 ≤ ms) ∧ (∀ E h', E4 E h' → Pt E h') ∧ (∀ v h4, P4 v h4 → ∃ v6, v = some (.int v6) ∧ (isB v6 ∧ Pr (some (.int v6)) h4)))))))) : VB g K 3 D mc ms Pr Pt kc ks 0 [some (.ref l0), some (.int l1), some (.int l2)] [] h := by
  obtain ⟨p, e, s, m, args, below, meth, c⟩ := K
  have X : CX g p s m args meth c cX5_isNumber 3 yX5_isNumber (some (.boolean)) [] := X
  have hz := hg s X.gk.z
  show VV g p e (rmm D mc ms) s m args below meth c 3 (QQ g below args s mc ms Pr Pt) kc ks 0 [some (.ref l0), some (.int l1), some (.int l2)] [] h
  refine r_aload_n X dX5_isNumber_0 rfl ?_
  obtain ⟨v1, ev1, w⟩ := w
  obtain ⟨fv1, cv1, qv1⟩ := gI_s ev1
  refine r_getf X dX5_isNumber_1 fl_X5_21 cv1 qv1 ?_
  refine r_iconst X dX5_isNumber_4 (v := 2) (by decide) ?_
  refine r_icmp_eq X dX5_isNumber_5 (tgt := 14) (by decide) (fun q => ?_) (fun q => ?_)
  · have w := w.1 q
    refine r_aload_n X dX5_isNumber_14 rfl ?_
    obtain ⟨v2, ev2, w⟩ := w
    obtain ⟨fv2, cv2, qv2⟩ := gI_s ev2
    refine r_getf X dX5_isNumber_15 fl_X5_30 cv2 qv2 ?_
    refine r_iconst X dX5_isNumber_18 (v := 4) (by decide) ?_
    refine r_icmp_gt X dX5_isNumber_19 (tgt := 38) (by decide) (fun q => ?_) (fun q => ?_)
    · have w := w.1 q
      refine VB_wk (ls' := [some (.ref l0), none, none]) ?_ w
      exact (And.intro rfl trivial)
    · have w := w.2 q
      refine r_aload_n X dX5_isNumber_22 rfl ?_
      obtain ⟨v3, ev3, w⟩ := w
      obtain ⟨fv3, cv3, qv3⟩ := gI_s ev3
      refine r_getf X dX5_isNumber_23 fl_X5_27 cv3 qv3 ?_
      refine r_iload_n X dX5_isNumber_26 rfl ?_
      refine r_icmp_lt X dX5_isNumber_27 (tgt := 38) (by decide) (fun q => ?_) (fun q => ?_)
      · have w := w.1 q
        refine VB_wk (ls' := [some (.ref l0), none, none]) ?_ w
        exact (And.intro rfl trivial)
      · have w := w.2 q
        refine r_aload_n X dX5_isNumber_30 rfl ?_
        obtain ⟨v4, ev4, w⟩ := w
        obtain ⟨fv4, cv4, qv4⟩ := gI_s ev4
        refine r_getf X dX5_isNumber_31 fl_X5_27 cv4 qv4 ?_
        refine r_iload_n X dX5_isNumber_34 rfl ?_
        refine r_icmp_le X dX5_isNumber_35 (tgt := 46) (by decide) (fun q => ?_) (fun q => ?_)
        · have w := w.1 q
          refine VB_wk (ls' := [none, none, none]) ?_ w
          exact trivial
        · have w := w.2 q
          refine VB_wk (ls' := [some (.ref l0), none, none]) ?_ w
          exact (And.intro rfl trivial)
  · have w := w.2 q
    refine r_aload_n X dX5_isNumber_8 rfl ?_
    refine r_iconst X dX5_isNumber_9 (v := 1) (by decide) ?_
    obtain ⟨fs4, es4, w⟩ := w
    obtain ⟨d4, P4, E4, m4, n4, ct4, w⟩ := w
    obtain ⟨⟨x1, x2, x3⟩, w⟩ := w
    obtain ⟨x4, w⟩ := w
    refine r_callV X (As := [.int ((1 : Int32))]) dX5_isNumber_10 mk_X5_fail ⟨ml_X5_78, im_X5_fail, se_X5_fail⟩ (oF_s es4) (ci_X5).1 rfl rfl rfl (by simp [Value.category]) ⟨x1, by show 60 * (d4 + 1) + 200 ≤ 60 * D + 200; omega⟩ ⟨x2, x3⟩ ct4 x4 (fun _ z => nomatch z) (fun _ => ⟨x2, x3⟩) (fun v h4 w1 => ?_)
    have w := w v h4 w1
    have hk : kc + m4 ≤ mc ∧ ks + n4 ≤ ms := ⟨x2, x3⟩
    obtain ⟨v6, rfl, w⟩ := w
    exact r_zret X dX5_isNumber_13 rfl (isB_n w.1) w.2 hk.1 hk.2

set_option maxRecDepth 10000 in
theorem b_X5_isNumber_38 {g : GG} {K : KX} {D mc ms : Nat} {Pr : Option Value → Hp → Prop} {Pt : String → Hp → Prop} {kc ks : Nat} (hg : GOK g) (hD : 8 ≤ D) (hk : kc ≤ mc ∧ ks ≤ ms) (X : CB g K cX5_isNumber 3 yX5_isNumber (some (.boolean)) []) (l0 : Nat) (h : Hp)
    (w : (∃ fs0, oF h l0 5 = some fs0 ∧ (∃ d0 P0 E0 m0 n0, CT g d0 yX5_fail (wsC yX5_fail cX5_fail 2 (some (.boolean))) [.ref l0, .int ((2 : Int32))] h m0 n0 P0 E0 ∧ (d0 + 1 ≤ D ∧ kc + m0 ≤ mc ∧ ks + n0 ≤ ms) ∧ (∀ E h', E0 E h' → Pt E h') ∧ (∀ v h0, P0 v h0 → ∃ v2, v = some (.int v2) ∧ ((v2 = 0 → (isB ((0 : Int32)) ∧ Pr (some (.int ((0 : Int32)))) h0)) ∧ (¬ v2 = 0 → VB g K 3 D mc ms Pr Pt ((kc + m0)) ((ks + n0)) 46 [none, none, none] [] h0)))))) : VB g K 3 D mc ms Pr Pt kc ks 38 [some (.ref l0), none, none] [] h := by
  obtain ⟨p, e, s, m, args, below, meth, c⟩ := K
  have X : CX g p s m args meth c cX5_isNumber 3 yX5_isNumber (some (.boolean)) [] := X
  have hz := hg s X.gk.z
  show VV g p e (rmm D mc ms) s m args below meth c 3 (QQ g below args s mc ms Pr Pt) kc ks 38 [some (.ref l0), none, none] [] h
  refine r_aload_n X dX5_isNumber_38 rfl ?_
  refine r_iconst X dX5_isNumber_39 (v := 2) (by decide) ?_
  obtain ⟨fs0, es0, w⟩ := w
  obtain ⟨d0, P0, E0, m0, n0, ct0, w⟩ := w
  obtain ⟨⟨x1, x2, x3⟩, w⟩ := w
  obtain ⟨x4, w⟩ := w
  refine r_callV X (As := [.int ((2 : Int32))]) dX5_isNumber_40 mk_X5_fail ⟨ml_X5_78, im_X5_fail, se_X5_fail⟩ (oF_s es0) (ci_X5).1 rfl rfl rfl (by simp [Value.category]) ⟨x1, by show 60 * (d0 + 1) + 200 ≤ 60 * D + 200; omega⟩ ⟨x2, x3⟩ ct0 x4 (fun _ z => nomatch z) (fun _ => ⟨x2, x3⟩) (fun v h0 w1 => ?_)
  have w := w v h0 w1
  have hk : kc + m0 ≤ mc ∧ ks + n0 ≤ ms := ⟨x2, x3⟩
  obtain ⟨v2, rfl, w⟩ := w
  refine r_if_eq X dX5_isNumber_43 (tgt := 50) (by decide) (fun q => ?_) (fun q => ?_)
  · have w := w.1 q
    refine r_iconst X dX5_isNumber_50 (v := 0) (by decide) ?_
    exact r_zret X dX5_isNumber_51 rfl (isB_n w.1) w.2 hk.1 hk.2
  · have w := w.2 q
    refine VB_wk (ls' := [none, none, none]) ?_ w
    exact trivial

set_option maxRecDepth 10000 in
theorem b_X5_isNumber_46 {g : GG} {K : KX} {D mc ms : Nat} {Pr : Option Value → Hp → Prop} {Pt : String → Hp → Prop} {kc ks : Nat} (hg : GOK g) (hD : 8 ≤ D) (hk : kc ≤ mc ∧ ks ≤ ms) (X : CB g K cX5_isNumber 3 yX5_isNumber (some (.boolean)) [])  (h : Hp)
    (w : (isB ((1 : Int32)) ∧ Pr (some (.int ((1 : Int32)))) h)) : VB g K 3 D mc ms Pr Pt kc ks 46 [none, none, none] [] h := by
  obtain ⟨p, e, s, m, args, below, meth, c⟩ := K
  have X : CX g p s m args meth c cX5_isNumber 3 yX5_isNumber (some (.boolean)) [] := X
  have hz := hg s X.gk.z
  show VV g p e (rmm D mc ms) s m args below meth c 3 (QQ g below args s mc ms Pr Pt) kc ks 46 [none, none, none] [] h
  refine r_iconst X dX5_isNumber_46 (v := 1) (by decide) ?_
  refine r_goto X dX5_isNumber_47 (tgt := 51) (by decide) ?_
  exact r_zret X dX5_isNumber_51 rfl (isB_n w.1) w.2 hk.1 hk.2

set_option maxRecDepth 10000 in
theorem b_X5_isSign_0 {g : GG} {K : KX} {D mc ms : Nat} {Pr : Option Value → Hp → Prop} {Pt : String → Hp → Prop} {kc ks : Nat} (hg : GOK g) (hD : 8 ≤ D) (hk : kc ≤ mc ∧ ks ≤ ms) (X : CB g K cX5_isSign 2 yX5_isSign (some (.boolean)) []) (l0 : Nat) (l1 : Int32) (h : Hp)
    (w : (∃ v1, gI h l0 5 7 = some v1 ∧ ((¬ v1 = (3 : Int32) → (isB ((0 : Int32)) ∧ Pr (some (.int ((0 : Int32)))) h)) ∧ (v1 = (3 : Int32) → (∃ v2, gI h l0 5 8 = some v2 ∧ (∃ v3, gI h l0 5 3 = some v3 ∧ ((v3 ≤ v2 → (isB ((0 : Int32)) ∧ Pr (some (.int ((0 : Int32)))) h)) ∧ (¬ v3 ≤ v2 → (∃ v4, gN h l0 5 2 = some v4 ∧ (∃ v5, gI h l0 5 8 = some v5 ∧ (∃ v6, aI h 1 v4 v5 = some v6 ∧ ((¬ v6 = l1 → (isB ((0 : Int32)) ∧ Pr (some (.int ((0 : Int32)))) h)) ∧ (v6 = l1 → (isB ((1 : Int32)) ∧ Pr (some (.int ((1 : Int32)))) h)))))))))))))) : VB g K 2 D mc ms Pr Pt kc ks 0 [some (.ref l0), some (.int l1)] [] h := by
  obtain ⟨p, e, s, m, args, below, meth, c⟩ := K
  have X : CX g p s m args meth c cX5_isSign 2 yX5_isSign (some (.boolean)) [] := X
  have hz := hg s X.gk.z
  show VV g p e (rmm D mc ms) s m args below meth c 2 (QQ g below args s mc ms Pr Pt) kc ks 0 [some (.ref l0), some (.int l1)] [] h
  refine r_aload_n X dX5_isSign_0 rfl ?_
  obtain ⟨v1, ev1, w⟩ := w
  obtain ⟨fv1, cv1, qv1⟩ := gI_s ev1
  refine r_getf X dX5_isSign_1 fl_X5_21 cv1 qv1 ?_
  refine r_iconst X dX5_isSign_4 (v := 3) (by decide) ?_
  refine r_icmp_ne X dX5_isSign_5 (tgt := 36) (by decide) (fun q => ?_) (fun q => ?_)
  · have w := w.1 q
    refine r_iconst X dX5_isSign_36 (v := 0) (by decide) ?_
    exact r_zret X dX5_isSign_37 rfl (isB_n w.1) w.2 hk.1 hk.2
  · have w := w.2 q
    refine r_aload_n X dX5_isSign_8 rfl ?_
    obtain ⟨v2, ev2, w⟩ := w
    obtain ⟨fv2, cv2, qv2⟩ := gI_s ev2
    refine r_getf X dX5_isSign_9 fl_X5_24 cv2 qv2 ?_
    refine r_aload_n X dX5_isSign_12 rfl ?_
    obtain ⟨v3, ev3, w⟩ := w
    obtain ⟨fv3, cv3, qv3⟩ := gI_s ev3
    refine r_getf X dX5_isSign_13 fl_X5_43 cv3 qv3 ?_
    refine r_icmp_ge X dX5_isSign_16 (tgt := 36) (by decide) (fun q => ?_) (fun q => ?_)
    · have w := w.1 q
      refine r_iconst X dX5_isSign_36 (v := 0) (by decide) ?_
      exact r_zret X dX5_isSign_37 rfl (isB_n w.1) w.2 hk.1 hk.2
    · have w := w.2 q
      refine r_aload_n X dX5_isSign_19 rfl ?_
      obtain ⟨v4, ev4, w⟩ := w
      obtain ⟨fv4, cv4, qv4⟩ := gN_s ev4
      refine r_getf X dX5_isSign_20 fl_X5_33 cv4 qv4 ?_
      refine r_aload_n X dX5_isSign_23 rfl ?_
      obtain ⟨v5, ev5, w⟩ := w
      obtain ⟨fv5, cv5, qv5⟩ := gI_s ev5
      refine r_getf X dX5_isSign_24 fl_X5_24 cv5 qv5 ?_
      obtain ⟨v6, ev6, w⟩ := w
      obtain ⟨nv6, fv6, cv6, iv6, qv6⟩ := aI_s ev6
      refine r_bald X dX5_isSign_27 cv6 iv6 ?_
      rw [qv6]
      refine r_iload_n X dX5_isSign_28 rfl ?_
      refine r_icmp_ne X dX5_isSign_29 (tgt := 36) (by decide) (fun q => ?_) (fun q => ?_)
      · have w := w.1 q
        refine r_iconst X dX5_isSign_36 (v := 0) (by decide) ?_
        exact r_zret X dX5_isSign_37 rfl (isB_n w.1) w.2 hk.1 hk.2
      · have w := w.2 q
        refine r_iconst X dX5_isSign_32 (v := 1) (by decide) ?_
        refine r_goto X dX5_isSign_33 (tgt := 37) (by decide) ?_
        exact r_zret X dX5_isSign_37 rfl (isB_n w.1) w.2 hk.1 hk.2

set_option maxRecDepth 10000 in
theorem b_X5_isStretchTold_0 {g : GG} {K : KX} {D mc ms : Nat} {Pr : Option Value → Hp → Prop} {Pt : String → Hp → Prop} {kc ks : Nat} (hg : GOK g) (hD : 8 ≤ D) (hk : kc ≤ mc ∧ ks ≤ ms) (X : CB g K cX5_isStretchTold 1 yX5_isStretchTold (some (.boolean)) []) (l0 : Nat) (h : Hp)
    (w : (∃ fs0, oF h l0 5 = some fs0 ∧ (∃ d0 P0 E0 m0 n0, CT g d0 yX5_isNumber (wsC yX5_isNumber cX5_isNumber 3 (some (.boolean))) [.ref l0, .int ((0 : Int32)), .int ((9999 : Int32))] h m0 n0 P0 E0 ∧ (d0 + 1 ≤ D ∧ kc + m0 ≤ mc ∧ ks + n0 ≤ ms) ∧ (∀ E h', E0 E h' → Pt E h') ∧ (∀ v h0, P0 v h0 → ∃ v2, v = some (.int v2) ∧ ((v2 = 0 → (isB ((0 : Int32)) ∧ Pr (some (.int ((0 : Int32)))) h0)) ∧ (¬ v2 = 0 → (∃ v3, gI h0 l0 5 9 = some v3 ∧ (∃ v4, gN h0 l0 5 4 = some v4 ∧ (∃ v5, gI h0 v4 9 0 = some v5 ∧ ((v3 < v5 → VB g K 1 D mc ms Pr Pt ((kc + m0)) ((ks + n0)) 33 [none] [] h0) ∧ (¬ v3 < v5 → (∃ fs5, oF h0 l0 5 = some fs5 ∧ (∃ d5 P5 E5 m5 n5, CT g d5 yX5_fail (wsC yX5_fail cX5_fail 2 (some (.boolean))) [.ref l0, .int ((3 : Int32))] h0 m5 n5 P5 E5 ∧ (d5 + 1 ≤ D ∧ (kc + m0) + m5 ≤ mc ∧ (ks + n0) + n5 ≤ ms) ∧ (∀ E h', E5 E h' → Pt E h') ∧ (∀ v h5, P5 v h5 → ∃ v7, v = some (.int v7) ∧ ((v7 = 0 → (isB ((0 : Int32)) ∧ Pr (some (.int ((0 : Int32)))) h5)) ∧ (¬ v7 = 0 → VB g K 1 D mc ms Pr Pt (((kc + m0) + m5)) (((ks + n0) + n5)) 33 [none] [] h5)))))))))))))))) : VB g K 1 D mc ms Pr Pt kc ks 0 [some (.ref l0)] [] h := by
  obtain ⟨p, e, s, m, args, below, meth, c⟩ := K
  have X : CX g p s m args meth c cX5_isStretchTold 1 yX5_isStretchTold (some (.boolean)) [] := X
  have hz := hg s X.gk.z
  show VV g p e (rmm D mc ms) s m args below meth c 1 (QQ g below args s mc ms Pr Pt) kc ks 0 [some (.ref l0)] [] h
  refine r_aload_n X dX5_isStretchTold_0 rfl ?_
  refine r_iconst X dX5_isStretchTold_1 (v := 0) (by decide) ?_
  refine r_sipush X dX5_isStretchTold_2 (v := 9999) (by decide) ?_
  obtain ⟨fs0, es0, w⟩ := w
  obtain ⟨d0, P0, E0, m0, n0, ct0, w⟩ := w
  obtain ⟨⟨x1, x2, x3⟩, w⟩ := w
  obtain ⟨x4, w⟩ := w
  refine r_callV X (As := [.int ((0 : Int32)), .int ((9999 : Int32))]) dX5_isStretchTold_5 mk_X5_isNumber ⟨ml_X5_133, im_X5_isNumber, se_X5_isNumber⟩ (oF_s es0) (ci_X5).1 rfl rfl rfl (by simp [Value.category]) ⟨x1, by show 60 * (d0 + 1) + 200 ≤ 60 * D + 200; omega⟩ ⟨x2, x3⟩ ct0 x4 (fun _ z => nomatch z) (fun _ => ⟨x2, x3⟩) (fun v h0 w1 => ?_)
  have w := w v h0 w1
  have hk : kc + m0 ≤ mc ∧ ks + n0 ≤ ms := ⟨x2, x3⟩
  obtain ⟨v2, rfl, w⟩ := w
  refine r_if_eq X dX5_isStretchTold_8 (tgt := 37) (by decide) (fun q => ?_) (fun q => ?_)
  · have w := w.1 q
    refine r_iconst X dX5_isStretchTold_37 (v := 0) (by decide) ?_
    exact r_zret X dX5_isStretchTold_38 rfl (isB_n w.1) w.2 hk.1 hk.2
  · have w := w.2 q
    refine r_aload_n X dX5_isStretchTold_11 rfl ?_
    obtain ⟨v3, ev3, w⟩ := w
    obtain ⟨fv3, cv3, qv3⟩ := gI_s ev3
    refine r_getf X dX5_isStretchTold_12 fl_X5_27 cv3 qv3 ?_
    refine r_aload_n X dX5_isStretchTold_15 rfl ?_
    obtain ⟨v4, ev4, w⟩ := w
    obtain ⟨fv4, cv4, qv4⟩ := gN_s ev4
    refine r_getf X dX5_isStretchTold_16 fl_X5_46 cv4 qv4 ?_
    obtain ⟨v5, ev5, w⟩ := w
    obtain ⟨fv5, cv5, qv5⟩ := gI_s ev5
    refine r_getf X dX5_isStretchTold_19 fl_X5_130 cv5 qv5 ?_
    refine r_icmp_lt X dX5_isStretchTold_22 (tgt := 33) (by decide) (fun q => ?_) (fun q => ?_)
    · have w := w.1 q
      refine VB_wk (ls' := [none]) ?_ w
      exact trivial
    · have w := w.2 q
      refine r_aload_n X dX5_isStretchTold_25 rfl ?_
      refine r_iconst X dX5_isStretchTold_26 (v := 3) (by decide) ?_
      obtain ⟨fs5, es5, w⟩ := w
      obtain ⟨d5, P5, E5, m5, n5, ct5, w⟩ := w
      obtain ⟨⟨x1, x2, x3⟩, w⟩ := w
      obtain ⟨x4, w⟩ := w
      refine r_callV X (As := [.int ((3 : Int32))]) dX5_isStretchTold_27 mk_X5_fail ⟨ml_X5_78, im_X5_fail, se_X5_fail⟩ (oF_s es5) (ci_X5).1 rfl rfl rfl (by simp [Value.category]) ⟨x1, by show 60 * (d5 + 1) + 200 ≤ 60 * D + 200; omega⟩ ⟨x2, x3⟩ ct5 x4 (fun _ z => nomatch z) (fun _ => ⟨x2, x3⟩) (fun v h5 w1 => ?_)
      have w := w v h5 w1
      have hk : (kc + m0) + m5 ≤ mc ∧ (ks + n0) + n5 ≤ ms := ⟨x2, x3⟩
      obtain ⟨v7, rfl, w⟩ := w
      refine r_if_eq X dX5_isStretchTold_30 (tgt := 37) (by decide) (fun q => ?_) (fun q => ?_)
      · have w := w.1 q
        refine r_iconst X dX5_isStretchTold_37 (v := 0) (by decide) ?_
        exact r_zret X dX5_isStretchTold_38 rfl (isB_n w.1) w.2 hk.1 hk.2
      · have w := w.2 q
        refine VB_wk (ls' := [none]) ?_ w
        exact trivial

set_option maxRecDepth 10000 in
theorem b_X5_isStretchTold_33 {g : GG} {K : KX} {D mc ms : Nat} {Pr : Option Value → Hp → Prop} {Pt : String → Hp → Prop} {kc ks : Nat} (hg : GOK g) (hD : 8 ≤ D) (hk : kc ≤ mc ∧ ks ≤ ms) (X : CB g K cX5_isStretchTold 1 yX5_isStretchTold (some (.boolean)) [])  (h : Hp)
    (w : (isB ((1 : Int32)) ∧ Pr (some (.int ((1 : Int32)))) h)) : VB g K 1 D mc ms Pr Pt kc ks 33 [none] [] h := by
  obtain ⟨p, e, s, m, args, below, meth, c⟩ := K
  have X : CX g p s m args meth c cX5_isStretchTold 1 yX5_isStretchTold (some (.boolean)) [] := X
  have hz := hg s X.gk.z
  show VV g p e (rmm D mc ms) s m args below meth c 1 (QQ g below args s mc ms Pr Pt) kc ks 33 [none] [] h
  refine r_iconst X dX5_isStretchTold_33 (v := 1) (by decide) ?_
  refine r_goto X dX5_isStretchTold_34 (tgt := 38) (by decide) ?_
  exact r_zret X dX5_isStretchTold_38 rfl (isB_n w.1) w.2 hk.1 hk.2

set_option maxRecDepth 10000 in
theorem b_X5_joint_0 {g : GG} {K : KX} {D mc ms : Nat} {Pr : Option Value → Hp → Prop} {Pt : String → Hp → Prop} {kc ks : Nat} (hg : GOK g) (hD : 8 ≤ D) (hk : kc ≤ mc ∧ ks ≤ ms) (X : CB g K cX5_joint 2 yX5_joint (some (.int)) []) (l0 : Nat) (l1 : Int32) (h : Hp)
    (w : ((((l1).toInt < 0 ∨ 3 < (l1).toInt) → (∃ fs0, oF h l0 5 = some fs0 ∧ (∃ d0 P0 E0 m0 n0, CT g d0 yX5_isSign (wsC yX5_isSign cX5_isSign 2 (some (.boolean))) [.ref l0, .int ((42 : Int32))] h m0 n0 P0 E0 ∧ (d0 + 1 ≤ D ∧ kc + m0 ≤ mc ∧ ks + n0 ≤ ms) ∧ (∀ E h', E0 E h' → Pt E h') ∧ (∀ v h0, P0 v h0 → ∃ v2, v = some (.int v2) ∧ ((v2 = 0 → (∃ fs2, oF h0 l0 5 = some fs2 ∧ (∃ d2 P2 E2 m2 n2, CT g d2 yX5_isSign (wsC yX5_isSign cX5_isSign 2 (some (.boolean))) [.ref l0, .int ((47 : Int32))] h0 m2 n2 P2 E2 ∧ (d2 + 1 ≤ D ∧ (kc + m0) + m2 ≤ mc ∧ (ks + n0) + n2 ≤ ms) ∧ (∀ E h', E2 E h' → Pt E h') ∧ (∀ v h2, P2 v h2 → ∃ v4, v = some (.int v4) ∧ ((v4 = 0 → Pr (some (.int ((0 : Int32)))) h2) ∧ (¬ v4 = 0 → Pr (some (.int ((-15 : Int32)))) h2)))))) ∧ (¬ v2 = 0 → Pr (some (.int ((-14 : Int32)))) h0)))))) ∧ (((l1).toInt = 0 → (∃ fs4, oF h l0 5 = some fs4 ∧ (∃ d4 P4 E4 m4 n4, CT g d4 yX5_isWord (wsC yX5_isWord cX5_isWord 2 (some (.boolean))) [.ref l0, .retAddr 6] h m4 n4 P4 E4 ∧ (d4 + 1 ≤ D ∧ kc + m4 ≤ mc ∧ ks + n4 ≤ ms) ∧ (∀ E h', E4 E h' → Pt E h') ∧ (∀ v h4, P4 v h4 → ∃ v6, v = some (.int v6) ∧ ((v6 = 0 → Pr (some (.int ((0 : Int32)))) h4) ∧ (¬ v6 = 0 → Pr (some (.int ((-8 : Int32)))) h4)))))) ∧ (((l1).toInt = 1 → (∃ fs6, oF h l0 5 = some fs6 ∧ (∃ d6 P6 E6 m6 n6, CT g d6 yX5_isWord (wsC yX5_isWord cX5_isWord 2 (some (.boolean))) [.ref l0, .retAddr 7] h m6 n6 P6 E6 ∧ (d6 + 1 ≤ D ∧ kc + m6 ≤ mc ∧ ks + n6 ≤ ms) ∧ (∀ E h', E6 E h' → Pt E h') ∧ (∀ v h6, P6 v h6 → ∃ v8, v = some (.int v8) ∧ ((v8 = 0 → Pr (some (.int ((0 : Int32)))) h6) ∧ (¬ v8 = 0 → Pr (some (.int ((-9 : Int32)))) h6)))))) ∧ (((l1).toInt = 2 → (∃ fs8, oF h l0 5 = some fs8 ∧ (∃ d8 P8 E8 m8 n8, CT g d8 yX5_isSign (wsC yX5_isSign cX5_isSign 2 (some (.boolean))) [.ref l0, .int ((60 : Int32))] h m8 n8 P8 E8 ∧ (d8 + 1 ≤ D ∧ kc + m8 ≤ mc ∧ ks + n8 ≤ ms) ∧ (∀ E h', E8 E h' → Pt E h') ∧ (∀ v h8, P8 v h8 → ∃ v10, v = some (.int v10) ∧ ((v10 = 0 → (∃ fs10, oF h8 l0 5 = some fs10 ∧ (∃ d10 P10 E10 m10 n10, CT g d10 yX5_isSign (wsC yX5_isSign cX5_isSign 2 (some (.boolean))) [.ref l0, .int ((61 : Int32))] h8 m10 n10 P10 E10 ∧ (d10 + 1 ≤ D ∧ (kc + m8) + m10 ≤ mc ∧ (ks + n8) + n10 ≤ ms) ∧ (∀ E h', E10 E h' → Pt E h') ∧ (∀ v h10, P10 v h10 → ∃ v12, v = some (.int v12) ∧ ((v12 = 0 → Pr (some (.int ((0 : Int32)))) h10) ∧ (¬ v12 = 0 → Pr (some (.int ((-11 : Int32)))) h10)))))) ∧ (¬ v10 = 0 → Pr (some (.int ((-10 : Int32)))) h8)))))) ∧ ((l1).toInt = 3 → (∃ fs12, oF h l0 5 = some fs12 ∧ (∃ d12 P12 E12 m12 n12, CT g d12 yX5_isSign (wsC yX5_isSign cX5_isSign 2 (some (.boolean))) [.ref l0, .int ((43 : Int32))] h m12 n12 P12 E12 ∧ (d12 + 1 ≤ D ∧ kc + m12 ≤ mc ∧ ks + n12 ≤ ms) ∧ (∀ E h', E12 E h' → Pt E h') ∧ (∀ v h12, P12 v h12 → ∃ v14, v = some (.int v14) ∧ ((v14 = 0 → (∃ fs14, oF h12 l0 5 = some fs14 ∧ (∃ d14 P14 E14 m14 n14, CT g d14 yX5_isSign (wsC yX5_isSign cX5_isSign 2 (some (.boolean))) [.ref l0, .int ((45 : Int32))] h12 m14 n14 P14 E14 ∧ (d14 + 1 ≤ D ∧ (kc + m12) + m14 ≤ mc ∧ (ks + n12) + n14 ≤ ms) ∧ (∀ E h', E14 E h' → Pt E h') ∧ (∀ v h14, P14 v h14 → ∃ v16, v = some (.int v16) ∧ ((v16 = 0 → Pr (some (.int ((0 : Int32)))) h14) ∧ (¬ v16 = 0 → Pr (some (.int ((-13 : Int32)))) h14)))))) ∧ (¬ v14 = 0 → Pr (some (.int ((-12 : Int32)))) h12))))))))))) : VB g K 2 D mc ms Pr Pt kc ks 0 [some (.ref l0), some (.int l1)] [] h := by
  obtain ⟨p, e, s, m, args, below, meth, c⟩ := K
  have X : CX g p s m args meth c cX5_joint 2 yX5_joint (some (.int)) [] := X
  have hz := hg s X.gk.z
  show VV g p e (rmm D mc ms) s m args below meth c 2 (QQ g below args s mc ms Pr Pt) kc ks 0 [some (.ref l0), some (.int l1)] [] h
  refine r_iload_n X dX5_joint_0 rfl ?_
  refine r_table X dX5_joint_1 (tgt := 126) (fun k => [32, 49, 66, 96].getD k 0) (fun _ => by decide) (fun k y1 y2 y3 => ?_) (fun q => ?_) (fun k y1 y2 y3 => ?_)
  · rcases (by omega : k = 0 ∨ k = 1 ∨ k = 2 ∨ k = 3) with rfl | rfl | rfl | rfl <;> exact ⟨_, rfl, by decide⟩
  · have w := w.1 q
    refine r_aload_n X dX5_joint_126 rfl ?_
    refine r_bipush X dX5_joint_127 (v := 42) (by decide) ?_
    obtain ⟨fs0, es0, w⟩ := w
    obtain ⟨d0, P0, E0, m0, n0, ct0, w⟩ := w
    obtain ⟨⟨x1, x2, x3⟩, w⟩ := w
    obtain ⟨x4, w⟩ := w
    refine r_callV X (As := [.int ((42 : Int32))]) dX5_joint_129 mk_X5_isSign ⟨ml_X5_74, im_X5_isSign, se_X5_isSign⟩ (oF_s es0) (ci_X5).1 rfl rfl rfl (by simp [Value.category]) ⟨x1, by show 60 * (d0 + 1) + 200 ≤ 60 * D + 200; omega⟩ ⟨x2, x3⟩ ct0 x4 (fun _ z => nomatch z) (fun _ => ⟨x2, x3⟩) (fun v h0 w1 => ?_)
    have w := w v h0 w1
    have hk : kc + m0 ≤ mc ∧ ks + n0 ≤ ms := ⟨x2, x3⟩
    obtain ⟨v2, rfl, w⟩ := w
    refine r_if_eq X dX5_joint_132 (tgt := 140) (by decide) (fun q => ?_) (fun q => ?_)
    · have w := w.1 q
      refine r_aload_n X dX5_joint_140 rfl ?_
      refine r_bipush X dX5_joint_141 (v := 47) (by decide) ?_
      obtain ⟨fs2, es2, w⟩ := w
      obtain ⟨d2, P2, E2, m2, n2, ct2, w⟩ := w
      obtain ⟨⟨x1, x2, x3⟩, w⟩ := w
      obtain ⟨x4, w⟩ := w
      refine r_callV X (As := [.int ((47 : Int32))]) dX5_joint_143 mk_X5_isSign ⟨ml_X5_74, im_X5_isSign, se_X5_isSign⟩ (oF_s es2) (ci_X5).1 rfl rfl rfl (by simp [Value.category]) ⟨x1, by show 60 * (d2 + 1) + 200 ≤ 60 * D + 200; omega⟩ ⟨x2, x3⟩ ct2 x4 (fun _ z => nomatch z) (fun _ => ⟨x2, x3⟩) (fun v h2 w1 => ?_)
      have w := w v h2 w1
      have hk : (kc + m0) + m2 ≤ mc ∧ (ks + n0) + n2 ≤ ms := ⟨x2, x3⟩
      obtain ⟨v4, rfl, w⟩ := w
      refine r_if_eq X dX5_joint_146 (tgt := 154) (by decide) (fun q => ?_) (fun q => ?_)
      · have w := w.1 q
        refine r_iconst X dX5_joint_154 (v := 0) (by decide) ?_
        exact r_iret X dX5_joint_155 rfl w hk.1 hk.2
      · have w := w.2 q
        refine r_bipush X dX5_joint_149 (v := -15) (by decide) ?_
        refine r_goto X dX5_joint_151 (tgt := 155) (by decide) ?_
        exact r_iret X dX5_joint_155 rfl w hk.1 hk.2
    · have w := w.2 q
      refine r_bipush X dX5_joint_135 (v := -14) (by decide) ?_
      refine r_goto X dX5_joint_137 (tgt := 155) (by decide) ?_
      exact r_iret X dX5_joint_155 rfl w hk.1 hk.2
  · rcases (by omega : k = 0 ∨ k = 1 ∨ k = 2 ∨ k = 3) with rfl | rfl | rfl | rfl
    · have w := w.2.1 (by omega)
      refine r_aload_n X dX5_joint_32 rfl ?_
      refine r_word X dX5_joint_33 hz.2.2.2 (k := 6) (by decide) wl_X5_221 ?_
      obtain ⟨fs4, es4, w⟩ := w
      obtain ⟨d4, P4, E4, m4, n4, ct4, w⟩ := w
      obtain ⟨⟨x1, x2, x3⟩, w⟩ := w
      obtain ⟨x4, w⟩ := w
      refine r_callV X (As := [.retAddr 6]) dX5_joint_36 mk_X5_isWord ⟨ml_X5_86, im_X5_isWord, se_X5_isWord⟩ (oF_s es4) (ci_X5).1 rfl rfl rfl (by simp [Value.category]) ⟨x1, by show 60 * (d4 + 1) + 200 ≤ 60 * D + 200; omega⟩ ⟨x2, x3⟩ ct4 x4 (fun _ z => nomatch z) (fun _ => ⟨x2, x3⟩) (fun v h4 w1 => ?_)
      have w := w v h4 w1
      have hk : kc + m4 ≤ mc ∧ ks + n4 ≤ ms := ⟨x2, x3⟩
      obtain ⟨v6, rfl, w⟩ := w
      refine r_if_eq X dX5_joint_39 (tgt := 47) (by decide) (fun q => ?_) (fun q => ?_)
      · have w := w.1 q
        refine r_iconst X dX5_joint_47 (v := 0) (by decide) ?_
        exact r_iret X dX5_joint_48 rfl w hk.1 hk.2
      · have w := w.2 q
        refine r_bipush X dX5_joint_42 (v := -8) (by decide) ?_
        refine r_goto X dX5_joint_44 (tgt := 48) (by decide) ?_
        exact r_iret X dX5_joint_48 rfl w hk.1 hk.2
    · have w := w.2.2.1 (by omega)
      refine r_aload_n X dX5_joint_49 rfl ?_
      refine r_word X dX5_joint_50 hz.2.2.2 (k := 7) (by decide) wl_X5_224 ?_
      obtain ⟨fs6, es6, w⟩ := w
      obtain ⟨d6, P6, E6, m6, n6, ct6, w⟩ := w
      obtain ⟨⟨x1, x2, x3⟩, w⟩ := w
      obtain ⟨x4, w⟩ := w
      refine r_callV X (As := [.retAddr 7]) dX5_joint_53 mk_X5_isWord ⟨ml_X5_86, im_X5_isWord, se_X5_isWord⟩ (oF_s es6) (ci_X5).1 rfl rfl rfl (by simp [Value.category]) ⟨x1, by show 60 * (d6 + 1) + 200 ≤ 60 * D + 200; omega⟩ ⟨x2, x3⟩ ct6 x4 (fun _ z => nomatch z) (fun _ => ⟨x2, x3⟩) (fun v h6 w1 => ?_)
      have w := w v h6 w1
      have hk : kc + m6 ≤ mc ∧ ks + n6 ≤ ms := ⟨x2, x3⟩
      obtain ⟨v8, rfl, w⟩ := w
      refine r_if_eq X dX5_joint_56 (tgt := 64) (by decide) (fun q => ?_) (fun q => ?_)
      · have w := w.1 q
        refine r_iconst X dX5_joint_64 (v := 0) (by decide) ?_
        exact r_iret X dX5_joint_65 rfl w hk.1 hk.2
      · have w := w.2 q
        refine r_bipush X dX5_joint_59 (v := -9) (by decide) ?_
        refine r_goto X dX5_joint_61 (tgt := 65) (by decide) ?_
        exact r_iret X dX5_joint_65 rfl w hk.1 hk.2
    · have w := w.2.2.2.1 (by omega)
      refine r_aload_n X dX5_joint_66 rfl ?_
      refine r_bipush X dX5_joint_67 (v := 60) (by decide) ?_
      obtain ⟨fs8, es8, w⟩ := w
      obtain ⟨d8, P8, E8, m8, n8, ct8, w⟩ := w
      obtain ⟨⟨x1, x2, x3⟩, w⟩ := w
      obtain ⟨x4, w⟩ := w
      refine r_callV X (As := [.int ((60 : Int32))]) dX5_joint_69 mk_X5_isSign ⟨ml_X5_74, im_X5_isSign, se_X5_isSign⟩ (oF_s es8) (ci_X5).1 rfl rfl rfl (by simp [Value.category]) ⟨x1, by show 60 * (d8 + 1) + 200 ≤ 60 * D + 200; omega⟩ ⟨x2, x3⟩ ct8 x4 (fun _ z => nomatch z) (fun _ => ⟨x2, x3⟩) (fun v h8 w1 => ?_)
      have w := w v h8 w1
      have hk : kc + m8 ≤ mc ∧ ks + n8 ≤ ms := ⟨x2, x3⟩
      obtain ⟨v10, rfl, w⟩ := w
      refine r_if_eq X dX5_joint_72 (tgt := 80) (by decide) (fun q => ?_) (fun q => ?_)
      · have w := w.1 q
        refine r_aload_n X dX5_joint_80 rfl ?_
        refine r_bipush X dX5_joint_81 (v := 61) (by decide) ?_
        obtain ⟨fs10, es10, w⟩ := w
        obtain ⟨d10, P10, E10, m10, n10, ct10, w⟩ := w
        obtain ⟨⟨x1, x2, x3⟩, w⟩ := w
        obtain ⟨x4, w⟩ := w
        refine r_callV X (As := [.int ((61 : Int32))]) dX5_joint_83 mk_X5_isSign ⟨ml_X5_74, im_X5_isSign, se_X5_isSign⟩ (oF_s es10) (ci_X5).1 rfl rfl rfl (by simp [Value.category]) ⟨x1, by show 60 * (d10 + 1) + 200 ≤ 60 * D + 200; omega⟩ ⟨x2, x3⟩ ct10 x4 (fun _ z => nomatch z) (fun _ => ⟨x2, x3⟩) (fun v h10 w1 => ?_)
        have w := w v h10 w1
        have hk : (kc + m8) + m10 ≤ mc ∧ (ks + n8) + n10 ≤ ms := ⟨x2, x3⟩
        obtain ⟨v12, rfl, w⟩ := w
        refine r_if_eq X dX5_joint_86 (tgt := 94) (by decide) (fun q => ?_) (fun q => ?_)
        · have w := w.1 q
          refine r_iconst X dX5_joint_94 (v := 0) (by decide) ?_
          exact r_iret X dX5_joint_95 rfl w hk.1 hk.2
        · have w := w.2 q
          refine r_bipush X dX5_joint_89 (v := -11) (by decide) ?_
          refine r_goto X dX5_joint_91 (tgt := 95) (by decide) ?_
          exact r_iret X dX5_joint_95 rfl w hk.1 hk.2
      · have w := w.2 q
        refine r_bipush X dX5_joint_75 (v := -10) (by decide) ?_
        refine r_goto X dX5_joint_77 (tgt := 95) (by decide) ?_
        exact r_iret X dX5_joint_95 rfl w hk.1 hk.2
    · have w := w.2.2.2.2 (by omega)
      refine r_aload_n X dX5_joint_96 rfl ?_
      refine r_bipush X dX5_joint_97 (v := 43) (by decide) ?_
      obtain ⟨fs12, es12, w⟩ := w
      obtain ⟨d12, P12, E12, m12, n12, ct12, w⟩ := w
      obtain ⟨⟨x1, x2, x3⟩, w⟩ := w
      obtain ⟨x4, w⟩ := w
      refine r_callV X (As := [.int ((43 : Int32))]) dX5_joint_99 mk_X5_isSign ⟨ml_X5_74, im_X5_isSign, se_X5_isSign⟩ (oF_s es12) (ci_X5).1 rfl rfl rfl (by simp [Value.category]) ⟨x1, by show 60 * (d12 + 1) + 200 ≤ 60 * D + 200; omega⟩ ⟨x2, x3⟩ ct12 x4 (fun _ z => nomatch z) (fun _ => ⟨x2, x3⟩) (fun v h12 w1 => ?_)
      have w := w v h12 w1
      have hk : kc + m12 ≤ mc ∧ ks + n12 ≤ ms := ⟨x2, x3⟩
      obtain ⟨v14, rfl, w⟩ := w
      refine r_if_eq X dX5_joint_102 (tgt := 110) (by decide) (fun q => ?_) (fun q => ?_)
      · have w := w.1 q
        refine r_aload_n X dX5_joint_110 rfl ?_
        refine r_bipush X dX5_joint_111 (v := 45) (by decide) ?_
        obtain ⟨fs14, es14, w⟩ := w
        obtain ⟨d14, P14, E14, m14, n14, ct14, w⟩ := w
        obtain ⟨⟨x1, x2, x3⟩, w⟩ := w
        obtain ⟨x4, w⟩ := w
        refine r_callV X (As := [.int ((45 : Int32))]) dX5_joint_113 mk_X5_isSign ⟨ml_X5_74, im_X5_isSign, se_X5_isSign⟩ (oF_s es14) (ci_X5).1 rfl rfl rfl (by simp [Value.category]) ⟨x1, by show 60 * (d14 + 1) + 200 ≤ 60 * D + 200; omega⟩ ⟨x2, x3⟩ ct14 x4 (fun _ z => nomatch z) (fun _ => ⟨x2, x3⟩) (fun v h14 w1 => ?_)
        have w := w v h14 w1
        have hk : (kc + m12) + m14 ≤ mc ∧ (ks + n12) + n14 ≤ ms := ⟨x2, x3⟩
        obtain ⟨v16, rfl, w⟩ := w
        refine r_if_eq X dX5_joint_116 (tgt := 124) (by decide) (fun q => ?_) (fun q => ?_)
        · have w := w.1 q
          refine r_iconst X dX5_joint_124 (v := 0) (by decide) ?_
          exact r_iret X dX5_joint_125 rfl w hk.1 hk.2
        · have w := w.2 q
          refine r_bipush X dX5_joint_119 (v := -13) (by decide) ?_
          refine r_goto X dX5_joint_121 (tgt := 125) (by decide) ?_
          exact r_iret X dX5_joint_125 rfl w hk.1 hk.2
      · have w := w.2 q
        refine r_bipush X dX5_joint_105 (v := -12) (by decide) ?_
        refine r_goto X dX5_joint_107 (tgt := 125) (by decide) ?_
        exact r_iret X dX5_joint_125 rfl w hk.1 hk.2

set_option maxRecDepth 10000 in
theorem b_X5_kindAt_0 {g : GG} {K : KX} {D mc ms : Nat} {Pr : Option Value → Hp → Prop} {Pt : String → Hp → Prop} {kc ks : Nat} (hg : GOK g) (hD : 8 ≤ D) (hk : kc ≤ mc ∧ ks ≤ ms) (X : CB g K cX5_kindAt 3 yX5_kindAt (some (.int)) []) (l0 : Nat) (l1 : Int32) (h : Hp)
    (w : ((l1 < 0 → Pr (some (.int ((0 : Int32)))) h) ∧ (¬ l1 < 0 → (∃ v1, gI h l0 5 3 = some v1 ∧ ((l1 < v1 → (∃ v2, gN h l0 5 2 = some v2 ∧ (∃ v3, aI h 1 v2 l1 = some v3 ∧ ((v3 < (97 : Int32) → VB g K 3 D mc ms Pr Pt kc ks 35 [none, none, some (.int v3)] [] h) ∧ (¬ v3 < (97 : Int32) → (((122 : Int32) < v3 → VB g K 3 D mc ms Pr Pt kc ks 35 [none, none, some (.int v3)] [] h) ∧ (¬ (122 : Int32) < v3 → Pr (some (.int ((1 : Int32)))) h))))))) ∧ (¬ l1 < v1 → Pr (some (.int ((0 : Int32)))) h)))))) : VB g K 3 D mc ms Pr Pt kc ks 0 [some (.ref l0), some (.int l1), none] [] h := by
  obtain ⟨p, e, s, m, args, below, meth, c⟩ := K
  have X : CX g p s m args meth c cX5_kindAt 3 yX5_kindAt (some (.int)) [] := X
  have hz := hg s X.gk.z
  show VV g p e (rmm D mc ms) s m args below meth c 3 (QQ g below args s mc ms Pr Pt) kc ks 0 [some (.ref l0), some (.int l1), none] [] h
  refine r_iload_n X dX5_kindAt_0 rfl ?_
  refine r_if_lt X dX5_kindAt_1 (tgt := 12) (by decide) (fun q => ?_) (fun q => ?_)
  · have w := w.1 q
    refine r_iconst X dX5_kindAt_12 (v := 0) (by decide) ?_
    exact r_iret X dX5_kindAt_13 rfl w hk.1 hk.2
  · have w := w.2 q
    refine r_iload_n X dX5_kindAt_4 rfl ?_
    refine r_aload_n X dX5_kindAt_5 rfl ?_
    obtain ⟨v1, ev1, w⟩ := w
    obtain ⟨fv1, cv1, qv1⟩ := gI_s ev1
    refine r_getf X dX5_kindAt_6 fl_X5_43 cv1 qv1 ?_
    refine r_icmp_lt X dX5_kindAt_9 (tgt := 14) (by decide) (fun q => ?_) (fun q => ?_)
    · have w := w.1 q
      refine r_aload_n X dX5_kindAt_14 rfl ?_
      obtain ⟨v2, ev2, w⟩ := w
      obtain ⟨fv2, cv2, qv2⟩ := gN_s ev2
      refine r_getf X dX5_kindAt_15 fl_X5_33 cv2 qv2 ?_
      refine r_iload_n X dX5_kindAt_18 rfl ?_
      obtain ⟨v3, ev3, w⟩ := w
      obtain ⟨nv3, fv3, cv3, iv3, qv3⟩ := aI_s ev3
      refine r_bald X dX5_kindAt_19 cv3 iv3 ?_
      rw [qv3]
      refine r_istore_n X dX5_kindAt_20 (by decide) rfl ?_
      refine r_iload_n X dX5_kindAt_21 rfl ?_
      refine r_bipush X dX5_kindAt_22 (v := 97) (by decide) ?_
      refine r_icmp_lt X dX5_kindAt_24 (tgt := 35) (by decide) (fun q => ?_) (fun q => ?_)
      · have w := w.1 q
        refine VB_wk (ls' := [none, none, some (.int v3)]) ?_ w
        exact (And.intro rfl trivial)
      · have w := w.2 q
        refine r_iload_n X dX5_kindAt_27 rfl ?_
        refine r_bipush X dX5_kindAt_28 (v := 122) (by decide) ?_
        refine r_icmp_gt X dX5_kindAt_30 (tgt := 35) (by decide) (fun q => ?_) (fun q => ?_)
        · have w := w.1 q
          refine VB_wk (ls' := [none, none, some (.int v3)]) ?_ w
          exact (And.intro rfl trivial)
        · have w := w.2 q
          refine r_iconst X dX5_kindAt_33 (v := 1) (by decide) ?_
          exact r_iret X dX5_kindAt_34 rfl w hk.1 hk.2
    · have w := w.2 q
      refine r_iconst X dX5_kindAt_12 (v := 0) (by decide) ?_
      exact r_iret X dX5_kindAt_13 rfl w hk.1 hk.2

set_option maxRecDepth 10000 in
theorem b_X5_kindAt_35 {g : GG} {K : KX} {D mc ms : Nat} {Pr : Option Value → Hp → Prop} {Pt : String → Hp → Prop} {kc ks : Nat} (hg : GOK g) (hD : 8 ≤ D) (hk : kc ≤ mc ∧ ks ≤ ms) (X : CB g K cX5_kindAt 3 yX5_kindAt (some (.int)) []) (l2 : Int32) (h : Hp)
    (w : ((l2 < (48 : Int32) → VB g K 3 D mc ms Pr Pt kc ks 49 [none, none, some (.int l2)] [] h) ∧ (¬ l2 < (48 : Int32) → (((57 : Int32) < l2 → VB g K 3 D mc ms Pr Pt kc ks 49 [none, none, some (.int l2)] [] h) ∧ (¬ (57 : Int32) < l2 → Pr (some (.int ((2 : Int32)))) h))))) : VB g K 3 D mc ms Pr Pt kc ks 35 [none, none, some (.int l2)] [] h := by
  obtain ⟨p, e, s, m, args, below, meth, c⟩ := K
  have X : CX g p s m args meth c cX5_kindAt 3 yX5_kindAt (some (.int)) [] := X
  have hz := hg s X.gk.z
  show VV g p e (rmm D mc ms) s m args below meth c 3 (QQ g below args s mc ms Pr Pt) kc ks 35 [none, none, some (.int l2)] [] h
  refine r_iload_n X dX5_kindAt_35 rfl ?_
  refine r_bipush X dX5_kindAt_36 (v := 48) (by decide) ?_
  refine r_icmp_lt X dX5_kindAt_38 (tgt := 49) (by decide) (fun q => ?_) (fun q => ?_)
  · have w := w.1 q
    refine VB_wk (ls' := [none, none, some (.int l2)]) ?_ w
    exact (And.intro rfl trivial)
  · have w := w.2 q
    refine r_iload_n X dX5_kindAt_41 rfl ?_
    refine r_bipush X dX5_kindAt_42 (v := 57) (by decide) ?_
    refine r_icmp_gt X dX5_kindAt_44 (tgt := 49) (by decide) (fun q => ?_) (fun q => ?_)
    · have w := w.1 q
      refine VB_wk (ls' := [none, none, some (.int l2)]) ?_ w
      exact (And.intro rfl trivial)
    · have w := w.2 q
      refine r_iconst X dX5_kindAt_47 (v := 2) (by decide) ?_
      exact r_iret X dX5_kindAt_48 rfl w hk.1 hk.2

set_option maxRecDepth 10000 in
theorem b_X5_kindAt_49 {g : GG} {K : KX} {D mc ms : Nat} {Pr : Option Value → Hp → Prop} {Pt : String → Hp → Prop} {kc ks : Nat} (hg : GOK g) (hD : 8 ≤ D) (hk : kc ≤ mc ∧ ks ≤ ms) (X : CB g K cX5_kindAt 3 yX5_kindAt (some (.int)) []) (l2 : Int32) (h : Hp)
    (w : (((l2).toInt = 10 → Pr (some (.int ((4 : Int32)))) h) ∧ (((l2).toInt = 32 → Pr (some (.int ((4 : Int32)))) h) ∧ (((l2).toInt = 40 → Pr (some (.int ((3 : Int32)))) h) ∧ (((l2).toInt = 41 → Pr (some (.int ((3 : Int32)))) h) ∧ (((l2).toInt = 42 → Pr (some (.int ((3 : Int32)))) h) ∧ (((l2).toInt = 43 → Pr (some (.int ((3 : Int32)))) h) ∧ (((l2).toInt = 45 → Pr (some (.int ((3 : Int32)))) h) ∧ (((l2).toInt = 47 → Pr (some (.int ((3 : Int32)))) h) ∧ (((l2).toInt = 59 → Pr (some (.int ((3 : Int32)))) h) ∧ (((l2).toInt = 60 → Pr (some (.int ((3 : Int32)))) h) ∧ (((l2).toInt = 61 → Pr (some (.int ((3 : Int32)))) h) ∧ ((¬ (l2).toInt = 10 ∧ ¬ (l2).toInt = 32 ∧ ¬ (l2).toInt = 40 ∧ ¬ (l2).toInt = 41 ∧ ¬ (l2).toInt = 42 ∧ ¬ (l2).toInt = 43 ∧ ¬ (l2).toInt = 45 ∧ ¬ (l2).toInt = 47 ∧ ¬ (l2).toInt = 59 ∧ ¬ (l2).toInt = 60 ∧ ¬ (l2).toInt = 61) → Pr (some (.int ((5 : Int32)))) h))))))))))))) : VB g K 3 D mc ms Pr Pt kc ks 49 [none, none, some (.int l2)] [] h := by
  obtain ⟨p, e, s, m, args, below, meth, c⟩ := K
  have X : CX g p s m args meth c cX5_kindAt 3 yX5_kindAt (some (.int)) [] := X
  have hz := hg s X.gk.z
  show VV g p e (rmm D mc ms) s m args below meth c 3 (QQ g below args s mc ms Pr Pt) kc ks 49 [none, none, some (.int l2)] [] h
  refine r_iload_n X dX5_kindAt_49 rfl ?_
  by_cases y0 : (l2).toInt = 10
  · have w := w.1 y0
    refine r_lookup X dX5_kindAt_50 (tgt := 148) (by decide) (by rw [y0]) (by decide) ?_
    refine r_iconst X dX5_kindAt_148 (v := 4) (by decide) ?_
    exact r_iret X dX5_kindAt_149 rfl w hk.1 hk.2
  ·
    by_cases y1 : (l2).toInt = 32
    · have w := w.2.1 y1
      refine r_lookup X dX5_kindAt_50 (tgt := 148) (by decide) (by rw [y1]) (by decide) ?_
      refine r_iconst X dX5_kindAt_148 (v := 4) (by decide) ?_
      exact r_iret X dX5_kindAt_149 rfl w hk.1 hk.2
    ·
      by_cases y2 : (l2).toInt = 40
      · have w := w.2.2.1 y2
        refine r_lookup X dX5_kindAt_50 (tgt := 150) (by decide) (by rw [y2]) (by decide) ?_
        refine r_iconst X dX5_kindAt_150 (v := 3) (by decide) ?_
        exact r_iret X dX5_kindAt_151 rfl w hk.1 hk.2
      ·
        by_cases y3 : (l2).toInt = 41
        · have w := w.2.2.2.1 y3
          refine r_lookup X dX5_kindAt_50 (tgt := 150) (by decide) (by rw [y3]) (by decide) ?_
          refine r_iconst X dX5_kindAt_150 (v := 3) (by decide) ?_
          exact r_iret X dX5_kindAt_151 rfl w hk.1 hk.2
        ·
          by_cases y4 : (l2).toInt = 42
          · have w := w.2.2.2.2.1 y4
            refine r_lookup X dX5_kindAt_50 (tgt := 150) (by decide) (by rw [y4]) (by decide) ?_
            refine r_iconst X dX5_kindAt_150 (v := 3) (by decide) ?_
            exact r_iret X dX5_kindAt_151 rfl w hk.1 hk.2
          ·
            by_cases y5 : (l2).toInt = 43
            · have w := w.2.2.2.2.2.1 y5
              refine r_lookup X dX5_kindAt_50 (tgt := 150) (by decide) (by rw [y5]) (by decide) ?_
              refine r_iconst X dX5_kindAt_150 (v := 3) (by decide) ?_
              exact r_iret X dX5_kindAt_151 rfl w hk.1 hk.2
            ·
              by_cases y6 : (l2).toInt = 45
              · have w := w.2.2.2.2.2.2.1 y6
                refine r_lookup X dX5_kindAt_50 (tgt := 150) (by decide) (by rw [y6]) (by decide) ?_
                refine r_iconst X dX5_kindAt_150 (v := 3) (by decide) ?_
                exact r_iret X dX5_kindAt_151 rfl w hk.1 hk.2
              ·
                by_cases y7 : (l2).toInt = 47
                · have w := w.2.2.2.2.2.2.2.1 y7
                  refine r_lookup X dX5_kindAt_50 (tgt := 150) (by decide) (by rw [y7]) (by decide) ?_
                  refine r_iconst X dX5_kindAt_150 (v := 3) (by decide) ?_
                  exact r_iret X dX5_kindAt_151 rfl w hk.1 hk.2
                ·
                  by_cases y8 : (l2).toInt = 59
                  · have w := w.2.2.2.2.2.2.2.2.1 y8
                    refine r_lookup X dX5_kindAt_50 (tgt := 150) (by decide) (by rw [y8]) (by decide) ?_
                    refine r_iconst X dX5_kindAt_150 (v := 3) (by decide) ?_
                    exact r_iret X dX5_kindAt_151 rfl w hk.1 hk.2
                  ·
                    by_cases y9 : (l2).toInt = 60
                    · have w := w.2.2.2.2.2.2.2.2.2.1 y9
                      refine r_lookup X dX5_kindAt_50 (tgt := 150) (by decide) (by rw [y9]) (by decide) ?_
                      refine r_iconst X dX5_kindAt_150 (v := 3) (by decide) ?_
                      exact r_iret X dX5_kindAt_151 rfl w hk.1 hk.2
                    ·
                      by_cases y10 : (l2).toInt = 61
                      · have w := w.2.2.2.2.2.2.2.2.2.2.1 y10
                        refine r_lookup X dX5_kindAt_50 (tgt := 150) (by decide) (by rw [y10]) (by decide) ?_
                        refine r_iconst X dX5_kindAt_150 (v := 3) (by decide) ?_
                        exact r_iret X dX5_kindAt_151 rfl w hk.1 hk.2
                      ·
                        have w := w.2.2.2.2.2.2.2.2.2.2.2 ⟨y0, y1, y2, y3, y4, y5, y6, y7, y8, y9, y10⟩
                        have z0 : ¬ (10 : Int) = (l2).toInt := fun q => y0 q.symm
                        have z1 : ¬ (32 : Int) = (l2).toInt := fun q => y1 q.symm
                        have z2 : ¬ (40 : Int) = (l2).toInt := fun q => y2 q.symm
                        have z3 : ¬ (41 : Int) = (l2).toInt := fun q => y3 q.symm
                        have z4 : ¬ (42 : Int) = (l2).toInt := fun q => y4 q.symm
                        have z5 : ¬ (43 : Int) = (l2).toInt := fun q => y5 q.symm
                        have z6 : ¬ (45 : Int) = (l2).toInt := fun q => y6 q.symm
                        have z7 : ¬ (47 : Int) = (l2).toInt := fun q => y7 q.symm
                        have z8 : ¬ (59 : Int) = (l2).toInt := fun q => y8 q.symm
                        have z9 : ¬ (60 : Int) = (l2).toInt := fun q => y9 q.symm
                        have z10 : ¬ (61 : Int) = (l2).toInt := fun q => y10 q.symm
                        refine r_lookup X dX5_kindAt_50 (tgt := 152) (off := 102) (by decide) (by simp [Op.lookupswitch.offset, z0, z1, z2, z3, z4, z5, z6, z7, z8, z9, z10]) (by decide) ?_
                        refine r_iconst X dX5_kindAt_152 (v := 5) (by decide) ?_
                        exact r_iret X dX5_kindAt_153 rfl w hk.1 hk.2

set_option maxRecDepth 10000 in
theorem b_X5_passNots_0 {g : GG} {K : KX} {D mc ms : Nat} {Pr : Option Value → Hp → Prop} {Pt : String → Hp → Prop} {kc ks : Nat} (hg : GOK g) (hD : 8 ≤ D) (hk : kc ≤ mc ∧ ks ≤ ms) (X : CB g K cX5_passNots 2 yX5_passNots (some (.int)) []) (l0 : Nat) (h : Hp)
    (w : VB g K 2 D mc ms Pr Pt kc ks 2 [some (.ref l0), some (.int ((0 : Int32)))] [] h) : VB g K 2 D mc ms Pr Pt kc ks 0 [some (.ref l0), none] [] h := by
  obtain ⟨p, e, s, m, args, below, meth, c⟩ := K
  have X : CX g p s m args meth c cX5_passNots 2 yX5_passNots (some (.int)) [] := X
  have hz := hg s X.gk.z
  show VV g p e (rmm D mc ms) s m args below meth c 2 (QQ g below args s mc ms Pr Pt) kc ks 0 [some (.ref l0), none] [] h
  refine r_iconst X dX5_passNots_0 (v := 0) (by decide) ?_
  refine r_istore_n X dX5_passNots_1 (by decide) rfl ?_
  refine VB_wk (ls' := [some (.ref l0), some (.int ((0 : Int32)))]) ?_ w
  exact (And.intro rfl (And.intro rfl trivial))

set_option maxRecDepth 10000 in
theorem b_X5_passNots_2 {g : GG} {K : KX} {D mc ms : Nat} {Pr : Option Value → Hp → Prop} {Pt : String → Hp → Prop} {kc ks : Nat} (hg : GOK g) (hD : 8 ≤ D) (hk : kc ≤ mc ∧ ks ≤ ms) (X : CB g K cX5_passNots 2 yX5_passNots (some (.int)) []) (l0 : Nat) (l1 : Int32) (h : Hp)
    (w : (((6 : Int32) ≤ l1 → (∃ fs0, oF h l0 5 = some fs0 ∧ (∃ d0 P0 E0 m0 n0, CT g d0 yX5_isWord (wsC yX5_isWord cX5_isWord 2 (some (.boolean))) [.ref l0, .retAddr 8] h m0 n0 P0 E0 ∧ (d0 + 1 ≤ D ∧ kc + m0 ≤ mc ∧ ks + n0 ≤ ms) ∧ (∀ E h', E0 E h' → Pt E h') ∧ (∀ v h0, P0 v h0 → ∃ v2, v = some (.int v2) ∧ ((v2 = 0 → Pr (some (.int ((6 : Int32)))) h0) ∧ (¬ v2 = 0 → (∃ fs2, oF h0 l0 5 = some fs2 ∧ (∃ d2 P2 E2 m2 n2, CT g d2 yX5_fail (wsC yX5_fail cX5_fail 2 (some (.boolean))) [.ref l0, .int ((2 : Int32))] h0 m2 n2 P2 E2 ∧ (d2 + 1 ≤ D ∧ (kc + m0) + m2 ≤ mc ∧ (ks + n0) + n2 ≤ ms) ∧ (∀ E h', E2 E h' → Pt E h') ∧ (∀ v h2, P2 v h2 → ∃ v4, v = some (.int v4) ∧ Pr (some (.int ((7 : Int32)))) h2))))))))) ∧ (¬ (6 : Int32) ≤ l1 → (∃ fs4, oF h l0 5 = some fs4 ∧ (∃ d4 P4 E4 m4 n4, CT g d4 yX5_isWord (wsC yX5_isWord cX5_isWord 2 (some (.boolean))) [.ref l0, .retAddr 8] h m4 n4 P4 E4 ∧ (d4 + 1 ≤ D ∧ kc + m4 ≤ mc ∧ ks + n4 ≤ ms) ∧ (∀ E h', E4 E h' → Pt E h') ∧ (∀ v h4, P4 v h4 → ∃ v6, v = some (.int v6) ∧ ((¬ v6 = 0 → (∃ fs6, oF h4 l0 5 = some fs6 ∧ (∃ d6 P6 E6 m6 n6, CT g d6 yX5_takeToken (wsC yX5_takeToken cX5_takeToken 2 none) [.ref l0] h4 m6 n6 P6 E6 ∧ (d6 + 1 ≤ D ∧ (kc + m4) + m6 ≤ mc ∧ (ks + n4) + n6 ≤ ms) ∧ (∀ E h', E6 E h' → Pt E h') ∧ (∀ v h6, P6 v h6 → v = none ∧ VB g K 2 D mc ms Pr Pt (((kc + m4) + m6)) (((ks + n4) + n6)) 2 [some (.ref l0), some (.int ((l1 + 1)))] [] h6)))) ∧ (v6 = 0 → Pr (some (.int l1)) h4)))))))) : VB g K 2 D mc ms Pr Pt kc ks 2 [some (.ref l0), some (.int l1)] [] h := by
  obtain ⟨p, e, s, m, args, below, meth, c⟩ := K
  have X : CX g p s m args meth c cX5_passNots 2 yX5_passNots (some (.int)) [] := X
  have hz := hg s X.gk.z
  show VV g p e (rmm D mc ms) s m args below meth c 2 (QQ g below args s mc ms Pr Pt) kc ks 2 [some (.ref l0), some (.int l1)] [] h
  refine r_iload_n X dX5_passNots_2 rfl ?_
  refine r_bipush X dX5_passNots_3 (v := 6) (by decide) ?_
  refine r_icmp_ge X dX5_passNots_5 (tgt := 30) (by decide) (fun q => ?_) (fun q => ?_)
  · have w := w.1 q
    refine r_aload_n X dX5_passNots_30 rfl ?_
    refine r_word X dX5_passNots_31 hz.2.2.2 (k := 8) (by decide) wl_X5_218 ?_
    obtain ⟨fs0, es0, w⟩ := w
    obtain ⟨d0, P0, E0, m0, n0, ct0, w⟩ := w
    obtain ⟨⟨x1, x2, x3⟩, w⟩ := w
    obtain ⟨x4, w⟩ := w
    refine r_callV X (As := [.retAddr 8]) dX5_passNots_34 mk_X5_isWord ⟨ml_X5_86, im_X5_isWord, se_X5_isWord⟩ (oF_s es0) (ci_X5).1 rfl rfl rfl (by simp [Value.category]) ⟨x1, by show 60 * (d0 + 1) + 200 ≤ 60 * D + 200; omega⟩ ⟨x2, x3⟩ ct0 x4 (fun _ z => nomatch z) (fun _ => ⟨x2, x3⟩) (fun v h0 w1 => ?_)
    have w := w v h0 w1
    have hk : kc + m0 ≤ mc ∧ ks + n0 ≤ ms := ⟨x2, x3⟩
    obtain ⟨v2, rfl, w⟩ := w
    refine r_if_eq X dX5_passNots_37 (tgt := 49) (by decide) (fun q => ?_) (fun q => ?_)
    · have w := w.1 q
      refine r_bipush X dX5_passNots_49 (v := 6) (by decide) ?_
      exact r_iret X dX5_passNots_51 rfl w hk.1 hk.2
    · have w := w.2 q
      refine r_aload_n X dX5_passNots_40 rfl ?_
      refine r_iconst X dX5_passNots_41 (v := 2) (by decide) ?_
      obtain ⟨fs2, es2, w⟩ := w
      obtain ⟨d2, P2, E2, m2, n2, ct2, w⟩ := w
      obtain ⟨⟨x1, x2, x3⟩, w⟩ := w
      obtain ⟨x4, w⟩ := w
      refine r_callV X (As := [.int ((2 : Int32))]) dX5_passNots_42 mk_X5_fail ⟨ml_X5_78, im_X5_fail, se_X5_fail⟩ (oF_s es2) (ci_X5).1 rfl rfl rfl (by simp [Value.category]) ⟨x1, by show 60 * (d2 + 1) + 200 ≤ 60 * D + 200; omega⟩ ⟨x2, x3⟩ ct2 x4 (fun _ z => nomatch z) (fun _ => ⟨x2, x3⟩) (fun v h2 w1 => ?_)
      have w := w v h2 w1
      have hk : (kc + m0) + m2 ≤ mc ∧ (ks + n0) + n2 ≤ ms := ⟨x2, x3⟩
      obtain ⟨v4, rfl, w⟩ := w
      refine r_pop X dX5_passNots_45 rfl ?_
      refine r_bipush X dX5_passNots_46 (v := 7) (by decide) ?_
      exact r_iret X dX5_passNots_48 rfl w hk.1 hk.2
  · have w := w.2 q
    refine r_aload_n X dX5_passNots_8 rfl ?_
    refine r_word X dX5_passNots_9 hz.2.2.2 (k := 8) (by decide) wl_X5_218 ?_
    obtain ⟨fs4, es4, w⟩ := w
    obtain ⟨d4, P4, E4, m4, n4, ct4, w⟩ := w
    obtain ⟨⟨x1, x2, x3⟩, w⟩ := w
    obtain ⟨x4, w⟩ := w
    refine r_callV X (As := [.retAddr 8]) dX5_passNots_12 mk_X5_isWord ⟨ml_X5_86, im_X5_isWord, se_X5_isWord⟩ (oF_s es4) (ci_X5).1 rfl rfl rfl (by simp [Value.category]) ⟨x1, by show 60 * (d4 + 1) + 200 ≤ 60 * D + 200; omega⟩ ⟨x2, x3⟩ ct4 x4 (fun _ z => nomatch z) (fun _ => ⟨x2, x3⟩) (fun v h4 w1 => ?_)
    have w := w v h4 w1
    have hk : kc + m4 ≤ mc ∧ ks + n4 ≤ ms := ⟨x2, x3⟩
    obtain ⟨v6, rfl, w⟩ := w
    refine r_if_ne X dX5_passNots_15 (tgt := 20) (by decide) (fun q => ?_) (fun q => ?_)
    · have w := w.1 q
      refine r_aload_n X dX5_passNots_20 rfl ?_
      obtain ⟨fs6, es6, w⟩ := w
      obtain ⟨d6, P6, E6, m6, n6, ct6, w⟩ := w
      obtain ⟨⟨x1, x2, x3⟩, w⟩ := w
      obtain ⟨x4, w⟩ := w
      refine r_callV X (As := []) dX5_passNots_21 mk_X5_takeToken ⟨ml_X5_54, im_X5_takeToken, se_X5_takeToken⟩ (oF_s es6) (ci_X5).1 rfl rfl rfl (by simp [Value.category]) ⟨x1, by show 60 * (d6 + 1) + 200 ≤ 60 * D + 200; omega⟩ ⟨x2, x3⟩ ct6 x4 (fun _ z => nomatch z) (fun _ => ⟨x2, x3⟩) (fun v h6 w1 => ?_)
      have w := w v h6 w1
      have hk : (kc + m4) + m6 ≤ mc ∧ (ks + n4) + n6 ≤ ms := ⟨x2, x3⟩
      obtain ⟨rfl, w⟩ := w
      refine r_iinc X dX5_passNots_24 rfl (v := (l1 + 1)) rfl (by decide) rfl ?_
      refine r_goto X dX5_passNots_27 (tgt := 2) (by decide) ?_
      refine VB_wk (ls' := [some (.ref l0), some (.int ((l1 + 1)))]) ?_ w
      exact (And.intro rfl (And.intro rfl trivial))
    · have w := w.2 q
      refine r_iload_n X dX5_passNots_18 rfl ?_
      exact r_iret X dX5_passNots_19 rfl w hk.1 hk.2

set_option maxRecDepth 10000 in
theorem b_X5_passSign_0 {g : GG} {K : KX} {D mc ms : Nat} {Pr : Option Value → Hp → Prop} {Pt : String → Hp → Prop} {kc ks : Nat} (hg : GOK g) (hD : 8 ≤ D) (hk : kc ≤ mc ∧ ks ≤ ms) (X : CB g K cX5_passSign 2 yX5_passSign (some (.boolean)) []) (l0 : Nat) (l1 : Int32) (h : Hp)
    (w : (∃ fs0, oF h l0 5 = some fs0 ∧ (∃ d0 P0 E0 m0 n0, CT g d0 yX5_isSign (wsC yX5_isSign cX5_isSign 2 (some (.boolean))) [.ref l0, .int l1] h m0 n0 P0 E0 ∧ (d0 + 1 ≤ D ∧ kc + m0 ≤ mc ∧ ks + n0 ≤ ms) ∧ (∀ E h', E0 E h' → Pt E h') ∧ (∀ v h0, P0 v h0 → ∃ v2, v = some (.int v2) ∧ ((¬ v2 = 0 → (∃ fs2, oF h0 l0 5 = some fs2 ∧ (∃ d2 P2 E2 m2 n2, CT g d2 yX5_takeToken (wsC yX5_takeToken cX5_takeToken 2 none) [.ref l0] h0 m2 n2 P2 E2 ∧ (d2 + 1 ≤ D ∧ (kc + m0) + m2 ≤ mc ∧ (ks + n0) + n2 ≤ ms) ∧ (∀ E h', E2 E h' → Pt E h') ∧ (∀ v h2, P2 v h2 → v = none ∧ (isB ((1 : Int32)) ∧ Pr (some (.int ((1 : Int32)))) h2))))) ∧ (v2 = 0 → (∃ fs3, oF h0 l0 5 = some fs3 ∧ (∃ d3 P3 E3 m3 n3, CT g d3 yX5_fail (wsC yX5_fail cX5_fail 2 (some (.boolean))) [.ref l0, .int ((1 : Int32))] h0 m3 n3 P3 E3 ∧ (d3 + 1 ≤ D ∧ (kc + m0) + m3 ≤ mc ∧ (ks + n0) + n3 ≤ ms) ∧ (∀ E h', E3 E h' → Pt E h') ∧ (∀ v h3, P3 v h3 → ∃ v5, v = some (.int v5) ∧ (isB v5 ∧ Pr (some (.int v5)) h3)))))))))) : VB g K 2 D mc ms Pr Pt kc ks 0 [some (.ref l0), some (.int l1)] [] h := by
  obtain ⟨p, e, s, m, args, below, meth, c⟩ := K
  have X : CX g p s m args meth c cX5_passSign 2 yX5_passSign (some (.boolean)) [] := X
  have hz := hg s X.gk.z
  show VV g p e (rmm D mc ms) s m args below meth c 2 (QQ g below args s mc ms Pr Pt) kc ks 0 [some (.ref l0), some (.int l1)] [] h
  refine r_aload_n X dX5_passSign_0 rfl ?_
  refine r_iload_n X dX5_passSign_1 rfl ?_
  obtain ⟨fs0, es0, w⟩ := w
  obtain ⟨d0, P0, E0, m0, n0, ct0, w⟩ := w
  obtain ⟨⟨x1, x2, x3⟩, w⟩ := w
  obtain ⟨x4, w⟩ := w
  refine r_callV X (As := [.int l1]) dX5_passSign_2 mk_X5_isSign ⟨ml_X5_74, im_X5_isSign, se_X5_isSign⟩ (oF_s es0) (ci_X5).1 rfl rfl rfl (by simp [Value.category]) ⟨x1, by show 60 * (d0 + 1) + 200 ≤ 60 * D + 200; omega⟩ ⟨x2, x3⟩ ct0 x4 (fun _ z => nomatch z) (fun _ => ⟨x2, x3⟩) (fun v h0 w1 => ?_)
  have w := w v h0 w1
  have hk : kc + m0 ≤ mc ∧ ks + n0 ≤ ms := ⟨x2, x3⟩
  obtain ⟨v2, rfl, w⟩ := w
  refine r_if_ne X dX5_passSign_5 (tgt := 14) (by decide) (fun q => ?_) (fun q => ?_)
  · have w := w.1 q
    refine r_aload_n X dX5_passSign_14 rfl ?_
    obtain ⟨fs2, es2, w⟩ := w
    obtain ⟨d2, P2, E2, m2, n2, ct2, w⟩ := w
    obtain ⟨⟨x1, x2, x3⟩, w⟩ := w
    obtain ⟨x4, w⟩ := w
    refine r_callV X (As := []) dX5_passSign_15 mk_X5_takeToken ⟨ml_X5_54, im_X5_takeToken, se_X5_takeToken⟩ (oF_s es2) (ci_X5).1 rfl rfl rfl (by simp [Value.category]) ⟨x1, by show 60 * (d2 + 1) + 200 ≤ 60 * D + 200; omega⟩ ⟨x2, x3⟩ ct2 x4 (fun _ z => nomatch z) (fun _ => ⟨x2, x3⟩) (fun v h2 w1 => ?_)
    have w := w v h2 w1
    have hk : (kc + m0) + m2 ≤ mc ∧ (ks + n0) + n2 ≤ ms := ⟨x2, x3⟩
    obtain ⟨rfl, w⟩ := w
    refine r_iconst X dX5_passSign_18 (v := 1) (by decide) ?_
    exact r_zret X dX5_passSign_19 rfl (isB_n w.1) w.2 hk.1 hk.2
  · have w := w.2 q
    refine r_aload_n X dX5_passSign_8 rfl ?_
    refine r_iconst X dX5_passSign_9 (v := 1) (by decide) ?_
    obtain ⟨fs3, es3, w⟩ := w
    obtain ⟨d3, P3, E3, m3, n3, ct3, w⟩ := w
    obtain ⟨⟨x1, x2, x3⟩, w⟩ := w
    obtain ⟨x4, w⟩ := w
    refine r_callV X (As := [.int ((1 : Int32))]) dX5_passSign_10 mk_X5_fail ⟨ml_X5_78, im_X5_fail, se_X5_fail⟩ (oF_s es3) (ci_X5).1 rfl rfl rfl (by simp [Value.category]) ⟨x1, by show 60 * (d3 + 1) + 200 ≤ 60 * D + 200; omega⟩ ⟨x2, x3⟩ ct3 x4 (fun _ z => nomatch z) (fun _ => ⟨x2, x3⟩) (fun v h3 w1 => ?_)
    have w := w v h3 w1
    have hk : (kc + m0) + m3 ≤ mc ∧ (ks + n0) + n3 ≤ ms := ⟨x2, x3⟩
    obtain ⟨v5, rfl, w⟩ := w
    exact r_zret X dX5_passSign_13 rfl (isB_n w.1) w.2 hk.1 hk.2

set_option maxRecDepth 10000 in
theorem b_X5_readExpr_0 {g : GG} {K : KX} {D mc ms : Nat} {Pr : Option Value → Hp → Prop} {Pt : String → Hp → Prop} {kc ks : Nat} (hg : GOK g) (hD : 8 ≤ D) (hk : kc ≤ mc ∧ ks ≤ ms) (X : CB g K cX5_readExpr 2 yX5_readExpr (some (.boolean)) []) (l0 : Nat) (l1 : Int32) (h : Hp)
    (w : ((l1 < (6 : Int32) → (∃ fs0, oF h l0 5 = some fs0 ∧ (∃ d0 P0 E0 m0 n0, CT g d0 yX5_readRank (wsC yX5_readRank cX5_readRank 7 (some (.boolean))) [.ref l0, .int ((0 : Int32)), .int l1] h m0 n0 P0 E0 ∧ (d0 + 1 ≤ D ∧ kc + m0 ≤ mc ∧ ks + n0 ≤ ms) ∧ (∀ E h', E0 E h' → Pt E h') ∧ (∀ v h0, P0 v h0 → ∃ v2, v = some (.int v2) ∧ (isB v2 ∧ Pr (some (.int v2)) h0))))) ∧ (¬ l1 < (6 : Int32) → (∃ v3, gI h l0 5 7 = some v3 ∧ ((v3 = (2 : Int32) → VB g K 2 D mc ms Pr Pt kc ks 32 [none, none] [.ref l0] h) ∧ (¬ v3 = (2 : Int32) → (∃ v4, gI h l0 5 7 = some v4 ∧ ((v4 = (1 : Int32) → VB g K 2 D mc ms Pr Pt kc ks 32 [none, none] [.ref l0] h) ∧ (¬ v4 = (1 : Int32) → (∃ fs4, oF h l0 5 = some fs4 ∧ (∃ d4 P4 E4 m4 n4, CT g d4 yX5_isSign (wsC yX5_isSign cX5_isSign 2 (some (.boolean))) [.ref l0, .int ((40 : Int32))] h m4 n4 P4 E4 ∧ (d4 + 1 ≤ D ∧ kc + m4 ≤ mc ∧ ks + n4 ≤ ms) ∧ (∀ E h', E4 E h' → Pt E h') ∧ (∀ v h4, P4 v h4 → ∃ v6, v = some (.int v6) ∧ ((v6 = 0 → VB g K 2 D mc ms Pr Pt ((kc + m4)) ((ks + n4)) 37 [none, none] [.int ((1 : Int32)), .ref l0] h4) ∧ (¬ v6 = 0 → VB g K 2 D mc ms Pr Pt ((kc + m4)) ((ks + n4)) 32 [none, none] [.ref l0] h4)))))))))))))) : VB g K 2 D mc ms Pr Pt kc ks 0 [some (.ref l0), some (.int l1)] [] h := by
  obtain ⟨p, e, s, m, args, below, meth, c⟩ := K
  have X : CX g p s m args meth c cX5_readExpr 2 yX5_readExpr (some (.boolean)) [] := X
  have hz := hg s X.gk.z
  show VV g p e (rmm D mc ms) s m args below meth c 2 (QQ g below args s mc ms Pr Pt) kc ks 0 [some (.ref l0), some (.int l1)] [] h
  refine r_iload_n X dX5_readExpr_0 rfl ?_
  refine r_bipush X dX5_readExpr_1 (v := 6) (by decide) ?_
  refine r_icmp_lt X dX5_readExpr_3 (tgt := 41) (by decide) (fun q => ?_) (fun q => ?_)
  · have w := w.1 q
    refine r_aload_n X dX5_readExpr_41 rfl ?_
    refine r_iconst X dX5_readExpr_42 (v := 0) (by decide) ?_
    refine r_iload_n X dX5_readExpr_43 rfl ?_
    obtain ⟨fs0, es0, w⟩ := w
    obtain ⟨d0, P0, E0, m0, n0, ct0, w⟩ := w
    obtain ⟨⟨x1, x2, x3⟩, w⟩ := w
    obtain ⟨x4, w⟩ := w
    refine r_callV X (As := [.int ((0 : Int32)), .int l1]) dX5_readExpr_44 mk_X5_readRank ⟨ml_X5_201, im_X5_readRank, se_X5_readRank⟩ (oF_s es0) (ci_X5).1 rfl rfl rfl (by simp [Value.category]) ⟨x1, by show 60 * (d0 + 1) + 200 ≤ 60 * D + 200; omega⟩ ⟨x2, x3⟩ ct0 x4 (fun _ z => nomatch z) (fun _ => ⟨x2, x3⟩) (fun v h0 w1 => ?_)
    have w := w v h0 w1
    have hk : kc + m0 ≤ mc ∧ ks + n0 ≤ ms := ⟨x2, x3⟩
    obtain ⟨v2, rfl, w⟩ := w
    exact r_zret X dX5_readExpr_47 rfl (isB_n w.1) w.2 hk.1 hk.2
  · have w := w.2 q
    refine r_aload_n X dX5_readExpr_6 rfl ?_
    refine r_aload_n X dX5_readExpr_7 rfl ?_
    obtain ⟨v3, ev3, w⟩ := w
    obtain ⟨fv3, cv3, qv3⟩ := gI_s ev3
    refine r_getf X dX5_readExpr_8 fl_X5_21 cv3 qv3 ?_
    refine r_iconst X dX5_readExpr_11 (v := 2) (by decide) ?_
    refine r_icmp_eq X dX5_readExpr_12 (tgt := 32) (by decide) (fun q => ?_) (fun q => ?_)
    · have w := w.1 q
      refine VB_wk (ls' := [none, none]) ?_ w
      exact trivial
    · have w := w.2 q
      refine r_aload_n X dX5_readExpr_15 rfl ?_
      obtain ⟨v4, ev4, w⟩ := w
      obtain ⟨fv4, cv4, qv4⟩ := gI_s ev4
      refine r_getf X dX5_readExpr_16 fl_X5_21 cv4 qv4 ?_
      refine r_iconst X dX5_readExpr_19 (v := 1) (by decide) ?_
      refine r_icmp_eq X dX5_readExpr_20 (tgt := 32) (by decide) (fun q => ?_) (fun q => ?_)
      · have w := w.1 q
        refine VB_wk (ls' := [none, none]) ?_ w
        exact trivial
      · have w := w.2 q
        refine r_aload_n X dX5_readExpr_23 rfl ?_
        refine r_bipush X dX5_readExpr_24 (v := 40) (by decide) ?_
        obtain ⟨fs4, es4, w⟩ := w
        obtain ⟨d4, P4, E4, m4, n4, ct4, w⟩ := w
        obtain ⟨⟨x1, x2, x3⟩, w⟩ := w
        obtain ⟨x4, w⟩ := w
        refine r_callV X (As := [.int ((40 : Int32))]) dX5_readExpr_26 mk_X5_isSign ⟨ml_X5_74, im_X5_isSign, se_X5_isSign⟩ (oF_s es4) (ci_X5).1 rfl rfl rfl (by simp [Value.category]) ⟨x1, by show 60 * (d4 + 1) + 200 ≤ 60 * D + 200; omega⟩ ⟨x2, x3⟩ ct4 x4 (fun _ z => nomatch z) (fun _ => ⟨x2, x3⟩) (fun v h4 w1 => ?_)
        have w := w v h4 w1
        have hk : kc + m4 ≤ mc ∧ ks + n4 ≤ ms := ⟨x2, x3⟩
        obtain ⟨v6, rfl, w⟩ := w
        refine r_if_eq X dX5_readExpr_29 (tgt := 36) (by decide) (fun q => ?_) (fun q => ?_)
        · have w := w.1 q
          refine r_iconst X dX5_readExpr_36 (v := 1) (by decide) ?_
          refine VB_wk (ls' := [none, none]) ?_ w
          exact trivial
        · have w := w.2 q
          refine VB_wk (ls' := [none, none]) ?_ w
          exact trivial

set_option maxRecDepth 10000 in
theorem b_X5_readExpr_32 {g : GG} {K : KX} {D mc ms : Nat} {Pr : Option Value → Hp → Prop} {Pt : String → Hp → Prop} {kc ks : Nat} (hg : GOK g) (hD : 8 ≤ D) (hk : kc ≤ mc ∧ ks ≤ ms) (X : CB g K cX5_readExpr 2 yX5_readExpr (some (.boolean)) []) (s0 : Nat) (h : Hp)
    (w : VB g K 2 D mc ms Pr Pt kc ks 37 [none, none] [.int ((2 : Int32)), .ref s0] h) : VB g K 2 D mc ms Pr Pt kc ks 32 [none, none] [.ref s0] h := by
  obtain ⟨p, e, s, m, args, below, meth, c⟩ := K
  have X : CX g p s m args meth c cX5_readExpr 2 yX5_readExpr (some (.boolean)) [] := X
  have hz := hg s X.gk.z
  show VV g p e (rmm D mc ms) s m args below meth c 2 (QQ g below args s mc ms Pr Pt) kc ks 32 [none, none] [.ref s0] h
  refine r_iconst X dX5_readExpr_32 (v := 2) (by decide) ?_
  refine r_goto X dX5_readExpr_33 (tgt := 37) (by decide) ?_
  refine VB_wk (ls' := [none, none]) ?_ w
  exact trivial

set_option maxRecDepth 10000 in
theorem b_X5_readExpr_37 {g : GG} {K : KX} {D mc ms : Nat} {Pr : Option Value → Hp → Prop} {Pt : String → Hp → Prop} {kc ks : Nat} (hg : GOK g) (hD : 8 ≤ D) (hk : kc ≤ mc ∧ ks ≤ ms) (X : CB g K cX5_readExpr 2 yX5_readExpr (some (.boolean)) []) (s0 : Nat) (s1 : Int32) (h : Hp)
    (w : (∃ fs0, oF h s0 5 = some fs0 ∧ (∃ d0 P0 E0 m0 n0, CT g d0 yX5_fail (wsC yX5_fail cX5_fail 2 (some (.boolean))) [.ref s0, .int s1] h m0 n0 P0 E0 ∧ (d0 + 1 ≤ D ∧ kc + m0 ≤ mc ∧ ks + n0 ≤ ms) ∧ (∀ E h', E0 E h' → Pt E h') ∧ (∀ v h0, P0 v h0 → ∃ v2, v = some (.int v2) ∧ (isB v2 ∧ Pr (some (.int v2)) h0))))) : VB g K 2 D mc ms Pr Pt kc ks 37 [none, none] [.int s1, .ref s0] h := by
  obtain ⟨p, e, s, m, args, below, meth, c⟩ := K
  have X : CX g p s m args meth c cX5_readExpr 2 yX5_readExpr (some (.boolean)) [] := X
  have hz := hg s X.gk.z
  show VV g p e (rmm D mc ms) s m args below meth c 2 (QQ g below args s mc ms Pr Pt) kc ks 37 [none, none] [.int s1, .ref s0] h
  obtain ⟨fs0, es0, w⟩ := w
  obtain ⟨d0, P0, E0, m0, n0, ct0, w⟩ := w
  obtain ⟨⟨x1, x2, x3⟩, w⟩ := w
  obtain ⟨x4, w⟩ := w
  refine r_callV X (As := [.int s1]) dX5_readExpr_37 mk_X5_fail ⟨ml_X5_78, im_X5_fail, se_X5_fail⟩ (oF_s es0) (ci_X5).1 rfl rfl rfl (by simp [Value.category]) ⟨x1, by show 60 * (d0 + 1) + 200 ≤ 60 * D + 200; omega⟩ ⟨x2, x3⟩ ct0 x4 (fun _ z => nomatch z) (fun _ => ⟨x2, x3⟩) (fun v h0 w1 => ?_)
  have w := w v h0 w1
  have hk : kc + m0 ≤ mc ∧ ks + n0 ≤ ms := ⟨x2, x3⟩
  obtain ⟨v2, rfl, w⟩ := w
  exact r_zret X dX5_readExpr_40 rfl (isB_n w.1) w.2 hk.1 hk.2

set_option maxRecDepth 10000 in
theorem b_X5_readKnots_0 {g : GG} {K : KX} {D mc ms : Nat} {Pr : Option Value → Hp → Prop} {Pt : String → Hp → Prop} {kc ks : Nat} (hg : GOK g) (hD : 8 ≤ D) (hk : kc ≤ mc ∧ ks ≤ ms) (X : CB g K cX5_readKnots 2 yX5_readKnots (some (.boolean)) []) (l0 : Nat) (h : Hp)
    (w : (∃ v1, gN h l0 5 4 = some v1 ∧ (∃ v2, gI h v1 9 4 = some v2 ∧ ((v2 = 0 → (∃ v3, gN h l0 5 4 = some v3 ∧ (isB ((1 : Int32)) ∧ (∃ h4, pF h v3 9 4 (.int ((1 : Int32))) = some h4 ∧ (∃ fs4, oF h4 l0 5 = some fs4 ∧ (∃ d4 P4 E4 m4 n4, CT g d4 yX5_takeToken (wsC yX5_takeToken cX5_takeToken 2 none) [.ref l0] h4 m4 n4 P4 E4 ∧ (d4 + 1 ≤ D ∧ kc + m4 ≤ mc ∧ ks + n4 ≤ ms) ∧ (∀ E h', E4 E h' → Pt E h') ∧ (∀ v h4, P4 v h4 → v = none ∧ (∃ v6, gI h4 l0 5 7 = some v6 ∧ ((v6 = (2 : Int32) → VB g K 2 D mc ms Pr Pt ((kc + m4)) ((ks + n4)) 44 [some (.ref l0), some (.int ((0 : Int32)))] [] h4) ∧ (¬ v6 = (2 : Int32) → (∃ fs6, oF h4 l0 5 = some fs6 ∧ (∃ d6 P6 E6 m6 n6, CT g d6 yX5_fail (wsC yX5_fail cX5_fail 2 (some (.boolean))) [.ref l0, .int ((1 : Int32))] h4 m6 n6 P6 E6 ∧ (d6 + 1 ≤ D ∧ (kc + m4) + m6 ≤ mc ∧ (ks + n4) + n6 ≤ ms) ∧ (∀ E h', E6 E h' → Pt E h') ∧ (∀ v h6, P6 v h6 → ∃ v8, v = some (.int v8) ∧ (isB v8 ∧ Pr (some (.int v8)) h6)))))))))))))) ∧ (¬ v2 = 0 → (∃ fs8, oF h l0 5 = some fs8 ∧ (∃ d8 P8 E8 m8 n8, CT g d8 yX5_fail (wsC yX5_fail cX5_fail 2 (some (.boolean))) [.ref l0, .int ((5 : Int32))] h m8 n8 P8 E8 ∧ (d8 + 1 ≤ D ∧ kc + m8 ≤ mc ∧ ks + n8 ≤ ms) ∧ (∀ E h', E8 E h' → Pt E h') ∧ (∀ v h8, P8 v h8 → ∃ v10, v = some (.int v10) ∧ (isB v10 ∧ Pr (some (.int v10)) h8))))))))) : VB g K 2 D mc ms Pr Pt kc ks 0 [some (.ref l0), none] [] h := by
  obtain ⟨p, e, s, m, args, below, meth, c⟩ := K
  have X : CX g p s m args meth c cX5_readKnots 2 yX5_readKnots (some (.boolean)) [] := X
  have hz := hg s X.gk.z
  show VV g p e (rmm D mc ms) s m args below meth c 2 (QQ g below args s mc ms Pr Pt) kc ks 0 [some (.ref l0), none] [] h
  refine r_aload_n X dX5_readKnots_0 rfl ?_
  obtain ⟨v1, ev1, w⟩ := w
  obtain ⟨fv1, cv1, qv1⟩ := gN_s ev1
  refine r_getf X dX5_readKnots_1 fl_X5_46 cv1 qv1 ?_
  obtain ⟨v2, ev2, w⟩ := w
  obtain ⟨fv2, cv2, qv2⟩ := gI_s ev2
  refine r_getf X dX5_readKnots_4 fl_X5_160 cv2 qv2 ?_
  refine r_if_eq X dX5_readKnots_7 (tgt := 16) (by decide) (fun q => ?_) (fun q => ?_)
  · have w := w.1 q
    refine r_aload_n X dX5_readKnots_16 rfl ?_
    obtain ⟨v3, ev3, w⟩ := w
    obtain ⟨fv3, cv3, qv3⟩ := gN_s ev3
    refine r_getf X dX5_readKnots_17 fl_X5_46 cv3 qv3 ?_
    refine r_iconst X dX5_readKnots_20 (v := 1) (by decide) ?_
    obtain ⟨bh4, w⟩ := w
    obtain ⟨h4, eh4, w⟩ := w
    obtain ⟨fh4, ch4, lh4, rh4⟩ := pF_s eh4
    subst rh4
    refine r_putf X dX5_readKnots_21 fw_X5_160 ch4 lh4 (isB_n bh4) (isB_f bh4) ?_
    refine r_aload_n X dX5_readKnots_24 rfl ?_
    obtain ⟨fs4, es4, w⟩ := w
    obtain ⟨d4, P4, E4, m4, n4, ct4, w⟩ := w
    obtain ⟨⟨x1, x2, x3⟩, w⟩ := w
    obtain ⟨x4, w⟩ := w
    refine r_callV X (As := []) dX5_readKnots_25 mk_X5_takeToken ⟨ml_X5_54, im_X5_takeToken, se_X5_takeToken⟩ (oF_s es4) (ci_X5).1 rfl rfl rfl (by simp [Value.category]) ⟨x1, by show 60 * (d4 + 1) + 200 ≤ 60 * D + 200; omega⟩ ⟨x2, x3⟩ ct4 x4 (fun _ z => nomatch z) (fun _ => ⟨x2, x3⟩) (fun v h4 w1 => ?_)
    have w := w v h4 w1
    have hk : kc + m4 ≤ mc ∧ ks + n4 ≤ ms := ⟨x2, x3⟩
    obtain ⟨rfl, w⟩ := w
    refine r_aload_n X dX5_readKnots_28 rfl ?_
    obtain ⟨v6, ev6, w⟩ := w
    obtain ⟨fv6, cv6, qv6⟩ := gI_s ev6
    refine r_getf X dX5_readKnots_29 fl_X5_21 cv6 qv6 ?_
    refine r_iconst X dX5_readKnots_32 (v := 2) (by decide) ?_
    refine r_icmp_eq X dX5_readKnots_33 (tgt := 42) (by decide) (fun q => ?_) (fun q => ?_)
    · have w := w.1 q
      refine r_iconst X dX5_readKnots_42 (v := 0) (by decide) ?_
      refine r_istore_n X dX5_readKnots_43 (by decide) rfl ?_
      refine VB_wk (ls' := [some (.ref l0), some (.int ((0 : Int32)))]) ?_ w
      exact (And.intro rfl (And.intro rfl trivial))
    · have w := w.2 q
      refine r_aload_n X dX5_readKnots_36 rfl ?_
      refine r_iconst X dX5_readKnots_37 (v := 1) (by decide) ?_
      obtain ⟨fs6, es6, w⟩ := w
      obtain ⟨d6, P6, E6, m6, n6, ct6, w⟩ := w
      obtain ⟨⟨x1, x2, x3⟩, w⟩ := w
      obtain ⟨x4, w⟩ := w
      refine r_callV X (As := [.int ((1 : Int32))]) dX5_readKnots_38 mk_X5_fail ⟨ml_X5_78, im_X5_fail, se_X5_fail⟩ (oF_s es6) (ci_X5).1 rfl rfl rfl (by simp [Value.category]) ⟨x1, by show 60 * (d6 + 1) + 200 ≤ 60 * D + 200; omega⟩ ⟨x2, x3⟩ ct6 x4 (fun _ z => nomatch z) (fun _ => ⟨x2, x3⟩) (fun v h6 w1 => ?_)
      have w := w v h6 w1
      have hk : (kc + m4) + m6 ≤ mc ∧ (ks + n4) + n6 ≤ ms := ⟨x2, x3⟩
      obtain ⟨v8, rfl, w⟩ := w
      exact r_zret X dX5_readKnots_41 rfl (isB_n w.1) w.2 hk.1 hk.2
  · have w := w.2 q
    refine r_aload_n X dX5_readKnots_10 rfl ?_
    refine r_iconst X dX5_readKnots_11 (v := 5) (by decide) ?_
    obtain ⟨fs8, es8, w⟩ := w
    obtain ⟨d8, P8, E8, m8, n8, ct8, w⟩ := w
    obtain ⟨⟨x1, x2, x3⟩, w⟩ := w
    obtain ⟨x4, w⟩ := w
    refine r_callV X (As := [.int ((5 : Int32))]) dX5_readKnots_12 mk_X5_fail ⟨ml_X5_78, im_X5_fail, se_X5_fail⟩ (oF_s es8) (ci_X5).1 rfl rfl rfl (by simp [Value.category]) ⟨x1, by show 60 * (d8 + 1) + 200 ≤ 60 * D + 200; omega⟩ ⟨x2, x3⟩ ct8 x4 (fun _ z => nomatch z) (fun _ => ⟨x2, x3⟩) (fun v h8 w1 => ?_)
    have w := w v h8 w1
    have hk : kc + m8 ≤ mc ∧ ks + n8 ≤ ms := ⟨x2, x3⟩
    obtain ⟨v10, rfl, w⟩ := w
    exact r_zret X dX5_readKnots_15 rfl (isB_n w.1) w.2 hk.1 hk.2

set_option maxRecDepth 10000 in
theorem b_X5_readKnots_44 {g : GG} {K : KX} {D mc ms : Nat} {Pr : Option Value → Hp → Prop} {Pt : String → Hp → Prop} {kc ks : Nat} (hg : GOK g) (hD : 8 ≤ D) (hk : kc ≤ mc ∧ ks ≤ ms) (X : CB g K cX5_readKnots 2 yX5_readKnots (some (.boolean)) []) (l0 : Nat) (l1 : Int32) (h : Hp)
    (w : (((8 : Int32) < l1 → VB g K 2 D mc ms Pr Pt kc ks 142 [some (.ref l0), none] [] h) ∧ (¬ (8 : Int32) < l1 → (∃ v1, gI h l0 5 7 = some v1 ∧ ((¬ v1 = (2 : Int32) → VB g K 2 D mc ms Pr Pt kc ks 142 [some (.ref l0), none] [] h) ∧ (v1 = (2 : Int32) → (∃ v2, gI h l0 5 10 = some v2 ∧ (((4 : Int32) < v2 → VB g K 2 D mc ms Pr Pt kc ks 81 [some (.ref l0), none] [] h) ∧ (¬ (4 : Int32) < v2 → (∃ v3, gN h l0 5 4 = some v3 ∧ (∃ v4, gN h v3 9 6 = some v4 ∧ (∃ v5, gI h v4 1 0 = some v5 ∧ ((v5 < (8 : Int32) → (∃ v6, gN h l0 5 4 = some v6 ∧ (∃ v7, gN h v6 9 6 = some v7 ∧ (∃ v8, gI h l0 5 9 = some v8 ∧ (∃ v9, gI h l0 5 10 = some v9 ∧ (∃ fs9, oF h v7 1 = some fs9 ∧ (∃ d9 P9 E9 m9 n9, CT g d9 yX1_has (wsC yX1_has cX1_has 4 (some (.boolean))) [.ref v7, .int v8, .int v9] h m9 n9 P9 E9 ∧ (d9 + 1 ≤ D ∧ kc + m9 ≤ mc ∧ ks + n9 ≤ ms) ∧ (∀ E h', E9 E h' → Pt E h') ∧ (∀ v h9, P9 v h9 → ∃ v11, v = some (.int v11) ∧ ((v11 = 0 → (∃ v12, gN h9 l0 5 4 = some v12 ∧ (∃ v13, gN h9 v12 9 6 = some v13 ∧ (∃ v14, gI h9 l0 5 9 = some v14 ∧ (∃ v15, gI h9 l0 5 10 = some v15 ∧ (∃ fs15, oF h9 v13 1 = some fs15 ∧ (∃ d15 P15 E15 m15 n15, CT g d15 yX1_tie (wsC yX1_tie cX1_tie 3 none) [.ref v13, .int v14, .int v15] h9 m15 n15 P15 E15 ∧ (d15 + 1 ≤ D ∧ (kc + m9) + m15 ≤ mc ∧ (ks + n9) + n15 ≤ ms) ∧ (∀ E h', E15 E h' → Pt E h') ∧ (∀ v h15, P15 v h15 → v = none ∧ (∃ fs16, oF h15 l0 5 = some fs16 ∧ (∃ d16 P16 E16 m16 n16, CT g d16 yX5_takeToken (wsC yX5_takeToken cX5_takeToken 2 none) [.ref l0] h15 m16 n16 P16 E16 ∧ (d16 + 1 ≤ D ∧ ((kc + m9) + m15) + m16 ≤ mc ∧ ((ks + n9) + n15) + n16 ≤ ms) ∧ (∀ E h', E16 E h' → Pt E h') ∧ (∀ v h16, P16 v h16 → v = none ∧ VB g K 2 D mc ms Pr Pt ((((kc + m9) + m15) + m16)) ((((ks + n9) + n15) + n16)) 44 [some (.ref l0), some (.int ((l1 + 1)))] [] h16))))))))))) ∧ (¬ v11 = 0 → (∃ fs17, oF h9 l0 5 = some fs17 ∧ (∃ d17 P17 E17 m17 n17, CT g d17 yX5_fail (wsC yX5_fail cX5_fail 2 (some (.boolean))) [.ref l0, .int ((4 : Int32))] h9 m17 n17 P17 E17 ∧ (d17 + 1 ≤ D ∧ (kc + m9) + m17 ≤ mc ∧ (ks + n9) + n17 ≤ ms) ∧ (∀ E h', E17 E h' → Pt E h') ∧ (∀ v h17, P17 v h17 → ∃ v19, v = some (.int v19) ∧ (isB v19 ∧ Pr (some (.int v19)) h17)))))))))))))) ∧ (¬ v5 < (8 : Int32) → VB g K 2 D mc ms Pr Pt kc ks 81 [some (.ref l0), none] [] h)))))))))))))) : VB g K 2 D mc ms Pr Pt kc ks 44 [some (.ref l0), some (.int l1)] [] h := by
  obtain ⟨p, e, s, m, args, below, meth, c⟩ := K
  have X : CX g p s m args meth c cX5_readKnots 2 yX5_readKnots (some (.boolean)) [] := X
  have hz := hg s X.gk.z
  show VV g p e (rmm D mc ms) s m args below meth c 2 (QQ g below args s mc ms Pr Pt) kc ks 44 [some (.ref l0), some (.int l1)] [] h
  refine r_iload_n X dX5_readKnots_44 rfl ?_
  refine r_bipush X dX5_readKnots_45 (v := 8) (by decide) ?_
  refine r_icmp_gt X dX5_readKnots_47 (tgt := 142) (by decide) (fun q => ?_) (fun q => ?_)
  · have w := w.1 q
    refine VB_wk (ls' := [some (.ref l0), none]) ?_ w
    exact (And.intro rfl trivial)
  · have w := w.2 q
    refine r_aload_n X dX5_readKnots_50 rfl ?_
    obtain ⟨v1, ev1, w⟩ := w
    obtain ⟨fv1, cv1, qv1⟩ := gI_s ev1
    refine r_getf X dX5_readKnots_51 fl_X5_21 cv1 qv1 ?_
    refine r_iconst X dX5_readKnots_54 (v := 2) (by decide) ?_
    refine r_icmp_ne X dX5_readKnots_55 (tgt := 142) (by decide) (fun q => ?_) (fun q => ?_)
    · have w := w.1 q
      refine VB_wk (ls' := [some (.ref l0), none]) ?_ w
      exact (And.intro rfl trivial)
    · have w := w.2 q
      refine r_aload_n X dX5_readKnots_58 rfl ?_
      obtain ⟨v2, ev2, w⟩ := w
      obtain ⟨fv2, cv2, qv2⟩ := gI_s ev2
      refine r_getf X dX5_readKnots_59 fl_X5_30 cv2 qv2 ?_
      refine r_iconst X dX5_readKnots_62 (v := 4) (by decide) ?_
      refine r_icmp_gt X dX5_readKnots_63 (tgt := 81) (by decide) (fun q => ?_) (fun q => ?_)
      · have w := w.1 q
        refine VB_wk (ls' := [some (.ref l0), none]) ?_ w
        exact (And.intro rfl trivial)
      · have w := w.2 q
        refine r_aload_n X dX5_readKnots_66 rfl ?_
        obtain ⟨v3, ev3, w⟩ := w
        obtain ⟨fv3, cv3, qv3⟩ := gN_s ev3
        refine r_getf X dX5_readKnots_67 fl_X5_46 cv3 qv3 ?_
        obtain ⟨v4, ev4, w⟩ := w
        obtain ⟨fv4, cv4, qv4⟩ := gN_s ev4
        refine r_getf X dX5_readKnots_70 fl_X5_164 cv4 qv4 ?_
        obtain ⟨v5, ev5, w⟩ := w
        obtain ⟨fv5, cv5, qv5⟩ := gI_s ev5
        refine r_getf X dX5_readKnots_73 fl_X5_168 cv5 qv5 ?_
        refine r_bipush X dX5_readKnots_76 (v := 8) (by decide) ?_
        refine r_icmp_lt X dX5_readKnots_78 (tgt := 87) (by decide) (fun q => ?_) (fun q => ?_)
        · have w := w.1 q
          refine r_aload_n X dX5_readKnots_87 rfl ?_
          obtain ⟨v6, ev6, w⟩ := w
          obtain ⟨fv6, cv6, qv6⟩ := gN_s ev6
          refine r_getf X dX5_readKnots_88 fl_X5_46 cv6 qv6 ?_
          obtain ⟨v7, ev7, w⟩ := w
          obtain ⟨fv7, cv7, qv7⟩ := gN_s ev7
          refine r_getf X dX5_readKnots_91 fl_X5_164 cv7 qv7 ?_
          refine r_aload_n X dX5_readKnots_94 rfl ?_
          obtain ⟨v8, ev8, w⟩ := w
          obtain ⟨fv8, cv8, qv8⟩ := gI_s ev8
          refine r_getf X dX5_readKnots_95 fl_X5_27 cv8 qv8 ?_
          refine r_aload_n X dX5_readKnots_98 rfl ?_
          obtain ⟨v9, ev9, w⟩ := w
          obtain ⟨fv9, cv9, qv9⟩ := gI_s ev9
          refine r_getf X dX5_readKnots_99 fl_X5_30 cv9 qv9 ?_
          obtain ⟨fs9, es9, w⟩ := w
          obtain ⟨d9, P9, E9, m9, n9, ct9, w⟩ := w
          obtain ⟨⟨x1, x2, x3⟩, w⟩ := w
          obtain ⟨x4, w⟩ := w
          refine r_callV X (As := [.int v8, .int v9]) dX5_readKnots_102 mk_X1_has ⟨ml_X5_173, im_X1_has, se_X1_has⟩ (oF_s es9) (ci_X1).1 rfl rfl rfl (by simp [Value.category]) ⟨x1, by show 60 * (d9 + 1) + 200 ≤ 60 * D + 200; omega⟩ ⟨x2, x3⟩ ct9 x4 (fun _ z => nomatch z) (fun _ => ⟨x2, x3⟩) (fun v h9 w1 => ?_)
          have w := w v h9 w1
          have hk : kc + m9 ≤ mc ∧ ks + n9 ≤ ms := ⟨x2, x3⟩
          obtain ⟨v11, rfl, w⟩ := w
          refine r_if_eq X dX5_readKnots_105 (tgt := 114) (by decide) (fun q => ?_) (fun q => ?_)
          · have w := w.1 q
            refine r_aload_n X dX5_readKnots_114 rfl ?_
            obtain ⟨v12, ev12, w⟩ := w
            obtain ⟨fv12, cv12, qv12⟩ := gN_s ev12
            refine r_getf X dX5_readKnots_115 fl_X5_46 cv12 qv12 ?_
            obtain ⟨v13, ev13, w⟩ := w
            obtain ⟨fv13, cv13, qv13⟩ := gN_s ev13
            refine r_getf X dX5_readKnots_118 fl_X5_164 cv13 qv13 ?_
            refine r_aload_n X dX5_readKnots_121 rfl ?_
            obtain ⟨v14, ev14, w⟩ := w
            obtain ⟨fv14, cv14, qv14⟩ := gI_s ev14
            refine r_getf X dX5_readKnots_122 fl_X5_27 cv14 qv14 ?_
            refine r_aload_n X dX5_readKnots_125 rfl ?_
            obtain ⟨v15, ev15, w⟩ := w
            obtain ⟨fv15, cv15, qv15⟩ := gI_s ev15
            refine r_getf X dX5_readKnots_126 fl_X5_30 cv15 qv15 ?_
            obtain ⟨fs15, es15, w⟩ := w
            obtain ⟨d15, P15, E15, m15, n15, ct15, w⟩ := w
            obtain ⟨⟨x1, x2, x3⟩, w⟩ := w
            obtain ⟨x4, w⟩ := w
            refine r_callV X (As := [.int v14, .int v15]) dX5_readKnots_129 mk_X1_tie ⟨ml_X5_176, im_X1_tie, se_X1_tie⟩ (oF_s es15) (ci_X1).1 rfl rfl rfl (by simp [Value.category]) ⟨x1, by show 60 * (d15 + 1) + 200 ≤ 60 * D + 200; omega⟩ ⟨x2, x3⟩ ct15 x4 (fun _ z => nomatch z) (fun _ => ⟨x2, x3⟩) (fun v h15 w1 => ?_)
            have w := w v h15 w1
            have hk : (kc + m9) + m15 ≤ mc ∧ (ks + n9) + n15 ≤ ms := ⟨x2, x3⟩
            obtain ⟨rfl, w⟩ := w
            refine r_aload_n X dX5_readKnots_132 rfl ?_
            obtain ⟨fs16, es16, w⟩ := w
            obtain ⟨d16, P16, E16, m16, n16, ct16, w⟩ := w
            obtain ⟨⟨x1, x2, x3⟩, w⟩ := w
            obtain ⟨x4, w⟩ := w
            refine r_callV X (As := []) dX5_readKnots_133 mk_X5_takeToken ⟨ml_X5_54, im_X5_takeToken, se_X5_takeToken⟩ (oF_s es16) (ci_X5).1 rfl rfl rfl (by simp [Value.category]) ⟨x1, by show 60 * (d16 + 1) + 200 ≤ 60 * D + 200; omega⟩ ⟨x2, x3⟩ ct16 x4 (fun _ z => nomatch z) (fun _ => ⟨x2, x3⟩) (fun v h16 w1 => ?_)
            have w := w v h16 w1
            have hk : ((kc + m9) + m15) + m16 ≤ mc ∧ ((ks + n9) + n15) + n16 ≤ ms := ⟨x2, x3⟩
            obtain ⟨rfl, w⟩ := w
            refine r_iinc X dX5_readKnots_136 rfl (v := (l1 + 1)) rfl (by decide) rfl ?_
            refine r_goto X dX5_readKnots_139 (tgt := 44) (by decide) ?_
            refine VB_wk (ls' := [some (.ref l0), some (.int ((l1 + 1)))]) ?_ w
            exact (And.intro rfl (And.intro rfl trivial))
          · have w := w.2 q
            refine r_aload_n X dX5_readKnots_108 rfl ?_
            refine r_iconst X dX5_readKnots_109 (v := 4) (by decide) ?_
            obtain ⟨fs17, es17, w⟩ := w
            obtain ⟨d17, P17, E17, m17, n17, ct17, w⟩ := w
            obtain ⟨⟨x1, x2, x3⟩, w⟩ := w
            obtain ⟨x4, w⟩ := w
            refine r_callV X (As := [.int ((4 : Int32))]) dX5_readKnots_110 mk_X5_fail ⟨ml_X5_78, im_X5_fail, se_X5_fail⟩ (oF_s es17) (ci_X5).1 rfl rfl rfl (by simp [Value.category]) ⟨x1, by show 60 * (d17 + 1) + 200 ≤ 60 * D + 200; omega⟩ ⟨x2, x3⟩ ct17 x4 (fun _ z => nomatch z) (fun _ => ⟨x2, x3⟩) (fun v h17 w1 => ?_)
            have w := w v h17 w1
            have hk : (kc + m9) + m17 ≤ mc ∧ (ks + n9) + n17 ≤ ms := ⟨x2, x3⟩
            obtain ⟨v19, rfl, w⟩ := w
            exact r_zret X dX5_readKnots_113 rfl (isB_n w.1) w.2 hk.1 hk.2
        · have w := w.2 q
          refine VB_wk (ls' := [some (.ref l0), none]) ?_ w
          exact (And.intro rfl trivial)

set_option maxRecDepth 10000 in
theorem b_X5_readKnots_81 {g : GG} {K : KX} {D mc ms : Nat} {Pr : Option Value → Hp → Prop} {Pt : String → Hp → Prop} {kc ks : Nat} (hg : GOK g) (hD : 8 ≤ D) (hk : kc ≤ mc ∧ ks ≤ ms) (X : CB g K cX5_readKnots 2 yX5_readKnots (some (.boolean)) []) (l0 : Nat) (h : Hp)
    (w : (∃ fs0, oF h l0 5 = some fs0 ∧ (∃ d0 P0 E0 m0 n0, CT g d0 yX5_fail (wsC yX5_fail cX5_fail 2 (some (.boolean))) [.ref l0, .int ((2 : Int32))] h m0 n0 P0 E0 ∧ (d0 + 1 ≤ D ∧ kc + m0 ≤ mc ∧ ks + n0 ≤ ms) ∧ (∀ E h', E0 E h' → Pt E h') ∧ (∀ v h0, P0 v h0 → ∃ v2, v = some (.int v2) ∧ (isB v2 ∧ Pr (some (.int v2)) h0))))) : VB g K 2 D mc ms Pr Pt kc ks 81 [some (.ref l0), none] [] h := by
  obtain ⟨p, e, s, m, args, below, meth, c⟩ := K
  have X : CX g p s m args meth c cX5_readKnots 2 yX5_readKnots (some (.boolean)) [] := X
  have hz := hg s X.gk.z
  show VV g p e (rmm D mc ms) s m args below meth c 2 (QQ g below args s mc ms Pr Pt) kc ks 81 [some (.ref l0), none] [] h
  refine r_aload_n X dX5_readKnots_81 rfl ?_
  refine r_iconst X dX5_readKnots_82 (v := 2) (by decide) ?_
  obtain ⟨fs0, es0, w⟩ := w
  obtain ⟨d0, P0, E0, m0, n0, ct0, w⟩ := w
  obtain ⟨⟨x1, x2, x3⟩, w⟩ := w
  obtain ⟨x4, w⟩ := w
  refine r_callV X (As := [.int ((2 : Int32))]) dX5_readKnots_83 mk_X5_fail ⟨ml_X5_78, im_X5_fail, se_X5_fail⟩ (oF_s es0) (ci_X5).1 rfl rfl rfl (by simp [Value.category]) ⟨x1, by show 60 * (d0 + 1) + 200 ≤ 60 * D + 200; omega⟩ ⟨x2, x3⟩ ct0 x4 (fun _ z => nomatch z) (fun _ => ⟨x2, x3⟩) (fun v h0 w1 => ?_)
  have w := w v h0 w1
  have hk : kc + m0 ≤ mc ∧ ks + n0 ≤ ms := ⟨x2, x3⟩
  obtain ⟨v2, rfl, w⟩ := w
  exact r_zret X dX5_readKnots_86 rfl (isB_n w.1) w.2 hk.1 hk.2

set_option maxRecDepth 10000 in
theorem b_X5_readKnots_142 {g : GG} {K : KX} {D mc ms : Nat} {Pr : Option Value → Hp → Prop} {Pt : String → Hp → Prop} {kc ks : Nat} (hg : GOK g) (hD : 8 ≤ D) (hk : kc ≤ mc ∧ ks ≤ ms) (X : CB g K cX5_readKnots 2 yX5_readKnots (some (.boolean)) []) (l0 : Nat) (h : Hp)
    (w : (∃ fs0, oF h l0 5 = some fs0 ∧ (∃ d0 P0 E0 m0 n0, CT g d0 yX5_passSign (wsC yX5_passSign cX5_passSign 2 (some (.boolean))) [.ref l0, .int ((59 : Int32))] h m0 n0 P0 E0 ∧ (d0 + 1 ≤ D ∧ kc + m0 ≤ mc ∧ ks + n0 ≤ ms) ∧ (∀ E h', E0 E h' → Pt E h') ∧ (∀ v h0, P0 v h0 → ∃ v2, v = some (.int v2) ∧ (isB v2 ∧ Pr (some (.int v2)) h0))))) : VB g K 2 D mc ms Pr Pt kc ks 142 [some (.ref l0), none] [] h := by
  obtain ⟨p, e, s, m, args, below, meth, c⟩ := K
  have X : CX g p s m args meth c cX5_readKnots 2 yX5_readKnots (some (.boolean)) [] := X
  have hz := hg s X.gk.z
  show VV g p e (rmm D mc ms) s m args below meth c 2 (QQ g below args s mc ms Pr Pt) kc ks 142 [some (.ref l0), none] [] h
  refine r_aload_n X dX5_readKnots_142 rfl ?_
  refine r_bipush X dX5_readKnots_143 (v := 59) (by decide) ?_
  obtain ⟨fs0, es0, w⟩ := w
  obtain ⟨d0, P0, E0, m0, n0, ct0, w⟩ := w
  obtain ⟨⟨x1, x2, x3⟩, w⟩ := w
  obtain ⟨x4, w⟩ := w
  refine r_callV X (As := [.int ((59 : Int32))]) dX5_readKnots_145 mk_X5_passSign ⟨ml_X5_143, im_X5_passSign, se_X5_passSign⟩ (oF_s es0) (ci_X5).1 rfl rfl rfl (by simp [Value.category]) ⟨x1, by show 60 * (d0 + 1) + 200 ≤ 60 * D + 200; omega⟩ ⟨x2, x3⟩ ct0 x4 (fun _ z => nomatch z) (fun _ => ⟨x2, x3⟩) (fun v h0 w1 => ?_)
  have w := w v h0 w1
  have hk : kc + m0 ≤ mc ∧ ks + n0 ≤ ms := ⟨x2, x3⟩
  obtain ⟨v2, rfl, w⟩ := w
  exact r_zret X dX5_readKnots_148 rfl (isB_n w.1) w.2 hk.1 hk.2

set_option maxRecDepth 10000 in
theorem b_X5_readLine_0 {g : GG} {K : KX} {D mc ms : Nat} {Pr : Option Value → Hp → Prop} {Pt : String → Hp → Prop} {kc ks : Nat} (hg : GOK g) (hD : 8 ≤ D) (hk : kc ≤ mc ∧ ks ≤ ms) (X : CB g K cX5_readLine 1 yX5_readLine (some (.boolean)) []) (l0 : Nat) (h : Hp)
    (w : (∃ fs0, oF h l0 5 = some fs0 ∧ (∃ d0 P0 E0 m0 n0, CT g d0 yX5_isWord (wsC yX5_isWord cX5_isWord 2 (some (.boolean))) [.ref l0, .retAddr 0] h m0 n0 P0 E0 ∧ (d0 + 1 ≤ D ∧ kc + m0 ≤ mc ∧ ks + n0 ≤ ms) ∧ (∀ E h', E0 E h' → Pt E h') ∧ (∀ v h0, P0 v h0 → ∃ v2, v = some (.int v2) ∧ ((v2 = 0 → (∃ fs2, oF h0 l0 5 = some fs2 ∧ (∃ d2 P2 E2 m2 n2, CT g d2 yX5_isWord (wsC yX5_isWord cX5_isWord 2 (some (.boolean))) [.ref l0, .retAddr 1] h0 m2 n2 P2 E2 ∧ (d2 + 1 ≤ D ∧ (kc + m0) + m2 ≤ mc ∧ (ks + n0) + n2 ≤ ms) ∧ (∀ E h', E2 E h' → Pt E h') ∧ (∀ v h2, P2 v h2 → ∃ v4, v = some (.int v4) ∧ ((v4 = 0 → (∃ fs4, oF h2 l0 5 = some fs4 ∧ (∃ d4 P4 E4 m4 n4, CT g d4 yX5_isWord (wsC yX5_isWord cX5_isWord 2 (some (.boolean))) [.ref l0, .retAddr 2] h2 m4 n4 P4 E4 ∧ (d4 + 1 ≤ D ∧ ((kc + m0) + m2) + m4 ≤ mc ∧ ((ks + n0) + n2) + n4 ≤ ms) ∧ (∀ E h', E4 E h' → Pt E h') ∧ (∀ v h4, P4 v h4 → ∃ v6, v = some (.int v6) ∧ ((v6 = 0 → (∃ fs6, oF h4 l0 5 = some fs6 ∧ (∃ d6 P6 E6 m6 n6, CT g d6 yX5_isWord (wsC yX5_isWord cX5_isWord 2 (some (.boolean))) [.ref l0, .retAddr 3] h4 m6 n6 P6 E6 ∧ (d6 + 1 ≤ D ∧ (((kc + m0) + m2) + m4) + m6 ≤ mc ∧ (((ks + n0) + n2) + n4) + n6 ≤ ms) ∧ (∀ E h', E6 E h' → Pt E h') ∧ (∀ v h6, P6 v h6 → ∃ v8, v = some (.int v8) ∧ ((v8 = 0 → (∃ fs8, oF h6 l0 5 = some fs8 ∧ (∃ d8 P8 E8 m8 n8, CT g d8 yX5_isWord (wsC yX5_isWord cX5_isWord 2 (some (.boolean))) [.ref l0, .retAddr 4] h6 m8 n8 P8 E8 ∧ (d8 + 1 ≤ D ∧ ((((kc + m0) + m2) + m4) + m6) + m8 ≤ mc ∧ ((((ks + n0) + n2) + n4) + n6) + n8 ≤ ms) ∧ (∀ E h', E8 E h' → Pt E h') ∧ (∀ v h8, P8 v h8 → ∃ v10, v = some (.int v10) ∧ ((v10 = 0 → (∃ fs10, oF h8 l0 5 = some fs10 ∧ (∃ d10 P10 E10 m10 n10, CT g d10 yX5_isWord (wsC yX5_isWord cX5_isWord 2 (some (.boolean))) [.ref l0, .retAddr 5] h8 m10 n10 P10 E10 ∧ (d10 + 1 ≤ D ∧ (((((kc + m0) + m2) + m4) + m6) + m8) + m10 ≤ mc ∧ (((((ks + n0) + n2) + n4) + n6) + n8) + n10 ≤ ms) ∧ (∀ E h', E10 E h' → Pt E h') ∧ (∀ v h10, P10 v h10 → ∃ v12, v = some (.int v12) ∧ ((v12 = 0 → (∃ fs12, oF h10 l0 5 = some fs12 ∧ (∃ d12 P12 E12 m12 n12, CT g d12 yX5_fail (wsC yX5_fail cX5_fail 2 (some (.boolean))) [.ref l0, .int ((1 : Int32))] h10 m12 n12 P12 E12 ∧ (d12 + 1 ≤ D ∧ ((((((kc + m0) + m2) + m4) + m6) + m8) + m10) + m12 ≤ mc ∧ ((((((ks + n0) + n2) + n4) + n6) + n8) + n10) + n12 ≤ ms) ∧ (∀ E h', E12 E h' → Pt E h') ∧ (∀ v h12, P12 v h12 → ∃ v14, v = some (.int v14) ∧ (isB v14 ∧ Pr (some (.int v14)) h12))))) ∧ (¬ v12 = 0 → (∃ v15, gN h10 l0 5 4 = some v15 ∧ (∃ v16, gN h10 v15 9 8 = some v16 ∧ (∃ fs16, oF h10 l0 5 = some fs16 ∧ (∃ d16 P16 E16 m16 n16, CT g d16 yX5_readRule (wsC yX5_readRule cX5_readRule 2 (some (.boolean))) [.ref l0, .ref v16] h10 m16 n16 P16 E16 ∧ (d16 + 1 ≤ D ∧ ((((((kc + m0) + m2) + m4) + m6) + m8) + m10) + m16 ≤ mc ∧ ((((((ks + n0) + n2) + n4) + n6) + n8) + n10) + n16 ≤ ms) ∧ (∀ E h', E16 E h' → Pt E h') ∧ (∀ v h16, P16 v h16 → ∃ v18, v = some (.int v18) ∧ (isB v18 ∧ Pr (some (.int v18)) h16)))))))))))) ∧ (¬ v10 = 0 → (∃ v19, gN h8 l0 5 4 = some v19 ∧ (∃ v20, gN h8 v19 9 7 = some v20 ∧ (∃ fs20, oF h8 l0 5 = some fs20 ∧ (∃ d20 P20 E20 m20 n20, CT g d20 yX5_readRule (wsC yX5_readRule cX5_readRule 2 (some (.boolean))) [.ref l0, .ref v20] h8 m20 n20 P20 E20 ∧ (d20 + 1 ≤ D ∧ (((((kc + m0) + m2) + m4) + m6) + m8) + m20 ≤ mc ∧ (((((ks + n0) + n2) + n4) + n6) + n8) + n20 ≤ ms) ∧ (∀ E h', E20 E h' → Pt E h') ∧ (∀ v h20, P20 v h20 → ∃ v22, v = some (.int v22) ∧ (isB v22 ∧ Pr (some (.int v22)) h20)))))))))))) ∧ (¬ v8 = 0 → (∃ fs22, oF h6 l0 5 = some fs22 ∧ (∃ d22 P22 E22 m22 n22, CT g d22 yX5_readWeek (wsC yX5_readWeek cX5_readWeek 1 (some (.boolean))) [.ref l0] h6 m22 n22 P22 E22 ∧ (d22 + 1 ≤ D ∧ ((((kc + m0) + m2) + m4) + m6) + m22 ≤ mc ∧ ((((ks + n0) + n2) + n4) + n6) + n22 ≤ ms) ∧ (∀ E h', E22 E h' → Pt E h') ∧ (∀ v h22, P22 v h22 → ∃ v24, v = some (.int v24) ∧ (isB v24 ∧ Pr (some (.int v24)) h22)))))))))) ∧ (¬ v6 = 0 → (∃ fs24, oF h4 l0 5 = some fs24 ∧ (∃ d24 P24 E24 m24 n24, CT g d24 yX5_readKnots (wsC yX5_readKnots cX5_readKnots 2 (some (.boolean))) [.ref l0] h4 m24 n24 P24 E24 ∧ (d24 + 1 ≤ D ∧ (((kc + m0) + m2) + m4) + m24 ≤ mc ∧ (((ks + n0) + n2) + n4) + n24 ≤ ms) ∧ (∀ E h', E24 E h' → Pt E h') ∧ (∀ v h24, P24 v h24 → ∃ v26, v = some (.int v26) ∧ (isB v26 ∧ Pr (some (.int v26)) h24)))))))))) ∧ (¬ v4 = 0 → (∃ fs26, oF h2 l0 5 = some fs26 ∧ (∃ d26 P26 E26 m26 n26, CT g d26 yX5_readWoman (wsC yX5_readWoman cX5_readWoman 3 (some (.boolean))) [.ref l0] h2 m26 n26 P26 E26 ∧ (d26 + 1 ≤ D ∧ ((kc + m0) + m2) + m26 ≤ mc ∧ ((ks + n0) + n2) + n26 ≤ ms) ∧ (∀ E h', E26 E h' → Pt E h') ∧ (∀ v h26, P26 v h26 → ∃ v28, v = some (.int v28) ∧ (isB v28 ∧ Pr (some (.int v28)) h26)))))))))) ∧ (¬ v2 = 0 → (∃ fs28, oF h0 l0 5 = some fs28 ∧ (∃ d28 P28 E28 m28 n28, CT g d28 yX5_readStretch (wsC yX5_readStretch cX5_readStretch 3 (some (.boolean))) [.ref l0] h0 m28 n28 P28 E28 ∧ (d28 + 1 ≤ D ∧ (kc + m0) + m28 ≤ mc ∧ (ks + n0) + n28 ≤ ms) ∧ (∀ E h', E28 E h' → Pt E h') ∧ (∀ v h28, P28 v h28 → ∃ v30, v = some (.int v30) ∧ (isB v30 ∧ Pr (some (.int v30)) h28)))))))))) : VB g K 1 D mc ms Pr Pt kc ks 0 [some (.ref l0)] [] h := by
  obtain ⟨p, e, s, m, args, below, meth, c⟩ := K
  have X : CX g p s m args meth c cX5_readLine 1 yX5_readLine (some (.boolean)) [] := X
  have hz := hg s X.gk.z
  show VV g p e (rmm D mc ms) s m args below meth c 1 (QQ g below args s mc ms Pr Pt) kc ks 0 [some (.ref l0)] [] h
  refine r_aload_n X dX5_readLine_0 rfl ?_
  refine r_word X dX5_readLine_1 hz.2.2.2 (k := 0) (by decide) wl_X5_82 ?_
  obtain ⟨fs0, es0, w⟩ := w
  obtain ⟨d0, P0, E0, m0, n0, ct0, w⟩ := w
  obtain ⟨⟨x1, x2, x3⟩, w⟩ := w
  obtain ⟨x4, w⟩ := w
  refine r_callV X (As := [.retAddr 0]) dX5_readLine_4 mk_X5_isWord ⟨ml_X5_86, im_X5_isWord, se_X5_isWord⟩ (oF_s es0) (ci_X5).1 rfl rfl rfl (by simp [Value.category]) ⟨x1, by show 60 * (d0 + 1) + 200 ≤ 60 * D + 200; omega⟩ ⟨x2, x3⟩ ct0 x4 (fun _ z => nomatch z) (fun _ => ⟨x2, x3⟩) (fun v h0 w1 => ?_)
  have w := w v h0 w1
  have hk : kc + m0 ≤ mc ∧ ks + n0 ≤ ms := ⟨x2, x3⟩
  obtain ⟨v2, rfl, w⟩ := w
  refine r_if_eq X dX5_readLine_7 (tgt := 15) (by decide) (fun q => ?_) (fun q => ?_)
  · have w := w.1 q
    refine r_aload_n X dX5_readLine_15 rfl ?_
    refine r_word X dX5_readLine_16 hz.2.2.2 (k := 1) (by decide) wl_X5_93 ?_
    obtain ⟨fs2, es2, w⟩ := w
    obtain ⟨d2, P2, E2, m2, n2, ct2, w⟩ := w
    obtain ⟨⟨x1, x2, x3⟩, w⟩ := w
    obtain ⟨x4, w⟩ := w
    refine r_callV X (As := [.retAddr 1]) dX5_readLine_19 mk_X5_isWord ⟨ml_X5_86, im_X5_isWord, se_X5_isWord⟩ (oF_s es2) (ci_X5).1 rfl rfl rfl (by simp [Value.category]) ⟨x1, by show 60 * (d2 + 1) + 200 ≤ 60 * D + 200; omega⟩ ⟨x2, x3⟩ ct2 x4 (fun _ z => nomatch z) (fun _ => ⟨x2, x3⟩) (fun v h2 w1 => ?_)
    have w := w v h2 w1
    have hk : (kc + m0) + m2 ≤ mc ∧ (ks + n0) + n2 ≤ ms := ⟨x2, x3⟩
    obtain ⟨v4, rfl, w⟩ := w
    refine r_if_eq X dX5_readLine_22 (tgt := 30) (by decide) (fun q => ?_) (fun q => ?_)
    · have w := w.1 q
      refine r_aload_n X dX5_readLine_30 rfl ?_
      refine r_word X dX5_readLine_31 hz.2.2.2 (k := 2) (by decide) wl_X5_99 ?_
      obtain ⟨fs4, es4, w⟩ := w
      obtain ⟨d4, P4, E4, m4, n4, ct4, w⟩ := w
      obtain ⟨⟨x1, x2, x3⟩, w⟩ := w
      obtain ⟨x4, w⟩ := w
      refine r_callV X (As := [.retAddr 2]) dX5_readLine_34 mk_X5_isWord ⟨ml_X5_86, im_X5_isWord, se_X5_isWord⟩ (oF_s es4) (ci_X5).1 rfl rfl rfl (by simp [Value.category]) ⟨x1, by show 60 * (d4 + 1) + 200 ≤ 60 * D + 200; omega⟩ ⟨x2, x3⟩ ct4 x4 (fun _ z => nomatch z) (fun _ => ⟨x2, x3⟩) (fun v h4 w1 => ?_)
      have w := w v h4 w1
      have hk : ((kc + m0) + m2) + m4 ≤ mc ∧ ((ks + n0) + n2) + n4 ≤ ms := ⟨x2, x3⟩
      obtain ⟨v6, rfl, w⟩ := w
      refine r_if_eq X dX5_readLine_37 (tgt := 45) (by decide) (fun q => ?_) (fun q => ?_)
      · have w := w.1 q
        refine r_aload_n X dX5_readLine_45 rfl ?_
        refine r_word X dX5_readLine_46 hz.2.2.2 (k := 3) (by decide) wl_X5_105 ?_
        obtain ⟨fs6, es6, w⟩ := w
        obtain ⟨d6, P6, E6, m6, n6, ct6, w⟩ := w
        obtain ⟨⟨x1, x2, x3⟩, w⟩ := w
        obtain ⟨x4, w⟩ := w
        refine r_callV X (As := [.retAddr 3]) dX5_readLine_49 mk_X5_isWord ⟨ml_X5_86, im_X5_isWord, se_X5_isWord⟩ (oF_s es6) (ci_X5).1 rfl rfl rfl (by simp [Value.category]) ⟨x1, by show 60 * (d6 + 1) + 200 ≤ 60 * D + 200; omega⟩ ⟨x2, x3⟩ ct6 x4 (fun _ z => nomatch z) (fun _ => ⟨x2, x3⟩) (fun v h6 w1 => ?_)
        have w := w v h6 w1
        have hk : (((kc + m0) + m2) + m4) + m6 ≤ mc ∧ (((ks + n0) + n2) + n4) + n6 ≤ ms := ⟨x2, x3⟩
        obtain ⟨v8, rfl, w⟩ := w
        refine r_if_eq X dX5_readLine_52 (tgt := 60) (by decide) (fun q => ?_) (fun q => ?_)
        · have w := w.1 q
          refine r_aload_n X dX5_readLine_60 rfl ?_
          refine r_word X dX5_readLine_61 hz.2.2.2 (k := 4) (by decide) wl_X5_111 ?_
          obtain ⟨fs8, es8, w⟩ := w
          obtain ⟨d8, P8, E8, m8, n8, ct8, w⟩ := w
          obtain ⟨⟨x1, x2, x3⟩, w⟩ := w
          obtain ⟨x4, w⟩ := w
          refine r_callV X (As := [.retAddr 4]) dX5_readLine_64 mk_X5_isWord ⟨ml_X5_86, im_X5_isWord, se_X5_isWord⟩ (oF_s es8) (ci_X5).1 rfl rfl rfl (by simp [Value.category]) ⟨x1, by show 60 * (d8 + 1) + 200 ≤ 60 * D + 200; omega⟩ ⟨x2, x3⟩ ct8 x4 (fun _ z => nomatch z) (fun _ => ⟨x2, x3⟩) (fun v h8 w1 => ?_)
          have w := w v h8 w1
          have hk : ((((kc + m0) + m2) + m4) + m6) + m8 ≤ mc ∧ ((((ks + n0) + n2) + n4) + n6) + n8 ≤ ms := ⟨x2, x3⟩
          obtain ⟨v10, rfl, w⟩ := w
          refine r_if_eq X dX5_readLine_67 (tgt := 82) (by decide) (fun q => ?_) (fun q => ?_)
          · have w := w.1 q
            refine r_aload_n X dX5_readLine_82 rfl ?_
            refine r_word X dX5_readLine_83 hz.2.2.2 (k := 5) (by decide) wl_X5_124 ?_
            obtain ⟨fs10, es10, w⟩ := w
            obtain ⟨d10, P10, E10, m10, n10, ct10, w⟩ := w
            obtain ⟨⟨x1, x2, x3⟩, w⟩ := w
            obtain ⟨x4, w⟩ := w
            refine r_callV X (As := [.retAddr 5]) dX5_readLine_86 mk_X5_isWord ⟨ml_X5_86, im_X5_isWord, se_X5_isWord⟩ (oF_s es10) (ci_X5).1 rfl rfl rfl (by simp [Value.category]) ⟨x1, by show 60 * (d10 + 1) + 200 ≤ 60 * D + 200; omega⟩ ⟨x2, x3⟩ ct10 x4 (fun _ z => nomatch z) (fun _ => ⟨x2, x3⟩) (fun v h10 w1 => ?_)
            have w := w v h10 w1
            have hk : (((((kc + m0) + m2) + m4) + m6) + m8) + m10 ≤ mc ∧ (((((ks + n0) + n2) + n4) + n6) + n8) + n10 ≤ ms := ⟨x2, x3⟩
            obtain ⟨v12, rfl, w⟩ := w
            refine r_if_eq X dX5_readLine_89 (tgt := 104) (by decide) (fun q => ?_) (fun q => ?_)
            · have w := w.1 q
              refine r_aload_n X dX5_readLine_104 rfl ?_
              refine r_iconst X dX5_readLine_105 (v := 1) (by decide) ?_
              obtain ⟨fs12, es12, w⟩ := w
              obtain ⟨d12, P12, E12, m12, n12, ct12, w⟩ := w
              obtain ⟨⟨x1, x2, x3⟩, w⟩ := w
              obtain ⟨x4, w⟩ := w
              refine r_callV X (As := [.int ((1 : Int32))]) dX5_readLine_106 mk_X5_fail ⟨ml_X5_78, im_X5_fail, se_X5_fail⟩ (oF_s es12) (ci_X5).1 rfl rfl rfl (by simp [Value.category]) ⟨x1, by show 60 * (d12 + 1) + 200 ≤ 60 * D + 200; omega⟩ ⟨x2, x3⟩ ct12 x4 (fun _ z => nomatch z) (fun _ => ⟨x2, x3⟩) (fun v h12 w1 => ?_)
              have w := w v h12 w1
              have hk : ((((((kc + m0) + m2) + m4) + m6) + m8) + m10) + m12 ≤ mc ∧ ((((((ks + n0) + n2) + n4) + n6) + n8) + n10) + n12 ≤ ms := ⟨x2, x3⟩
              obtain ⟨v14, rfl, w⟩ := w
              exact r_zret X dX5_readLine_109 rfl (isB_n w.1) w.2 hk.1 hk.2
            · have w := w.2 q
              refine r_aload_n X dX5_readLine_92 rfl ?_
              refine r_aload_n X dX5_readLine_93 rfl ?_
              obtain ⟨v15, ev15, w⟩ := w
              obtain ⟨fv15, cv15, qv15⟩ := gN_s ev15
              refine r_getf X dX5_readLine_94 fl_X5_46 cv15 qv15 ?_
              obtain ⟨v16, ev16, w⟩ := w
              obtain ⟨fv16, cv16, qv16⟩ := gN_s ev16
              refine r_getf X dX5_readLine_97 fl_X5_127 cv16 qv16 ?_
              obtain ⟨fs16, es16, w⟩ := w
              obtain ⟨d16, P16, E16, m16, n16, ct16, w⟩ := w
              obtain ⟨⟨x1, x2, x3⟩, w⟩ := w
              obtain ⟨x4, w⟩ := w
              refine r_callV X (As := [.ref v16]) dX5_readLine_100 mk_X5_readRule ⟨ml_X5_120, im_X5_readRule, se_X5_readRule⟩ (oF_s es16) (ci_X5).1 rfl rfl rfl (by simp [Value.category]) ⟨x1, by show 60 * (d16 + 1) + 200 ≤ 60 * D + 200; omega⟩ ⟨x2, x3⟩ ct16 x4 (fun _ z => nomatch z) (fun _ => ⟨x2, x3⟩) (fun v h16 w1 => ?_)
              have w := w v h16 w1
              have hk : ((((((kc + m0) + m2) + m4) + m6) + m8) + m10) + m16 ≤ mc ∧ ((((((ks + n0) + n2) + n4) + n6) + n8) + n10) + n16 ≤ ms := ⟨x2, x3⟩
              obtain ⟨v18, rfl, w⟩ := w
              exact r_zret X dX5_readLine_103 rfl (isB_n w.1) w.2 hk.1 hk.2
          · have w := w.2 q
            refine r_aload_n X dX5_readLine_70 rfl ?_
            refine r_aload_n X dX5_readLine_71 rfl ?_
            obtain ⟨v19, ev19, w⟩ := w
            obtain ⟨fv19, cv19, qv19⟩ := gN_s ev19
            refine r_getf X dX5_readLine_72 fl_X5_46 cv19 qv19 ?_
            obtain ⟨v20, ev20, w⟩ := w
            obtain ⟨fv20, cv20, qv20⟩ := gN_s ev20
            refine r_getf X dX5_readLine_75 fl_X5_114 cv20 qv20 ?_
            obtain ⟨fs20, es20, w⟩ := w
            obtain ⟨d20, P20, E20, m20, n20, ct20, w⟩ := w
            obtain ⟨⟨x1, x2, x3⟩, w⟩ := w
            obtain ⟨x4, w⟩ := w
            refine r_callV X (As := [.ref v20]) dX5_readLine_78 mk_X5_readRule ⟨ml_X5_120, im_X5_readRule, se_X5_readRule⟩ (oF_s es20) (ci_X5).1 rfl rfl rfl (by simp [Value.category]) ⟨x1, by show 60 * (d20 + 1) + 200 ≤ 60 * D + 200; omega⟩ ⟨x2, x3⟩ ct20 x4 (fun _ z => nomatch z) (fun _ => ⟨x2, x3⟩) (fun v h20 w1 => ?_)
            have w := w v h20 w1
            have hk : (((((kc + m0) + m2) + m4) + m6) + m8) + m20 ≤ mc ∧ (((((ks + n0) + n2) + n4) + n6) + n8) + n20 ≤ ms := ⟨x2, x3⟩
            obtain ⟨v22, rfl, w⟩ := w
            exact r_zret X dX5_readLine_81 rfl (isB_n w.1) w.2 hk.1 hk.2
        · have w := w.2 q
          refine r_aload_n X dX5_readLine_55 rfl ?_
          obtain ⟨fs22, es22, w⟩ := w
          obtain ⟨d22, P22, E22, m22, n22, ct22, w⟩ := w
          obtain ⟨⟨x1, x2, x3⟩, w⟩ := w
          obtain ⟨x4, w⟩ := w
          refine r_callV X (As := []) dX5_readLine_56 mk_X5_readWeek ⟨ml_X5_108, im_X5_readWeek, se_X5_readWeek⟩ (oF_s es22) (ci_X5).1 rfl rfl rfl (by simp [Value.category]) ⟨x1, by show 60 * (d22 + 1) + 200 ≤ 60 * D + 200; omega⟩ ⟨x2, x3⟩ ct22 x4 (fun _ z => nomatch z) (fun _ => ⟨x2, x3⟩) (fun v h22 w1 => ?_)
          have w := w v h22 w1
          have hk : ((((kc + m0) + m2) + m4) + m6) + m22 ≤ mc ∧ ((((ks + n0) + n2) + n4) + n6) + n22 ≤ ms := ⟨x2, x3⟩
          obtain ⟨v24, rfl, w⟩ := w
          exact r_zret X dX5_readLine_59 rfl (isB_n w.1) w.2 hk.1 hk.2
      · have w := w.2 q
        refine r_aload_n X dX5_readLine_40 rfl ?_
        obtain ⟨fs24, es24, w⟩ := w
        obtain ⟨d24, P24, E24, m24, n24, ct24, w⟩ := w
        obtain ⟨⟨x1, x2, x3⟩, w⟩ := w
        obtain ⟨x4, w⟩ := w
        refine r_callV X (As := []) dX5_readLine_41 mk_X5_readKnots ⟨ml_X5_102, im_X5_readKnots, se_X5_readKnots⟩ (oF_s es24) (ci_X5).1 rfl rfl rfl (by simp [Value.category]) ⟨x1, by show 60 * (d24 + 1) + 200 ≤ 60 * D + 200; omega⟩ ⟨x2, x3⟩ ct24 x4 (fun _ z => nomatch z) (fun _ => ⟨x2, x3⟩) (fun v h24 w1 => ?_)
        have w := w v h24 w1
        have hk : (((kc + m0) + m2) + m4) + m24 ≤ mc ∧ (((ks + n0) + n2) + n4) + n24 ≤ ms := ⟨x2, x3⟩
        obtain ⟨v26, rfl, w⟩ := w
        exact r_zret X dX5_readLine_44 rfl (isB_n w.1) w.2 hk.1 hk.2
    · have w := w.2 q
      refine r_aload_n X dX5_readLine_25 rfl ?_
      obtain ⟨fs26, es26, w⟩ := w
      obtain ⟨d26, P26, E26, m26, n26, ct26, w⟩ := w
      obtain ⟨⟨x1, x2, x3⟩, w⟩ := w
      obtain ⟨x4, w⟩ := w
      refine r_callV X (As := []) dX5_readLine_26 mk_X5_readWoman ⟨ml_X5_96, im_X5_readWoman, se_X5_readWoman⟩ (oF_s es26) (ci_X5).1 rfl rfl rfl (by simp [Value.category]) ⟨x1, by show 60 * (d26 + 1) + 200 ≤ 60 * D + 200; omega⟩ ⟨x2, x3⟩ ct26 x4 (fun _ z => nomatch z) (fun _ => ⟨x2, x3⟩) (fun v h26 w1 => ?_)
      have w := w v h26 w1
      have hk : ((kc + m0) + m2) + m26 ≤ mc ∧ ((ks + n0) + n2) + n26 ≤ ms := ⟨x2, x3⟩
      obtain ⟨v28, rfl, w⟩ := w
      exact r_zret X dX5_readLine_29 rfl (isB_n w.1) w.2 hk.1 hk.2
  · have w := w.2 q
    refine r_aload_n X dX5_readLine_10 rfl ?_
    obtain ⟨fs28, es28, w⟩ := w
    obtain ⟨d28, P28, E28, m28, n28, ct28, w⟩ := w
    obtain ⟨⟨x1, x2, x3⟩, w⟩ := w
    obtain ⟨x4, w⟩ := w
    refine r_callV X (As := []) dX5_readLine_11 mk_X5_readStretch ⟨ml_X5_90, im_X5_readStretch, se_X5_readStretch⟩ (oF_s es28) (ci_X5).1 rfl rfl rfl (by simp [Value.category]) ⟨x1, by show 60 * (d28 + 1) + 200 ≤ 60 * D + 200; omega⟩ ⟨x2, x3⟩ ct28 x4 (fun _ z => nomatch z) (fun _ => ⟨x2, x3⟩) (fun v h28 w1 => ?_)
    have w := w v h28 w1
    have hk : (kc + m0) + m28 ≤ mc ∧ (ks + n0) + n28 ≤ ms := ⟨x2, x3⟩
    obtain ⟨v30, rfl, w⟩ := w
    exact r_zret X dX5_readLine_14 rfl (isB_n w.1) w.2 hk.1 hk.2

set_option maxRecDepth 10000 in
theorem b_X5_readRank_0 {g : GG} {K : KX} {D mc ms : Nat} {Pr : Option Value → Hp → Prop} {Pt : String → Hp → Prop} {kc ks : Nat} (hg : GOK g) (hD : 8 ≤ D) (hk : kc ≤ mc ∧ ks ≤ ms) (X : CB g K cX5_readRank 7 yX5_readRank (some (.boolean)) []) (l0 : Nat) (l1 : Int32) (l2 : Int32) (h : Hp)
    (w : ((l1 < (5 : Int32) → ((¬ l1 = (2 : Int32) → VB g K 7 D mc ms Pr Pt kc ks 24 [some (.ref l0), some (.int l1), some (.int l2), none, none, none, none] [.int ((0 : Int32))] h) ∧ (l1 = (2 : Int32) → (∃ fs0, oF h l0 5 = some fs0 ∧ (∃ d0 P0 E0 m0 n0, CT g d0 yX5_passNots (wsC yX5_passNots cX5_passNots 2 (some (.int))) [.ref l0] h m0 n0 P0 E0 ∧ (d0 + 1 ≤ D ∧ kc + m0 ≤ mc ∧ ks + n0 ≤ ms) ∧ (∀ E h', E0 E h' → Pt E h') ∧ (∀ v h0, P0 v h0 → ∃ v2, v = some (.int v2) ∧ VB g K 7 D mc ms Pr Pt ((kc + m0)) ((ks + n0)) 24 [some (.ref l0), some (.int l1), some (.int l2), none, none, none, none] [.int v2] h0)))))) ∧ (¬ l1 < (5 : Int32) → (∃ fs2, oF h l0 5 = some fs2 ∧ (∃ d2 P2 E2 m2 n2, CT g d2 yX5_readPart (wsC yX5_readPart cX5_readPart 3 (some (.boolean))) [.ref l0, .int l2] h m2 n2 P2 E2 ∧ (d2 + 1 ≤ D ∧ kc + m2 ≤ mc ∧ ks + n2 ≤ ms) ∧ (∀ E h', E2 E h' → Pt E h') ∧ (∀ v h2, P2 v h2 → ∃ v4, v = some (.int v4) ∧ (isB v4 ∧ Pr (some (.int v4)) h2))))))) : VB g K 7 D mc ms Pr Pt kc ks 0 [some (.ref l0), some (.int l1), some (.int l2), none, none, none, none] [] h := by
  obtain ⟨p, e, s, m, args, below, meth, c⟩ := K
  have X : CX g p s m args meth c cX5_readRank 7 yX5_readRank (some (.boolean)) [] := X
  have hz := hg s X.gk.z
  show VV g p e (rmm D mc ms) s m args below meth c 7 (QQ g below args s mc ms Pr Pt) kc ks 0 [some (.ref l0), some (.int l1), some (.int l2), none, none, none, none] [] h
  refine r_iload_n X dX5_readRank_0 rfl ?_
  refine r_iconst X dX5_readRank_1 (v := 5) (by decide) ?_
  refine r_icmp_lt X dX5_readRank_2 (tgt := 11) (by decide) (fun q => ?_) (fun q => ?_)
  · have w := w.1 q
    refine r_iload_n X dX5_readRank_11 rfl ?_
    refine r_iconst X dX5_readRank_12 (v := 2) (by decide) ?_
    refine r_icmp_ne X dX5_readRank_13 (tgt := 23) (by decide) (fun q => ?_) (fun q => ?_)
    · have w := w.1 q
      refine r_iconst X dX5_readRank_23 (v := 0) (by decide) ?_
      refine VB_wk (ls' := [some (.ref l0), some (.int l1), some (.int l2), none, none, none, none]) ?_ w
      exact (And.intro rfl (And.intro rfl (And.intro rfl trivial)))
    · have w := w.2 q
      refine r_aload_n X dX5_readRank_16 rfl ?_
      obtain ⟨fs0, es0, w⟩ := w
      obtain ⟨d0, P0, E0, m0, n0, ct0, w⟩ := w
      obtain ⟨⟨x1, x2, x3⟩, w⟩ := w
      obtain ⟨x4, w⟩ := w
      refine r_callV X (As := []) dX5_readRank_17 mk_X5_passNots ⟨ml_X5_207, im_X5_passNots, se_X5_passNots⟩ (oF_s es0) (ci_X5).1 rfl rfl rfl (by simp [Value.category]) ⟨x1, by show 60 * (d0 + 1) + 200 ≤ 60 * D + 200; omega⟩ ⟨x2, x3⟩ ct0 x4 (fun _ z => nomatch z) (fun _ => ⟨x2, x3⟩) (fun v h0 w1 => ?_)
      have w := w v h0 w1
      have hk : kc + m0 ≤ mc ∧ ks + n0 ≤ ms := ⟨x2, x3⟩
      obtain ⟨v2, rfl, w⟩ := w
      refine r_goto X dX5_readRank_20 (tgt := 24) (by decide) ?_
      refine VB_wk (ls' := [some (.ref l0), some (.int l1), some (.int l2), none, none, none, none]) ?_ w
      exact (And.intro rfl (And.intro rfl (And.intro rfl trivial)))
  · have w := w.2 q
    refine r_aload_n X dX5_readRank_5 rfl ?_
    refine r_iload_n X dX5_readRank_6 rfl ?_
    obtain ⟨fs2, es2, w⟩ := w
    obtain ⟨d2, P2, E2, m2, n2, ct2, w⟩ := w
    obtain ⟨⟨x1, x2, x3⟩, w⟩ := w
    obtain ⟨x4, w⟩ := w
    refine r_callV X (As := [.int l2]) dX5_readRank_7 mk_X5_readPart ⟨ml_X5_204, im_X5_readPart, se_X5_readPart⟩ (oF_s es2) (ci_X5).1 rfl rfl rfl (by simp [Value.category]) ⟨x1, by show 60 * (d2 + 1) + 200 ≤ 60 * D + 200; omega⟩ ⟨x2, x3⟩ ct2 x4 (fun _ z => nomatch z) (fun _ => ⟨x2, x3⟩) (fun v h2 w1 => ?_)
    have w := w v h2 w1
    have hk : kc + m2 ≤ mc ∧ ks + n2 ≤ ms := ⟨x2, x3⟩
    obtain ⟨v4, rfl, w⟩ := w
    exact r_zret X dX5_readRank_10 rfl (isB_n w.1) w.2 hk.1 hk.2

set_option maxRecDepth 10000 in
theorem b_X5_readRank_24 {g : GG} {K : KX} {D mc ms : Nat} {Pr : Option Value → Hp → Prop} {Pt : String → Hp → Prop} {kc ks : Nat} (hg : GOK g) (hD : 8 ≤ D) (hk : kc ≤ mc ∧ ks ≤ ms) (X : CB g K cX5_readRank 7 yX5_readRank (some (.boolean)) []) (l0 : Nat) (l1 : Int32) (l2 : Int32) (s0 : Int32) (h : Hp)
    (w : (((6 : Int32) < s0 → (isB ((0 : Int32)) ∧ Pr (some (.int ((0 : Int32)))) h)) ∧ (¬ (6 : Int32) < s0 → (∃ fs0, oF h l0 5 = some fs0 ∧ (∃ d0 P0 E0 m0 n0, CT g d0 yX5_readRank (wsC yX5_readRank cX5_readRank 7 (some (.boolean))) [.ref l0, .int ((l1 + (1 : Int32))), .int l2] h m0 n0 P0 E0 ∧ (d0 + 1 ≤ D ∧ kc + m0 ≤ mc ∧ ks + n0 ≤ ms) ∧ (∀ E h', E0 E h' → Pt E h') ∧ (∀ v h0, P0 v h0 → ∃ v2, v = some (.int v2) ∧ ((¬ v2 = 0 → ((¬ l1 = (2 : Int32) → (∃ v3, gI h0 l0 5 3 = some v3 ∧ VB g K 7 D mc ms Pr Pt ((kc + m0)) ((ks + n0)) 57 [some (.ref l0), some (.int l1), some (.int l2), some (.int s0), none, none, none] [.int v3] h0)) ∧ (l1 = (2 : Int32) → VB g K 7 D mc ms Pr Pt ((kc + m0)) ((ks + n0)) 57 [some (.ref l0), some (.int l1), some (.int l2), some (.int s0), none, none, none] [.int ((1 : Int32))] h0))) ∧ (v2 = 0 → (isB ((0 : Int32)) ∧ Pr (some (.int ((0 : Int32)))) h0))))))))) : VB g K 7 D mc ms Pr Pt kc ks 24 [some (.ref l0), some (.int l1), some (.int l2), none, none, none, none] [.int s0] h := by
  obtain ⟨p, e, s, m, args, below, meth, c⟩ := K
  have X : CX g p s m args meth c cX5_readRank 7 yX5_readRank (some (.boolean)) [] := X
  have hz := hg s X.gk.z
  show VV g p e (rmm D mc ms) s m args below meth c 7 (QQ g below args s mc ms Pr Pt) kc ks 24 [some (.ref l0), some (.int l1), some (.int l2), none, none, none, none] [.int s0] h
  refine r_istore_n X dX5_readRank_24 (by decide) rfl ?_
  refine r_iload_n X dX5_readRank_25 rfl ?_
  refine r_bipush X dX5_readRank_26 (v := 6) (by decide) ?_
  refine r_icmp_gt X dX5_readRank_28 (tgt := 42) (by decide) (fun q => ?_) (fun q => ?_)
  · have w := w.1 q
    refine r_iconst X dX5_readRank_42 (v := 0) (by decide) ?_
    exact r_zret X dX5_readRank_43 rfl (isB_n w.1) w.2 hk.1 hk.2
  · have w := w.2 q
    refine r_aload_n X dX5_readRank_31 rfl ?_
    refine r_iload_n X dX5_readRank_32 rfl ?_
    refine r_iconst X dX5_readRank_33 (v := 1) (by decide) ?_
    refine r_iadd X dX5_readRank_34 ?_
    refine r_iload_n X dX5_readRank_35 rfl ?_
    obtain ⟨fs0, es0, w⟩ := w
    obtain ⟨d0, P0, E0, m0, n0, ct0, w⟩ := w
    obtain ⟨⟨x1, x2, x3⟩, w⟩ := w
    obtain ⟨x4, w⟩ := w
    refine r_callV X (As := [.int ((l1 + (1 : Int32))), .int l2]) dX5_readRank_36 mk_X5_readRank ⟨ml_X5_201, im_X5_readRank, se_X5_readRank⟩ (oF_s es0) (ci_X5).1 rfl rfl rfl (by simp [Value.category]) ⟨x1, by show 60 * (d0 + 1) + 200 ≤ 60 * D + 200; omega⟩ ⟨x2, x3⟩ ct0 x4 (fun _ z => nomatch z) (fun _ => ⟨x2, x3⟩) (fun v h0 w1 => ?_)
    have w := w v h0 w1
    have hk : kc + m0 ≤ mc ∧ ks + n0 ≤ ms := ⟨x2, x3⟩
    obtain ⟨v2, rfl, w⟩ := w
    refine r_if_ne X dX5_readRank_39 (tgt := 44) (by decide) (fun q => ?_) (fun q => ?_)
    · have w := w.1 q
      refine r_iload_n X dX5_readRank_44 rfl ?_
      refine r_iconst X dX5_readRank_45 (v := 2) (by decide) ?_
      refine r_icmp_ne X dX5_readRank_46 (tgt := 53) (by decide) (fun q => ?_) (fun q => ?_)
      · have w := w.1 q
        refine r_aload_n X dX5_readRank_53 rfl ?_
        obtain ⟨v3, ev3, w⟩ := w
        obtain ⟨fv3, cv3, qv3⟩ := gI_s ev3
        refine r_getf X dX5_readRank_54 fl_X5_43 cv3 qv3 ?_
        refine VB_wk (ls' := [some (.ref l0), some (.int l1), some (.int l2), some (.int s0), none, none, none]) ?_ w
        exact (And.intro rfl (And.intro rfl (And.intro rfl (And.intro rfl trivial))))
      · have w := w.2 q
        refine r_iconst X dX5_readRank_49 (v := 1) (by decide) ?_
        refine r_goto X dX5_readRank_50 (tgt := 57) (by decide) ?_
        refine VB_wk (ls' := [some (.ref l0), some (.int l1), some (.int l2), some (.int s0), none, none, none]) ?_ w
        exact (And.intro rfl (And.intro rfl (And.intro rfl (And.intro rfl trivial))))
    · have w := w.2 q
      refine r_iconst X dX5_readRank_42 (v := 0) (by decide) ?_
      exact r_zret X dX5_readRank_43 rfl (isB_n w.1) w.2 hk.1 hk.2

set_option maxRecDepth 10000 in
theorem b_X5_readRank_57 {g : GG} {K : KX} {D mc ms : Nat} {Pr : Option Value → Hp → Prop} {Pt : String → Hp → Prop} {kc ks : Nat} (hg : GOK g) (hD : 8 ≤ D) (hk : kc ≤ mc ∧ ks ≤ ms) (X : CB g K cX5_readRank 7 yX5_readRank (some (.boolean)) []) (l0 : Nat) (l1 : Int32) (l2 : Int32) (l3 : Int32) (s0 : Int32) (h : Hp)
    (w : VB g K 7 D mc ms Pr Pt kc ks 62 [some (.ref l0), some (.int l1), some (.int l2), some (.int l3), some (.int s0), some (.int ((0 : Int32))), none] [] h) : VB g K 7 D mc ms Pr Pt kc ks 57 [some (.ref l0), some (.int l1), some (.int l2), some (.int l3), none, none, none] [.int s0] h := by
  obtain ⟨p, e, s, m, args, below, meth, c⟩ := K
  have X : CX g p s m args meth c cX5_readRank 7 yX5_readRank (some (.boolean)) [] := X
  have hz := hg s X.gk.z
  show VV g p e (rmm D mc ms) s m args below meth c 7 (QQ g below args s mc ms Pr Pt) kc ks 57 [some (.ref l0), some (.int l1), some (.int l2), some (.int l3), none, none, none] [.int s0] h
  refine r_istore X dX5_readRank_57 (by decide) rfl ?_
  refine r_iconst X dX5_readRank_59 (v := 0) (by decide) ?_
  refine r_istore X dX5_readRank_60 (by decide) rfl ?_
  refine VB_wk (ls' := [some (.ref l0), some (.int l1), some (.int l2), some (.int l3), some (.int s0), some (.int ((0 : Int32))), none]) ?_ w
  exact (And.intro rfl (And.intro rfl (And.intro rfl (And.intro rfl (And.intro rfl (And.intro rfl trivial))))))

set_option maxRecDepth 10000 in
theorem b_X5_readRank_62 {g : GG} {K : KX} {D mc ms : Nat} {Pr : Option Value → Hp → Prop} {Pt : String → Hp → Prop} {kc ks : Nat} (hg : GOK g) (hD : 8 ≤ D) (hk : kc ≤ mc ∧ ks ≤ ms) (X : CB g K cX5_readRank 7 yX5_readRank (some (.boolean)) []) (l0 : Nat) (l1 : Int32) (l2 : Int32) (l3 : Int32) (l4 : Int32) (l5 : Int32) (h : Hp)
    (w : ((l4 ≤ l5 → VB g K 7 D mc ms Pr Pt kc ks 116 [some (.ref l0), none, none, some (.int l3), none, none, none] [] h) ∧ (¬ l4 ≤ l5 → (∃ fs0, oF h l0 5 = some fs0 ∧ (∃ d0 P0 E0 m0 n0, CT g d0 yX5_joint (wsC yX5_joint cX5_joint 2 (some (.int))) [.ref l0, .int l1] h m0 n0 P0 E0 ∧ (d0 + 1 ≤ D ∧ kc + m0 ≤ mc ∧ ks + n0 ≤ ms) ∧ (∀ E h', E0 E h' → Pt E h') ∧ (∀ v h0, P0 v h0 → ∃ v2, v = some (.int v2) ∧ ((v2 = 0 → VB g K 7 D mc ms Pr Pt ((kc + m0)) ((ks + n0)) 116 [some (.ref l0), none, none, some (.int l3), none, none, none] [] h0) ∧ (¬ v2 = 0 → (∃ fs2, oF h0 l0 5 = some fs2 ∧ (∃ d2 P2 E2 m2 n2, CT g d2 yX5_joint (wsC yX5_joint cX5_joint 2 (some (.int))) [.ref l0, .int l1] h0 m2 n2 P2 E2 ∧ (d2 + 1 ≤ D ∧ (kc + m0) + m2 ≤ mc ∧ (ks + n0) + n2 ≤ ms) ∧ (∀ E h', E2 E h' → Pt E h') ∧ (∀ v h2, P2 v h2 → ∃ v4, v = some (.int v4) ∧ (∃ fs4, oF h2 l0 5 = some fs4 ∧ (∃ d4 P4 E4 m4 n4, CT g d4 yX5_takeToken (wsC yX5_takeToken cX5_takeToken 2 none) [.ref l0] h2 m4 n4 P4 E4 ∧ (d4 + 1 ≤ D ∧ ((kc + m0) + m2) + m4 ≤ mc ∧ ((ks + n0) + n2) + n4 ≤ ms) ∧ (∀ E h', E4 E h' → Pt E h') ∧ (∀ v h4, P4 v h4 → v = none ∧ (∃ fs5, oF h4 l0 5 = some fs5 ∧ (∃ d5 P5 E5 m5 n5, CT g d5 yX5_readRank (wsC yX5_readRank cX5_readRank 7 (some (.boolean))) [.ref l0, .int ((l1 + (1 : Int32))), .int l2] h4 m5 n5 P5 E5 ∧ (d5 + 1 ≤ D ∧ (((kc + m0) + m2) + m4) + m5 ≤ mc ∧ (((ks + n0) + n2) + n4) + n5 ≤ ms) ∧ (∀ E h', E5 E h' → Pt E h') ∧ (∀ v h5, P5 v h5 → ∃ v7, v = some (.int v7) ∧ ((¬ v7 = 0 → (∃ v8, gN h5 l0 5 4 = some v8 ∧ (∃ fs8, oF h5 v8 9 = some fs8 ∧ (∃ d8 P8 E8 m8 n8, CT g d8 yX9_append (wsC yX9_append cX9_append 2 none) [.ref v8, .int v4] h5 m8 n8 P8 E8 ∧ (d8 + 1 ≤ D ∧ ((((kc + m0) + m2) + m4) + m5) + m8 ≤ mc ∧ ((((ks + n0) + n2) + n4) + n5) + n8 ≤ ms) ∧ (∀ E h', E8 E h' → Pt E h') ∧ (∀ v h8, P8 v h8 → v = none ∧ VB g K 7 D mc ms Pr Pt ((((((kc + m0) + m2) + m4) + m5) + m8)) ((((((ks + n0) + n2) + n4) + n5) + n8)) 62 [some (.ref l0), some (.int l1), some (.int l2), some (.int l3), some (.int l4), some (.int ((l5 + 1))), none] [] h8))))) ∧ (v7 = 0 → (isB ((0 : Int32)) ∧ Pr (some (.int ((0 : Int32)))) h5)))))))))))))))))))) : VB g K 7 D mc ms Pr Pt kc ks 62 [some (.ref l0), some (.int l1), some (.int l2), some (.int l3), some (.int l4), some (.int l5), none] [] h := by
  obtain ⟨p, e, s, m, args, below, meth, c⟩ := K
  have X : CX g p s m args meth c cX5_readRank 7 yX5_readRank (some (.boolean)) [] := X
  have hz := hg s X.gk.z
  show VV g p e (rmm D mc ms) s m args below meth c 7 (QQ g below args s mc ms Pr Pt) kc ks 62 [some (.ref l0), some (.int l1), some (.int l2), some (.int l3), some (.int l4), some (.int l5), none] [] h
  refine r_iload X dX5_readRank_62 rfl ?_
  refine r_iload X dX5_readRank_64 rfl ?_
  refine r_icmp_ge X dX5_readRank_66 (tgt := 116) (by decide) (fun q => ?_) (fun q => ?_)
  · have w := w.1 q
    refine VB_wk (ls' := [some (.ref l0), none, none, some (.int l3), none, none, none]) ?_ w
    exact (And.intro rfl (And.intro rfl trivial))
  · have w := w.2 q
    refine r_aload_n X dX5_readRank_69 rfl ?_
    refine r_iload_n X dX5_readRank_70 rfl ?_
    obtain ⟨fs0, es0, w⟩ := w
    obtain ⟨d0, P0, E0, m0, n0, ct0, w⟩ := w
    obtain ⟨⟨x1, x2, x3⟩, w⟩ := w
    obtain ⟨x4, w⟩ := w
    refine r_callV X (As := [.int l1]) dX5_readRank_71 mk_X5_joint ⟨ml_X5_211, im_X5_joint, se_X5_joint⟩ (oF_s es0) (ci_X5).1 rfl rfl rfl (by simp [Value.category]) ⟨x1, by show 60 * (d0 + 1) + 200 ≤ 60 * D + 200; omega⟩ ⟨x2, x3⟩ ct0 x4 (fun _ z => nomatch z) (fun _ => ⟨x2, x3⟩) (fun v h0 w1 => ?_)
    have w := w v h0 w1
    have hk : kc + m0 ≤ mc ∧ ks + n0 ≤ ms := ⟨x2, x3⟩
    obtain ⟨v2, rfl, w⟩ := w
    refine r_if_eq X dX5_readRank_74 (tgt := 116) (by decide) (fun q => ?_) (fun q => ?_)
    · have w := w.1 q
      refine VB_wk (ls' := [some (.ref l0), none, none, some (.int l3), none, none, none]) ?_ w
      exact (And.intro rfl (And.intro rfl trivial))
    · have w := w.2 q
      refine r_aload_n X dX5_readRank_77 rfl ?_
      refine r_iload_n X dX5_readRank_78 rfl ?_
      obtain ⟨fs2, es2, w⟩ := w
      obtain ⟨d2, P2, E2, m2, n2, ct2, w⟩ := w
      obtain ⟨⟨x1, x2, x3⟩, w⟩ := w
      obtain ⟨x4, w⟩ := w
      refine r_callV X (As := [.int l1]) dX5_readRank_79 mk_X5_joint ⟨ml_X5_211, im_X5_joint, se_X5_joint⟩ (oF_s es2) (ci_X5).1 rfl rfl rfl (by simp [Value.category]) ⟨x1, by show 60 * (d2 + 1) + 200 ≤ 60 * D + 200; omega⟩ ⟨x2, x3⟩ ct2 x4 (fun _ z => nomatch z) (fun _ => ⟨x2, x3⟩) (fun v h2 w1 => ?_)
      have w := w v h2 w1
      have hk : (kc + m0) + m2 ≤ mc ∧ (ks + n0) + n2 ≤ ms := ⟨x2, x3⟩
      obtain ⟨v4, rfl, w⟩ := w
      refine r_istore X dX5_readRank_82 (by decide) rfl ?_
      refine r_aload_n X dX5_readRank_84 rfl ?_
      obtain ⟨fs4, es4, w⟩ := w
      obtain ⟨d4, P4, E4, m4, n4, ct4, w⟩ := w
      obtain ⟨⟨x1, x2, x3⟩, w⟩ := w
      obtain ⟨x4, w⟩ := w
      refine r_callV X (As := []) dX5_readRank_85 mk_X5_takeToken ⟨ml_X5_54, im_X5_takeToken, se_X5_takeToken⟩ (oF_s es4) (ci_X5).1 rfl rfl rfl (by simp [Value.category]) ⟨x1, by show 60 * (d4 + 1) + 200 ≤ 60 * D + 200; omega⟩ ⟨x2, x3⟩ ct4 x4 (fun _ z => nomatch z) (fun _ => ⟨x2, x3⟩) (fun v h4 w1 => ?_)
      have w := w v h4 w1
      have hk : ((kc + m0) + m2) + m4 ≤ mc ∧ ((ks + n0) + n2) + n4 ≤ ms := ⟨x2, x3⟩
      obtain ⟨rfl, w⟩ := w
      refine r_aload_n X dX5_readRank_88 rfl ?_
      refine r_iload_n X dX5_readRank_89 rfl ?_
      refine r_iconst X dX5_readRank_90 (v := 1) (by decide) ?_
      refine r_iadd X dX5_readRank_91 ?_
      refine r_iload_n X dX5_readRank_92 rfl ?_
      obtain ⟨fs5, es5, w⟩ := w
      obtain ⟨d5, P5, E5, m5, n5, ct5, w⟩ := w
      obtain ⟨⟨x1, x2, x3⟩, w⟩ := w
      obtain ⟨x4, w⟩ := w
      refine r_callV X (As := [.int ((l1 + (1 : Int32))), .int l2]) dX5_readRank_93 mk_X5_readRank ⟨ml_X5_201, im_X5_readRank, se_X5_readRank⟩ (oF_s es5) (ci_X5).1 rfl rfl rfl (by simp [Value.category]) ⟨x1, by show 60 * (d5 + 1) + 200 ≤ 60 * D + 200; omega⟩ ⟨x2, x3⟩ ct5 x4 (fun _ z => nomatch z) (fun _ => ⟨x2, x3⟩) (fun v h5 w1 => ?_)
      have w := w v h5 w1
      have hk : (((kc + m0) + m2) + m4) + m5 ≤ mc ∧ (((ks + n0) + n2) + n4) + n5 ≤ ms := ⟨x2, x3⟩
      obtain ⟨v7, rfl, w⟩ := w
      refine r_if_ne X dX5_readRank_96 (tgt := 101) (by decide) (fun q => ?_) (fun q => ?_)
      · have w := w.1 q
        refine r_aload_n X dX5_readRank_101 rfl ?_
        obtain ⟨v8, ev8, w⟩ := w
        obtain ⟨fv8, cv8, qv8⟩ := gN_s ev8
        refine r_getf X dX5_readRank_102 fl_X5_46 cv8 qv8 ?_
        refine r_iload X dX5_readRank_105 rfl ?_
        obtain ⟨fs8, es8, w⟩ := w
        obtain ⟨d8, P8, E8, m8, n8, ct8, w⟩ := w
        obtain ⟨⟨x1, x2, x3⟩, w⟩ := w
        obtain ⟨x4, w⟩ := w
        refine r_callV X (As := [.int v4]) dX5_readRank_107 mk_X9_append ⟨ml_X5_214, im_X9_append, se_X9_append⟩ (oF_s es8) (ci_X9).1 rfl rfl rfl (by simp [Value.category]) ⟨x1, by show 60 * (d8 + 1) + 200 ≤ 60 * D + 200; omega⟩ ⟨x2, x3⟩ ct8 x4 (fun _ z => nomatch z) (fun _ => ⟨x2, x3⟩) (fun v h8 w1 => ?_)
        have w := w v h8 w1
        have hk : ((((kc + m0) + m2) + m4) + m5) + m8 ≤ mc ∧ ((((ks + n0) + n2) + n4) + n5) + n8 ≤ ms := ⟨x2, x3⟩
        obtain ⟨rfl, w⟩ := w
        refine r_iinc X dX5_readRank_110 rfl (v := (l5 + 1)) rfl (by decide) rfl ?_
        refine r_goto X dX5_readRank_113 (tgt := 62) (by decide) ?_
        refine VB_wk (ls' := [some (.ref l0), some (.int l1), some (.int l2), some (.int l3), some (.int l4), some (.int ((l5 + 1))), none]) ?_ w
        exact (And.intro rfl (And.intro rfl (And.intro rfl (And.intro rfl (And.intro rfl (And.intro rfl trivial))))))
      · have w := w.2 q
        refine r_iconst X dX5_readRank_99 (v := 0) (by decide) ?_
        exact r_zret X dX5_readRank_100 rfl (isB_n w.1) w.2 hk.1 hk.2

set_option maxRecDepth 10000 in
theorem b_X5_readRank_116 {g : GG} {K : KX} {D mc ms : Nat} {Pr : Option Value → Hp → Prop} {Pt : String → Hp → Prop} {kc ks : Nat} (hg : GOK g) (hD : 8 ≤ D) (hk : kc ≤ mc ∧ ks ≤ ms) (X : CB g K cX5_readRank 7 yX5_readRank (some (.boolean)) []) (l0 : Nat) (l3 : Int32) (h : Hp)
    (w : VB g K 7 D mc ms Pr Pt kc ks 119 [some (.ref l0), none, none, some (.int l3), none, some (.int ((0 : Int32))), none] [] h) : VB g K 7 D mc ms Pr Pt kc ks 116 [some (.ref l0), none, none, some (.int l3), none, none, none] [] h := by
  obtain ⟨p, e, s, m, args, below, meth, c⟩ := K
  have X : CX g p s m args meth c cX5_readRank 7 yX5_readRank (some (.boolean)) [] := X
  have hz := hg s X.gk.z
  show VV g p e (rmm D mc ms) s m args below meth c 7 (QQ g below args s mc ms Pr Pt) kc ks 116 [some (.ref l0), none, none, some (.int l3), none, none, none] [] h
  refine r_iconst X dX5_readRank_116 (v := 0) (by decide) ?_
  refine r_istore X dX5_readRank_117 (by decide) rfl ?_
  refine VB_wk (ls' := [some (.ref l0), none, none, some (.int l3), none, some (.int ((0 : Int32))), none]) ?_ w
  exact (And.intro rfl (And.intro rfl (And.intro rfl trivial)))

set_option maxRecDepth 10000 in
theorem b_X5_readRank_119 {g : GG} {K : KX} {D mc ms : Nat} {Pr : Option Value → Hp → Prop} {Pt : String → Hp → Prop} {kc ks : Nat} (hg : GOK g) (hD : 8 ≤ D) (hk : kc ≤ mc ∧ ks ≤ ms) (X : CB g K cX5_readRank 7 yX5_readRank (some (.boolean)) []) (l0 : Nat) (l3 : Int32) (l5 : Int32) (h : Hp)
    (w : ((l3 ≤ l5 → (isB ((1 : Int32)) ∧ Pr (some (.int ((1 : Int32)))) h)) ∧ (¬ l3 ≤ l5 → (∃ v1, gN h l0 5 4 = some v1 ∧ (∃ fs1, oF h v1 9 = some fs1 ∧ (∃ d1 P1 E1 m1 n1, CT g d1 yX9_append (wsC yX9_append cX9_append 2 none) [.ref v1, .int ((-7 : Int32))] h m1 n1 P1 E1 ∧ (d1 + 1 ≤ D ∧ kc + m1 ≤ mc ∧ ks + n1 ≤ ms) ∧ (∀ E h', E1 E h' → Pt E h') ∧ (∀ v h1, P1 v h1 → v = none ∧ VB g K 7 D mc ms Pr Pt ((kc + m1)) ((ks + n1)) 119 [some (.ref l0), none, none, some (.int l3), none, some (.int ((l5 + 1))), none] [] h1))))))) : VB g K 7 D mc ms Pr Pt kc ks 119 [some (.ref l0), none, none, some (.int l3), none, some (.int l5), none] [] h := by
  obtain ⟨p, e, s, m, args, below, meth, c⟩ := K
  have X : CX g p s m args meth c cX5_readRank 7 yX5_readRank (some (.boolean)) [] := X
  have hz := hg s X.gk.z
  show VV g p e (rmm D mc ms) s m args below meth c 7 (QQ g below args s mc ms Pr Pt) kc ks 119 [some (.ref l0), none, none, some (.int l3), none, some (.int l5), none] [] h
  refine r_iload X dX5_readRank_119 rfl ?_
  refine r_iload_n X dX5_readRank_121 rfl ?_
  refine r_icmp_ge X dX5_readRank_122 (tgt := 140) (by decide) (fun q => ?_) (fun q => ?_)
  · have w := w.1 q
    refine r_iconst X dX5_readRank_140 (v := 1) (by decide) ?_
    exact r_zret X dX5_readRank_141 rfl (isB_n w.1) w.2 hk.1 hk.2
  · have w := w.2 q
    refine r_aload_n X dX5_readRank_125 rfl ?_
    obtain ⟨v1, ev1, w⟩ := w
    obtain ⟨fv1, cv1, qv1⟩ := gN_s ev1
    refine r_getf X dX5_readRank_126 fl_X5_46 cv1 qv1 ?_
    refine r_bipush X dX5_readRank_129 (v := -7) (by decide) ?_
    obtain ⟨fs1, es1, w⟩ := w
    obtain ⟨d1, P1, E1, m1, n1, ct1, w⟩ := w
    obtain ⟨⟨x1, x2, x3⟩, w⟩ := w
    obtain ⟨x4, w⟩ := w
    refine r_callV X (As := [.int ((-7 : Int32))]) dX5_readRank_131 mk_X9_append ⟨ml_X5_214, im_X9_append, se_X9_append⟩ (oF_s es1) (ci_X9).1 rfl rfl rfl (by simp [Value.category]) ⟨x1, by show 60 * (d1 + 1) + 200 ≤ 60 * D + 200; omega⟩ ⟨x2, x3⟩ ct1 x4 (fun _ z => nomatch z) (fun _ => ⟨x2, x3⟩) (fun v h1 w1 => ?_)
    have w := w v h1 w1
    have hk : kc + m1 ≤ mc ∧ ks + n1 ≤ ms := ⟨x2, x3⟩
    obtain ⟨rfl, w⟩ := w
    refine r_iinc X dX5_readRank_134 rfl (v := (l5 + 1)) rfl (by decide) rfl ?_
    refine r_goto X dX5_readRank_137 (tgt := 119) (by decide) ?_
    refine VB_wk (ls' := [some (.ref l0), none, none, some (.int l3), none, some (.int ((l5 + 1))), none]) ?_ w
    exact (And.intro rfl (And.intro rfl (And.intro rfl trivial)))

set_option maxRecDepth 10000 in
theorem b_X5_readRule_0 {g : GG} {K : KX} {D mc ms : Nat} {Pr : Option Value → Hp → Prop} {Pt : String → Hp → Prop} {kc ks : Nat} (hg : GOK g) (hD : 8 ≤ D) (hk : kc ≤ mc ∧ ks ≤ ms) (X : CB g K cX5_readRule 2 yX5_readRule (some (.boolean)) []) (l0 : Nat) (l1 : Nat) (h : Hp)
    (w : (∃ v1, gI h l1 6 0 = some v1 ∧ ((v1 = 0 → (∃ v2, gN h l0 5 4 = some v2 ∧ (∃ fs2, oF h v2 9 = some fs2 ∧ (∃ d2 P2 E2 m2 n2, CT g d2 yX9_begin (wsC yX9_begin cX9_begin 2 none) [.ref v2, .ref l1] h m2 n2 P2 E2 ∧ (d2 + 1 ≤ D ∧ kc + m2 ≤ mc ∧ ks + n2 ≤ ms) ∧ (∀ E h', E2 E h' → Pt E h') ∧ (∀ v h2, P2 v h2 → v = none ∧ (∃ fs3, oF h2 l0 5 = some fs3 ∧ (∃ d3 P3 E3 m3 n3, CT g d3 yX5_takeToken (wsC yX5_takeToken cX5_takeToken 2 none) [.ref l0] h2 m3 n3 P3 E3 ∧ (d3 + 1 ≤ D ∧ (kc + m2) + m3 ≤ mc ∧ (ks + n2) + n3 ≤ ms) ∧ (∀ E h', E3 E h' → Pt E h') ∧ (∀ v h3, P3 v h3 → v = none ∧ (∃ fs4, oF h3 l0 5 = some fs4 ∧ (∃ d4 P4 E4 m4 n4, CT g d4 yX5_readExpr (wsC yX5_readExpr cX5_readExpr 2 (some (.boolean))) [.ref l0, .int ((0 : Int32))] h3 m4 n4 P4 E4 ∧ (d4 + 1 ≤ D ∧ ((kc + m2) + m3) + m4 ≤ mc ∧ ((ks + n2) + n3) + n4 ≤ ms) ∧ (∀ E h', E4 E h' → Pt E h') ∧ (∀ v h4, P4 v h4 → ∃ v6, v = some (.int v6) ∧ ((¬ v6 = 0 → (∃ v7, gN h4 l0 5 4 = some v7 ∧ (∃ fs7, oF h4 v7 9 = some fs7 ∧ (∃ d7 P7 E7 m7 n7, CT g d7 yX9_end (wsC yX9_end cX9_end 2 none) [.ref v7, .ref l1] h4 m7 n7 P7 E7 ∧ (d7 + 1 ≤ D ∧ (((kc + m2) + m3) + m4) + m7 ≤ mc ∧ (((ks + n2) + n3) + n4) + n7 ≤ ms) ∧ (∀ E h', E7 E h' → Pt E h') ∧ (∀ v h7, P7 v h7 → v = none ∧ (∃ fs8, oF h7 l0 5 = some fs8 ∧ (∃ d8 P8 E8 m8 n8, CT g d8 yX5_passSign (wsC yX5_passSign cX5_passSign 2 (some (.boolean))) [.ref l0, .int ((59 : Int32))] h7 m8 n8 P8 E8 ∧ (d8 + 1 ≤ D ∧ ((((kc + m2) + m3) + m4) + m7) + m8 ≤ mc ∧ ((((ks + n2) + n3) + n4) + n7) + n8 ≤ ms) ∧ (∀ E h', E8 E h' → Pt E h') ∧ (∀ v h8, P8 v h8 → ∃ v10, v = some (.int v10) ∧ (isB v10 ∧ Pr (some (.int v10)) h8))))))))) ∧ (v6 = 0 → (isB ((0 : Int32)) ∧ Pr (some (.int ((0 : Int32)))) h4)))))))))))))) ∧ (¬ v1 = 0 → (∃ fs10, oF h l0 5 = some fs10 ∧ (∃ d10 P10 E10 m10 n10, CT g d10 yX5_fail (wsC yX5_fail cX5_fail 2 (some (.boolean))) [.ref l0, .int ((5 : Int32))] h m10 n10 P10 E10 ∧ (d10 + 1 ≤ D ∧ kc + m10 ≤ mc ∧ ks + n10 ≤ ms) ∧ (∀ E h', E10 E h' → Pt E h') ∧ (∀ v h10, P10 v h10 → ∃ v12, v = some (.int v12) ∧ (isB v12 ∧ Pr (some (.int v12)) h10)))))))) : VB g K 2 D mc ms Pr Pt kc ks 0 [some (.ref l0), some (.ref l1)] [] h := by
  obtain ⟨p, e, s, m, args, below, meth, c⟩ := K
  have X : CX g p s m args meth c cX5_readRule 2 yX5_readRule (some (.boolean)) [] := X
  have hz := hg s X.gk.z
  show VV g p e (rmm D mc ms) s m args below meth c 2 (QQ g below args s mc ms Pr Pt) kc ks 0 [some (.ref l0), some (.ref l1)] [] h
  refine r_aload_n X dX5_readRule_0 rfl ?_
  obtain ⟨v1, ev1, w⟩ := w
  obtain ⟨fv1, cv1, qv1⟩ := gI_s ev1
  refine r_getf X dX5_readRule_1 fl_X5_186 cv1 qv1 ?_
  refine r_if_eq X dX5_readRule_4 (tgt := 13) (by decide) (fun q => ?_) (fun q => ?_)
  · have w := w.1 q
    refine r_aload_n X dX5_readRule_13 rfl ?_
    obtain ⟨v2, ev2, w⟩ := w
    obtain ⟨fv2, cv2, qv2⟩ := gN_s ev2
    refine r_getf X dX5_readRule_14 fl_X5_46 cv2 qv2 ?_
    refine r_aload_n X dX5_readRule_17 rfl ?_
    obtain ⟨fs2, es2, w⟩ := w
    obtain ⟨d2, P2, E2, m2, n2, ct2, w⟩ := w
    obtain ⟨⟨x1, x2, x3⟩, w⟩ := w
    obtain ⟨x4, w⟩ := w
    refine r_callV X (As := [.ref l1]) dX5_readRule_18 mk_X9_begin ⟨ml_X5_191, im_X9_begin, se_X9_begin⟩ (oF_s es2) (ci_X9).1 rfl rfl rfl (by simp [Value.category]) ⟨x1, by show 60 * (d2 + 1) + 200 ≤ 60 * D + 200; omega⟩ ⟨x2, x3⟩ ct2 x4 (fun _ z => nomatch z) (fun _ => ⟨x2, x3⟩) (fun v h2 w1 => ?_)
    have w := w v h2 w1
    have hk : kc + m2 ≤ mc ∧ ks + n2 ≤ ms := ⟨x2, x3⟩
    obtain ⟨rfl, w⟩ := w
    refine r_aload_n X dX5_readRule_21 rfl ?_
    obtain ⟨fs3, es3, w⟩ := w
    obtain ⟨d3, P3, E3, m3, n3, ct3, w⟩ := w
    obtain ⟨⟨x1, x2, x3⟩, w⟩ := w
    obtain ⟨x4, w⟩ := w
    refine r_callV X (As := []) dX5_readRule_22 mk_X5_takeToken ⟨ml_X5_54, im_X5_takeToken, se_X5_takeToken⟩ (oF_s es3) (ci_X5).1 rfl rfl rfl (by simp [Value.category]) ⟨x1, by show 60 * (d3 + 1) + 200 ≤ 60 * D + 200; omega⟩ ⟨x2, x3⟩ ct3 x4 (fun _ z => nomatch z) (fun _ => ⟨x2, x3⟩) (fun v h3 w1 => ?_)
    have w := w v h3 w1
    have hk : (kc + m2) + m3 ≤ mc ∧ (ks + n2) + n3 ≤ ms := ⟨x2, x3⟩
    obtain ⟨rfl, w⟩ := w
    refine r_aload_n X dX5_readRule_25 rfl ?_
    refine r_iconst X dX5_readRule_26 (v := 0) (by decide) ?_
    obtain ⟨fs4, es4, w⟩ := w
    obtain ⟨d4, P4, E4, m4, n4, ct4, w⟩ := w
    obtain ⟨⟨x1, x2, x3⟩, w⟩ := w
    obtain ⟨x4, w⟩ := w
    refine r_callV X (As := [.int ((0 : Int32))]) dX5_readRule_27 mk_X5_readExpr ⟨ml_X5_195, im_X5_readExpr, se_X5_readExpr⟩ (oF_s es4) (ci_X5).1 rfl rfl rfl (by simp [Value.category]) ⟨x1, by show 60 * (d4 + 1) + 200 ≤ 60 * D + 200; omega⟩ ⟨x2, x3⟩ ct4 x4 (fun _ z => nomatch z) (fun _ => ⟨x2, x3⟩) (fun v h4 w1 => ?_)
    have w := w v h4 w1
    have hk : ((kc + m2) + m3) + m4 ≤ mc ∧ ((ks + n2) + n3) + n4 ≤ ms := ⟨x2, x3⟩
    obtain ⟨v6, rfl, w⟩ := w
    refine r_if_ne X dX5_readRule_30 (tgt := 35) (by decide) (fun q => ?_) (fun q => ?_)
    · have w := w.1 q
      refine r_aload_n X dX5_readRule_35 rfl ?_
      obtain ⟨v7, ev7, w⟩ := w
      obtain ⟨fv7, cv7, qv7⟩ := gN_s ev7
      refine r_getf X dX5_readRule_36 fl_X5_46 cv7 qv7 ?_
      refine r_aload_n X dX5_readRule_39 rfl ?_
      obtain ⟨fs7, es7, w⟩ := w
      obtain ⟨d7, P7, E7, m7, n7, ct7, w⟩ := w
      obtain ⟨⟨x1, x2, x3⟩, w⟩ := w
      obtain ⟨x4, w⟩ := w
      refine r_callV X (As := [.ref l1]) dX5_readRule_40 mk_X9_end ⟨ml_X5_198, im_X9_end, se_X9_end⟩ (oF_s es7) (ci_X9).1 rfl rfl rfl (by simp [Value.category]) ⟨x1, by show 60 * (d7 + 1) + 200 ≤ 60 * D + 200; omega⟩ ⟨x2, x3⟩ ct7 x4 (fun _ z => nomatch z) (fun _ => ⟨x2, x3⟩) (fun v h7 w1 => ?_)
      have w := w v h7 w1
      have hk : (((kc + m2) + m3) + m4) + m7 ≤ mc ∧ (((ks + n2) + n3) + n4) + n7 ≤ ms := ⟨x2, x3⟩
      obtain ⟨rfl, w⟩ := w
      refine r_aload_n X dX5_readRule_43 rfl ?_
      refine r_bipush X dX5_readRule_44 (v := 59) (by decide) ?_
      obtain ⟨fs8, es8, w⟩ := w
      obtain ⟨d8, P8, E8, m8, n8, ct8, w⟩ := w
      obtain ⟨⟨x1, x2, x3⟩, w⟩ := w
      obtain ⟨x4, w⟩ := w
      refine r_callV X (As := [.int ((59 : Int32))]) dX5_readRule_46 mk_X5_passSign ⟨ml_X5_143, im_X5_passSign, se_X5_passSign⟩ (oF_s es8) (ci_X5).1 rfl rfl rfl (by simp [Value.category]) ⟨x1, by show 60 * (d8 + 1) + 200 ≤ 60 * D + 200; omega⟩ ⟨x2, x3⟩ ct8 x4 (fun _ z => nomatch z) (fun _ => ⟨x2, x3⟩) (fun v h8 w1 => ?_)
      have w := w v h8 w1
      have hk : ((((kc + m2) + m3) + m4) + m7) + m8 ≤ mc ∧ ((((ks + n2) + n3) + n4) + n7) + n8 ≤ ms := ⟨x2, x3⟩
      obtain ⟨v10, rfl, w⟩ := w
      exact r_zret X dX5_readRule_49 rfl (isB_n w.1) w.2 hk.1 hk.2
    · have w := w.2 q
      refine r_iconst X dX5_readRule_33 (v := 0) (by decide) ?_
      exact r_zret X dX5_readRule_34 rfl (isB_n w.1) w.2 hk.1 hk.2
  · have w := w.2 q
    refine r_aload_n X dX5_readRule_7 rfl ?_
    refine r_iconst X dX5_readRule_8 (v := 5) (by decide) ?_
    obtain ⟨fs10, es10, w⟩ := w
    obtain ⟨d10, P10, E10, m10, n10, ct10, w⟩ := w
    obtain ⟨⟨x1, x2, x3⟩, w⟩ := w
    obtain ⟨x4, w⟩ := w
    refine r_callV X (As := [.int ((5 : Int32))]) dX5_readRule_9 mk_X5_fail ⟨ml_X5_78, im_X5_fail, se_X5_fail⟩ (oF_s es10) (ci_X5).1 rfl rfl rfl (by simp [Value.category]) ⟨x1, by show 60 * (d10 + 1) + 200 ≤ 60 * D + 200; omega⟩ ⟨x2, x3⟩ ct10 x4 (fun _ z => nomatch z) (fun _ => ⟨x2, x3⟩) (fun v h10 w1 => ?_)
    have w := w v h10 w1
    have hk : kc + m10 ≤ mc ∧ ks + n10 ≤ ms := ⟨x2, x3⟩
    obtain ⟨v12, rfl, w⟩ := w
    exact r_zret X dX5_readRule_12 rfl (isB_n w.1) w.2 hk.1 hk.2

set_option maxRecDepth 10000 in
theorem b_X5_readStretch_0 {g : GG} {K : KX} {D mc ms : Nat} {Pr : Option Value → Hp → Prop} {Pt : String → Hp → Prop} {kc ks : Nat} (hg : GOK g) (hD : 8 ≤ D) (hk : kc ≤ mc ∧ ks ≤ ms) (X : CB g K cX5_readStretch 3 yX5_readStretch (some (.boolean)) []) (l0 : Nat) (h : Hp)
    (w : (∃ v1, gN h l0 5 4 = some v1 ∧ (∃ v2, gI h v1 9 0 = some v2 ∧ ((v2 < (12 : Int32) → (∃ fs2, oF h l0 5 = some fs2 ∧ (∃ d2 P2 E2 m2 n2, CT g d2 yX5_takeToken (wsC yX5_takeToken cX5_takeToken 2 none) [.ref l0] h m2 n2 P2 E2 ∧ (d2 + 1 ≤ D ∧ kc + m2 ≤ mc ∧ ks + n2 ≤ ms) ∧ (∀ E h', E2 E h' → Pt E h') ∧ (∀ v h2, P2 v h2 → v = none ∧ (∃ fs3, oF h2 l0 5 = some fs3 ∧ (∃ d3 P3 E3 m3 n3, CT g d3 yX5_isNumber (wsC yX5_isNumber cX5_isNumber 3 (some (.boolean))) [.ref l0, .int ((0 : Int32)), .int ((99 : Int32))] h2 m3 n3 P3 E3 ∧ (d3 + 1 ≤ D ∧ (kc + m2) + m3 ≤ mc ∧ (ks + n2) + n3 ≤ ms) ∧ (∀ E h', E3 E h' → Pt E h') ∧ (∀ v h3, P3 v h3 → ∃ v5, v = some (.int v5) ∧ ((¬ v5 = 0 → (∃ v6, gI h3 l0 5 9 = some v6 ∧ (∃ fs6, oF h3 l0 5 = some fs6 ∧ (∃ d6 P6 E6 m6 n6, CT g d6 yX5_takeToken (wsC yX5_takeToken cX5_takeToken 2 none) [.ref l0] h3 m6 n6 P6 E6 ∧ (d6 + 1 ≤ D ∧ ((kc + m2) + m3) + m6 ≤ mc ∧ ((ks + n2) + n3) + n6 ≤ ms) ∧ (∀ E h', E6 E h' → Pt E h') ∧ (∀ v h6, P6 v h6 → v = none ∧ (∃ fs7, oF h6 l0 5 = some fs7 ∧ (∃ d7 P7 E7 m7 n7, CT g d7 yX5_isNumber (wsC yX5_isNumber cX5_isNumber 3 (some (.boolean))) [.ref l0, .int ((0 : Int32)), .int ((99 : Int32))] h6 m7 n7 P7 E7 ∧ (d7 + 1 ≤ D ∧ (((kc + m2) + m3) + m6) + m7 ≤ mc ∧ (((ks + n2) + n3) + n6) + n7 ≤ ms) ∧ (∀ E h', E7 E h' → Pt E h') ∧ (∀ v h7, P7 v h7 → ∃ v9, v = some (.int v9) ∧ ((¬ v9 = 0 → (∃ v10, gI h7 l0 5 9 = some v10 ∧ (∃ fs10, oF h7 l0 5 = some fs10 ∧ (∃ d10 P10 E10 m10 n10, CT g d10 yX5_takeToken (wsC yX5_takeToken cX5_takeToken 2 none) [.ref l0] h7 m10 n10 P10 E10 ∧ (d10 + 1 ≤ D ∧ ((((kc + m2) + m3) + m6) + m7) + m10 ≤ mc ∧ ((((ks + n2) + n3) + n6) + n7) + n10 ≤ ms) ∧ (∀ E h', E10 E h' → Pt E h') ∧ (∀ v h10, P10 v h10 → v = none ∧ (∃ fs11, oF h10 l0 5 = some fs11 ∧ (∃ d11 P11 E11 m11 n11, CT g d11 yX5_isNumber (wsC yX5_isNumber cX5_isNumber 3 (some (.boolean))) [.ref l0, .int ((0 : Int32)), .int ((2 : Int32))] h10 m11 n11 P11 E11 ∧ (d11 + 1 ≤ D ∧ (((((kc + m2) + m3) + m6) + m7) + m10) + m11 ≤ mc ∧ (((((ks + n2) + n3) + n6) + n7) + n10) + n11 ≤ ms) ∧ (∀ E h', E11 E h' → Pt E h') ∧ (∀ v h11, P11 v h11 → ∃ v13, v = some (.int v13) ∧ ((¬ v13 = 0 → (∃ v14, gN h11 l0 5 5 = some v14 ∧ (∃ v15, gN h11 l0 5 4 = some v15 ∧ (∃ v16, gI h11 v15 9 0 = some v16 ∧ (∃ v17, gI h11 l0 5 9 = some v17 ∧ (∃ fs17, oF h11 v14 2 = some fs17 ∧ (∃ d17 P17 E17 m17 n17, CT g d17 yX2_putStretch (wsC yX2_putStretch cX2_putStretch 5 none) [.ref v14, .int v16, .int v6, .int v10, .int v17] h11 m17 n17 P17 E17 ∧ (d17 + 1 ≤ D ∧ ((((((kc + m2) + m3) + m6) + m7) + m10) + m11) + m17 ≤ mc ∧ ((((((ks + n2) + n3) + n6) + n7) + n10) + n11) + n17 ≤ ms) ∧ (∀ E h', E17 E h' → Pt E h') ∧ (∀ v h17, P17 v h17 → v = none ∧ (∃ v19, gN h17 l0 5 4 = some v19 ∧ (∃ v20, gI h17 v19 9 0 = some v20 ∧ (∃ h21, pF h17 v19 9 0 (.int ((v20 + (1 : Int32)))) = some h21 ∧ (∃ fs21, oF h21 l0 5 = some fs21 ∧ (∃ d21 P21 E21 m21 n21, CT g d21 yX5_takeToken (wsC yX5_takeToken cX5_takeToken 2 none) [.ref l0] h21 m21 n21 P21 E21 ∧ (d21 + 1 ≤ D ∧ (((((((kc + m2) + m3) + m6) + m7) + m10) + m11) + m17) + m21 ≤ mc ∧ (((((((ks + n2) + n3) + n6) + n7) + n10) + n11) + n17) + n21 ≤ ms) ∧ (∀ E h', E21 E h' → Pt E h') ∧ (∀ v h21, P21 v h21 → v = none ∧ (∃ fs22, oF h21 l0 5 = some fs22 ∧ (∃ d22 P22 E22 m22 n22, CT g d22 yX5_passSign (wsC yX5_passSign cX5_passSign 2 (some (.boolean))) [.ref l0, .int ((59 : Int32))] h21 m22 n22 P22 E22 ∧ (d22 + 1 ≤ D ∧ ((((((((kc + m2) + m3) + m6) + m7) + m10) + m11) + m17) + m21) + m22 ≤ mc ∧ ((((((((ks + n2) + n3) + n6) + n7) + n10) + n11) + n17) + n21) + n22 ≤ ms) ∧ (∀ E h', E22 E h' → Pt E h') ∧ (∀ v h22, P22 v h22 → ∃ v24, v = some (.int v24) ∧ (isB v24 ∧ Pr (some (.int v24)) h22)))))))))))))))))) ∧ (v13 = 0 → (isB ((0 : Int32)) ∧ Pr (some (.int ((0 : Int32)))) h11))))))))))) ∧ (v9 = 0 → (isB ((0 : Int32)) ∧ Pr (some (.int ((0 : Int32)))) h7))))))))))) ∧ (v5 = 0 → (isB ((0 : Int32)) ∧ Pr (some (.int ((0 : Int32)))) h3)))))))))) ∧ (¬ v2 < (12 : Int32) → (∃ fs24, oF h l0 5 = some fs24 ∧ (∃ d24 P24 E24 m24 n24, CT g d24 yX5_fail (wsC yX5_fail cX5_fail 2 (some (.boolean))) [.ref l0, .int ((2 : Int32))] h m24 n24 P24 E24 ∧ (d24 + 1 ≤ D ∧ kc + m24 ≤ mc ∧ ks + n24 ≤ ms) ∧ (∀ E h', E24 E h' → Pt E h') ∧ (∀ v h24, P24 v h24 → ∃ v26, v = some (.int v26) ∧ (isB v26 ∧ Pr (some (.int v26)) h24))))))))) : VB g K 3 D mc ms Pr Pt kc ks 0 [some (.ref l0), none, none] [] h := by
  obtain ⟨p, e, s, m, args, below, meth, c⟩ := K
  have X : CX g p s m args meth c cX5_readStretch 3 yX5_readStretch (some (.boolean)) [] := X
  have hz := hg s X.gk.z
  show VV g p e (rmm D mc ms) s m args below meth c 3 (QQ g below args s mc ms Pr Pt) kc ks 0 [some (.ref l0), none, none] [] h
  refine r_aload_n X dX5_readStretch_0 rfl ?_
  obtain ⟨v1, ev1, w⟩ := w
  obtain ⟨fv1, cv1, qv1⟩ := gN_s ev1
  refine r_getf X dX5_readStretch_1 fl_X5_46 cv1 qv1 ?_
  obtain ⟨v2, ev2, w⟩ := w
  obtain ⟨fv2, cv2, qv2⟩ := gI_s ev2
  refine r_getf X dX5_readStretch_4 fl_X5_130 cv2 qv2 ?_
  refine r_bipush X dX5_readStretch_7 (v := 12) (by decide) ?_
  refine r_icmp_lt X dX5_readStretch_9 (tgt := 18) (by decide) (fun q => ?_) (fun q => ?_)
  · have w := w.1 q
    refine r_aload_n X dX5_readStretch_18 rfl ?_
    obtain ⟨fs2, es2, w⟩ := w
    obtain ⟨d2, P2, E2, m2, n2, ct2, w⟩ := w
    obtain ⟨⟨x1, x2, x3⟩, w⟩ := w
    obtain ⟨x4, w⟩ := w
    refine r_callV X (As := []) dX5_readStretch_19 mk_X5_takeToken ⟨ml_X5_54, im_X5_takeToken, se_X5_takeToken⟩ (oF_s es2) (ci_X5).1 rfl rfl rfl (by simp [Value.category]) ⟨x1, by show 60 * (d2 + 1) + 200 ≤ 60 * D + 200; omega⟩ ⟨x2, x3⟩ ct2 x4 (fun _ z => nomatch z) (fun _ => ⟨x2, x3⟩) (fun v h2 w1 => ?_)
    have w := w v h2 w1
    have hk : kc + m2 ≤ mc ∧ ks + n2 ≤ ms := ⟨x2, x3⟩
    obtain ⟨rfl, w⟩ := w
    refine r_aload_n X dX5_readStretch_22 rfl ?_
    refine r_iconst X dX5_readStretch_23 (v := 0) (by decide) ?_
    refine r_bipush X dX5_readStretch_24 (v := 99) (by decide) ?_
    obtain ⟨fs3, es3, w⟩ := w
    obtain ⟨d3, P3, E3, m3, n3, ct3, w⟩ := w
    obtain ⟨⟨x1, x2, x3⟩, w⟩ := w
    obtain ⟨x4, w⟩ := w
    refine r_callV X (As := [.int ((0 : Int32)), .int ((99 : Int32))]) dX5_readStretch_26 mk_X5_isNumber ⟨ml_X5_133, im_X5_isNumber, se_X5_isNumber⟩ (oF_s es3) (ci_X5).1 rfl rfl rfl (by simp [Value.category]) ⟨x1, by show 60 * (d3 + 1) + 200 ≤ 60 * D + 200; omega⟩ ⟨x2, x3⟩ ct3 x4 (fun _ z => nomatch z) (fun _ => ⟨x2, x3⟩) (fun v h3 w1 => ?_)
    have w := w v h3 w1
    have hk : (kc + m2) + m3 ≤ mc ∧ (ks + n2) + n3 ≤ ms := ⟨x2, x3⟩
    obtain ⟨v5, rfl, w⟩ := w
    refine r_if_ne X dX5_readStretch_29 (tgt := 34) (by decide) (fun q => ?_) (fun q => ?_)
    · have w := w.1 q
      refine r_aload_n X dX5_readStretch_34 rfl ?_
      obtain ⟨v6, ev6, w⟩ := w
      obtain ⟨fv6, cv6, qv6⟩ := gI_s ev6
      refine r_getf X dX5_readStretch_35 fl_X5_27 cv6 qv6 ?_
      refine r_istore_n X dX5_readStretch_38 (by decide) rfl ?_
      refine r_aload_n X dX5_readStretch_39 rfl ?_
      obtain ⟨fs6, es6, w⟩ := w
      obtain ⟨d6, P6, E6, m6, n6, ct6, w⟩ := w
      obtain ⟨⟨x1, x2, x3⟩, w⟩ := w
      obtain ⟨x4, w⟩ := w
      refine r_callV X (As := []) dX5_readStretch_40 mk_X5_takeToken ⟨ml_X5_54, im_X5_takeToken, se_X5_takeToken⟩ (oF_s es6) (ci_X5).1 rfl rfl rfl (by simp [Value.category]) ⟨x1, by show 60 * (d6 + 1) + 200 ≤ 60 * D + 200; omega⟩ ⟨x2, x3⟩ ct6 x4 (fun _ z => nomatch z) (fun _ => ⟨x2, x3⟩) (fun v h6 w1 => ?_)
      have w := w v h6 w1
      have hk : ((kc + m2) + m3) + m6 ≤ mc ∧ ((ks + n2) + n3) + n6 ≤ ms := ⟨x2, x3⟩
      obtain ⟨rfl, w⟩ := w
      refine r_aload_n X dX5_readStretch_43 rfl ?_
      refine r_iconst X dX5_readStretch_44 (v := 0) (by decide) ?_
      refine r_bipush X dX5_readStretch_45 (v := 99) (by decide) ?_
      obtain ⟨fs7, es7, w⟩ := w
      obtain ⟨d7, P7, E7, m7, n7, ct7, w⟩ := w
      obtain ⟨⟨x1, x2, x3⟩, w⟩ := w
      obtain ⟨x4, w⟩ := w
      refine r_callV X (As := [.int ((0 : Int32)), .int ((99 : Int32))]) dX5_readStretch_47 mk_X5_isNumber ⟨ml_X5_133, im_X5_isNumber, se_X5_isNumber⟩ (oF_s es7) (ci_X5).1 rfl rfl rfl (by simp [Value.category]) ⟨x1, by show 60 * (d7 + 1) + 200 ≤ 60 * D + 200; omega⟩ ⟨x2, x3⟩ ct7 x4 (fun _ z => nomatch z) (fun _ => ⟨x2, x3⟩) (fun v h7 w1 => ?_)
      have w := w v h7 w1
      have hk : (((kc + m2) + m3) + m6) + m7 ≤ mc ∧ (((ks + n2) + n3) + n6) + n7 ≤ ms := ⟨x2, x3⟩
      obtain ⟨v9, rfl, w⟩ := w
      refine r_if_ne X dX5_readStretch_50 (tgt := 55) (by decide) (fun q => ?_) (fun q => ?_)
      · have w := w.1 q
        refine r_aload_n X dX5_readStretch_55 rfl ?_
        obtain ⟨v10, ev10, w⟩ := w
        obtain ⟨fv10, cv10, qv10⟩ := gI_s ev10
        refine r_getf X dX5_readStretch_56 fl_X5_27 cv10 qv10 ?_
        refine r_istore_n X dX5_readStretch_59 (by decide) rfl ?_
        refine r_aload_n X dX5_readStretch_60 rfl ?_
        obtain ⟨fs10, es10, w⟩ := w
        obtain ⟨d10, P10, E10, m10, n10, ct10, w⟩ := w
        obtain ⟨⟨x1, x2, x3⟩, w⟩ := w
        obtain ⟨x4, w⟩ := w
        refine r_callV X (As := []) dX5_readStretch_61 mk_X5_takeToken ⟨ml_X5_54, im_X5_takeToken, se_X5_takeToken⟩ (oF_s es10) (ci_X5).1 rfl rfl rfl (by simp [Value.category]) ⟨x1, by show 60 * (d10 + 1) + 200 ≤ 60 * D + 200; omega⟩ ⟨x2, x3⟩ ct10 x4 (fun _ z => nomatch z) (fun _ => ⟨x2, x3⟩) (fun v h10 w1 => ?_)
        have w := w v h10 w1
        have hk : ((((kc + m2) + m3) + m6) + m7) + m10 ≤ mc ∧ ((((ks + n2) + n3) + n6) + n7) + n10 ≤ ms := ⟨x2, x3⟩
        obtain ⟨rfl, w⟩ := w
        refine r_aload_n X dX5_readStretch_64 rfl ?_
        refine r_iconst X dX5_readStretch_65 (v := 0) (by decide) ?_
        refine r_iconst X dX5_readStretch_66 (v := 2) (by decide) ?_
        obtain ⟨fs11, es11, w⟩ := w
        obtain ⟨d11, P11, E11, m11, n11, ct11, w⟩ := w
        obtain ⟨⟨x1, x2, x3⟩, w⟩ := w
        obtain ⟨x4, w⟩ := w
        refine r_callV X (As := [.int ((0 : Int32)), .int ((2 : Int32))]) dX5_readStretch_67 mk_X5_isNumber ⟨ml_X5_133, im_X5_isNumber, se_X5_isNumber⟩ (oF_s es11) (ci_X5).1 rfl rfl rfl (by simp [Value.category]) ⟨x1, by show 60 * (d11 + 1) + 200 ≤ 60 * D + 200; omega⟩ ⟨x2, x3⟩ ct11 x4 (fun _ z => nomatch z) (fun _ => ⟨x2, x3⟩) (fun v h11 w1 => ?_)
        have w := w v h11 w1
        have hk : (((((kc + m2) + m3) + m6) + m7) + m10) + m11 ≤ mc ∧ (((((ks + n2) + n3) + n6) + n7) + n10) + n11 ≤ ms := ⟨x2, x3⟩
        obtain ⟨v13, rfl, w⟩ := w
        refine r_if_ne X dX5_readStretch_70 (tgt := 75) (by decide) (fun q => ?_) (fun q => ?_)
        · have w := w.1 q
          refine r_aload_n X dX5_readStretch_75 rfl ?_
          obtain ⟨v14, ev14, w⟩ := w
          obtain ⟨fv14, cv14, qv14⟩ := gN_s ev14
          refine r_getf X dX5_readStretch_76 fl_X5_50 cv14 qv14 ?_
          refine r_aload_n X dX5_readStretch_79 rfl ?_
          obtain ⟨v15, ev15, w⟩ := w
          obtain ⟨fv15, cv15, qv15⟩ := gN_s ev15
          refine r_getf X dX5_readStretch_80 fl_X5_46 cv15 qv15 ?_
          obtain ⟨v16, ev16, w⟩ := w
          obtain ⟨fv16, cv16, qv16⟩ := gI_s ev16
          refine r_getf X dX5_readStretch_83 fl_X5_130 cv16 qv16 ?_
          refine r_iload_n X dX5_readStretch_86 rfl ?_
          refine r_iload_n X dX5_readStretch_87 rfl ?_
          refine r_aload_n X dX5_readStretch_88 rfl ?_
          obtain ⟨v17, ev17, w⟩ := w
          obtain ⟨fv17, cv17, qv17⟩ := gI_s ev17
          refine r_getf X dX5_readStretch_89 fl_X5_27 cv17 qv17 ?_
          obtain ⟨fs17, es17, w⟩ := w
          obtain ⟨d17, P17, E17, m17, n17, ct17, w⟩ := w
          obtain ⟨⟨x1, x2, x3⟩, w⟩ := w
          obtain ⟨x4, w⟩ := w
          refine r_callV X (As := [.int v16, .int v6, .int v10, .int v17]) dX5_readStretch_92 mk_X2_putStretch ⟨ml_X5_137, im_X2_putStretch, se_X2_putStretch⟩ (oF_s es17) (ci_X2).1 rfl rfl rfl (by simp [Value.category]) ⟨x1, by show 60 * (d17 + 1) + 200 ≤ 60 * D + 200; omega⟩ ⟨x2, x3⟩ ct17 x4 (fun _ z => nomatch z) (fun _ => ⟨x2, x3⟩) (fun v h17 w1 => ?_)
          have w := w v h17 w1
          have hk : ((((((kc + m2) + m3) + m6) + m7) + m10) + m11) + m17 ≤ mc ∧ ((((((ks + n2) + n3) + n6) + n7) + n10) + n11) + n17 ≤ ms := ⟨x2, x3⟩
          obtain ⟨rfl, w⟩ := w
          refine r_aload_n X dX5_readStretch_95 rfl ?_
          obtain ⟨v19, ev19, w⟩ := w
          obtain ⟨fv19, cv19, qv19⟩ := gN_s ev19
          refine r_getf X dX5_readStretch_96 fl_X5_46 cv19 qv19 ?_
          refine r_dup X dX5_readStretch_99 rfl ?_
          obtain ⟨v20, ev20, w⟩ := w
          obtain ⟨fv20, cv20, qv20⟩ := gI_s ev20
          refine r_getf X dX5_readStretch_100 fl_X5_130 cv20 qv20 ?_
          refine r_iconst X dX5_readStretch_103 (v := 1) (by decide) ?_
          refine r_iadd X dX5_readStretch_104 ?_
          obtain ⟨h21, eh21, w⟩ := w
          obtain ⟨fh21, ch21, lh21, rh21⟩ := pF_s eh21
          subst rh21
          refine r_putf X dX5_readStretch_105 fw_X5_130 ch21 lh21 rfl rfl ?_
          refine r_aload_n X dX5_readStretch_108 rfl ?_
          obtain ⟨fs21, es21, w⟩ := w
          obtain ⟨d21, P21, E21, m21, n21, ct21, w⟩ := w
          obtain ⟨⟨x1, x2, x3⟩, w⟩ := w
          obtain ⟨x4, w⟩ := w
          refine r_callV X (As := []) dX5_readStretch_109 mk_X5_takeToken ⟨ml_X5_54, im_X5_takeToken, se_X5_takeToken⟩ (oF_s es21) (ci_X5).1 rfl rfl rfl (by simp [Value.category]) ⟨x1, by show 60 * (d21 + 1) + 200 ≤ 60 * D + 200; omega⟩ ⟨x2, x3⟩ ct21 x4 (fun _ z => nomatch z) (fun _ => ⟨x2, x3⟩) (fun v h21 w1 => ?_)
          have w := w v h21 w1
          have hk : (((((((kc + m2) + m3) + m6) + m7) + m10) + m11) + m17) + m21 ≤ mc ∧ (((((((ks + n2) + n3) + n6) + n7) + n10) + n11) + n17) + n21 ≤ ms := ⟨x2, x3⟩
          obtain ⟨rfl, w⟩ := w
          refine r_aload_n X dX5_readStretch_112 rfl ?_
          refine r_bipush X dX5_readStretch_113 (v := 59) (by decide) ?_
          obtain ⟨fs22, es22, w⟩ := w
          obtain ⟨d22, P22, E22, m22, n22, ct22, w⟩ := w
          obtain ⟨⟨x1, x2, x3⟩, w⟩ := w
          obtain ⟨x4, w⟩ := w
          refine r_callV X (As := [.int ((59 : Int32))]) dX5_readStretch_115 mk_X5_passSign ⟨ml_X5_143, im_X5_passSign, se_X5_passSign⟩ (oF_s es22) (ci_X5).1 rfl rfl rfl (by simp [Value.category]) ⟨x1, by show 60 * (d22 + 1) + 200 ≤ 60 * D + 200; omega⟩ ⟨x2, x3⟩ ct22 x4 (fun _ z => nomatch z) (fun _ => ⟨x2, x3⟩) (fun v h22 w1 => ?_)
          have w := w v h22 w1
          have hk : ((((((((kc + m2) + m3) + m6) + m7) + m10) + m11) + m17) + m21) + m22 ≤ mc ∧ ((((((((ks + n2) + n3) + n6) + n7) + n10) + n11) + n17) + n21) + n22 ≤ ms := ⟨x2, x3⟩
          obtain ⟨v24, rfl, w⟩ := w
          exact r_zret X dX5_readStretch_118 rfl (isB_n w.1) w.2 hk.1 hk.2
        · have w := w.2 q
          refine r_iconst X dX5_readStretch_73 (v := 0) (by decide) ?_
          exact r_zret X dX5_readStretch_74 rfl (isB_n w.1) w.2 hk.1 hk.2
      · have w := w.2 q
        refine r_iconst X dX5_readStretch_53 (v := 0) (by decide) ?_
        exact r_zret X dX5_readStretch_54 rfl (isB_n w.1) w.2 hk.1 hk.2
    · have w := w.2 q
      refine r_iconst X dX5_readStretch_32 (v := 0) (by decide) ?_
      exact r_zret X dX5_readStretch_33 rfl (isB_n w.1) w.2 hk.1 hk.2
  · have w := w.2 q
    refine r_aload_n X dX5_readStretch_12 rfl ?_
    refine r_iconst X dX5_readStretch_13 (v := 2) (by decide) ?_
    obtain ⟨fs24, es24, w⟩ := w
    obtain ⟨d24, P24, E24, m24, n24, ct24, w⟩ := w
    obtain ⟨⟨x1, x2, x3⟩, w⟩ := w
    obtain ⟨x4, w⟩ := w
    refine r_callV X (As := [.int ((2 : Int32))]) dX5_readStretch_14 mk_X5_fail ⟨ml_X5_78, im_X5_fail, se_X5_fail⟩ (oF_s es24) (ci_X5).1 rfl rfl rfl (by simp [Value.category]) ⟨x1, by show 60 * (d24 + 1) + 200 ≤ 60 * D + 200; omega⟩ ⟨x2, x3⟩ ct24 x4 (fun _ z => nomatch z) (fun _ => ⟨x2, x3⟩) (fun v h24 w1 => ?_)
    have w := w v h24 w1
    have hk : kc + m24 ≤ mc ∧ ks + n24 ≤ ms := ⟨x2, x3⟩
    obtain ⟨v26, rfl, w⟩ := w
    exact r_zret X dX5_readStretch_17 rfl (isB_n w.1) w.2 hk.1 hk.2

set_option maxRecDepth 10000 in
theorem b_X5_readText_0 {g : GG} {K : KX} {D mc ms : Nat} {Pr : Option Value → Hp → Prop} {Pt : String → Hp → Prop} {kc ks : Nat} (hg : GOK g) (hD : 8 ≤ D) (hk : kc ≤ mc ∧ ks ≤ ms) (X : CB g K cX5_readText 2 yX5_readText (some (.boolean)) []) (l0 : Nat) (h : Hp)
    (w : (∃ fs0, oF h l0 5 = some fs0 ∧ (∃ d0 P0 E0 m0 n0, CT g d0 yX5_takeToken (wsC yX5_takeToken cX5_takeToken 2 none) [.ref l0] h m0 n0 P0 E0 ∧ (d0 + 1 ≤ D ∧ kc + m0 ≤ mc ∧ ks + n0 ≤ ms) ∧ (∀ E h', E0 E h' → Pt E h') ∧ (∀ v h0, P0 v h0 → v = none ∧ VB g K 2 D mc ms Pr Pt ((kc + m0)) ((ks + n0)) 6 [some (.ref l0), some (.int ((0 : Int32)))] [] h0)))) : VB g K 2 D mc ms Pr Pt kc ks 0 [some (.ref l0), none] [] h := by
  obtain ⟨p, e, s, m, args, below, meth, c⟩ := K
  have X : CX g p s m args meth c cX5_readText 2 yX5_readText (some (.boolean)) [] := X
  have hz := hg s X.gk.z
  show VV g p e (rmm D mc ms) s m args below meth c 2 (QQ g below args s mc ms Pr Pt) kc ks 0 [some (.ref l0), none] [] h
  refine r_aload_n X dX5_readText_0 rfl ?_
  obtain ⟨fs0, es0, w⟩ := w
  obtain ⟨d0, P0, E0, m0, n0, ct0, w⟩ := w
  obtain ⟨⟨x1, x2, x3⟩, w⟩ := w
  obtain ⟨x4, w⟩ := w
  refine r_callV X (As := []) dX5_readText_1 mk_X5_takeToken ⟨ml_X5_54, im_X5_takeToken, se_X5_takeToken⟩ (oF_s es0) (ci_X5).1 rfl rfl rfl (by simp [Value.category]) ⟨x1, by show 60 * (d0 + 1) + 200 ≤ 60 * D + 200; omega⟩ ⟨x2, x3⟩ ct0 x4 (fun _ z => nomatch z) (fun _ => ⟨x2, x3⟩) (fun v h0 w1 => ?_)
  have w := w v h0 w1
  have hk : kc + m0 ≤ mc ∧ ks + n0 ≤ ms := ⟨x2, x3⟩
  obtain ⟨rfl, w⟩ := w
  refine r_iconst X dX5_readText_4 (v := 0) (by decide) ?_
  refine r_istore_n X dX5_readText_5 (by decide) rfl ?_
  refine VB_wk (ls' := [some (.ref l0), some (.int ((0 : Int32)))]) ?_ w
  exact (And.intro rfl (And.intro rfl trivial))

set_option maxRecDepth 10000 in
theorem b_X5_readText_6 {g : GG} {K : KX} {D mc ms : Nat} {Pr : Option Value → Hp → Prop} {Pt : String → Hp → Prop} {kc ks : Nat} (hg : GOK g) (hD : 8 ≤ D) (hk : kc ≤ mc ∧ ks ≤ ms) (X : CB g K cX5_readText 2 yX5_readText (some (.boolean)) []) (l0 : Nat) (l1 : Int32) (h : Hp)
    (w : (∃ v1, gI h l0 5 3 = some v1 ∧ ((v1 < l1 → (isB ((1 : Int32)) ∧ Pr (some (.int ((1 : Int32)))) h)) ∧ (¬ v1 < l1 → (∃ v2, gI h l0 5 7 = some v2 ∧ ((v2 = 0 → (isB ((1 : Int32)) ∧ Pr (some (.int ((1 : Int32)))) h)) ∧ (¬ v2 = 0 → (∃ fs2, oF h l0 5 = some fs2 ∧ (∃ d2 P2 E2 m2 n2, CT g d2 yX5_readLine (wsC yX5_readLine cX5_readLine 1 (some (.boolean))) [.ref l0] h m2 n2 P2 E2 ∧ (d2 + 1 ≤ D ∧ kc + m2 ≤ mc ∧ ks + n2 ≤ ms) ∧ (∀ E h', E2 E h' → Pt E h') ∧ (∀ v h2, P2 v h2 → ∃ v4, v = some (.int v4) ∧ ((¬ v4 = 0 → VB g K 2 D mc ms Pr Pt ((kc + m2)) ((ks + n2)) 6 [some (.ref l0), some (.int ((l1 + 1)))] [] h2) ∧ (v4 = 0 → (isB ((0 : Int32)) ∧ Pr (some (.int ((0 : Int32)))) h2))))))))))))) : VB g K 2 D mc ms Pr Pt kc ks 6 [some (.ref l0), some (.int l1)] [] h := by
  obtain ⟨p, e, s, m, args, below, meth, c⟩ := K
  have X : CX g p s m args meth c cX5_readText 2 yX5_readText (some (.boolean)) [] := X
  have hz := hg s X.gk.z
  show VV g p e (rmm D mc ms) s m args below meth c 2 (QQ g below args s mc ms Pr Pt) kc ks 6 [some (.ref l0), some (.int l1)] [] h
  refine r_iload_n X dX5_readText_6 rfl ?_
  refine r_aload_n X dX5_readText_7 rfl ?_
  obtain ⟨v1, ev1, w⟩ := w
  obtain ⟨fv1, cv1, qv1⟩ := gI_s ev1
  refine r_getf X dX5_readText_8 fl_X5_43 cv1 qv1 ?_
  refine r_icmp_gt X dX5_readText_11 (tgt := 36) (by decide) (fun q => ?_) (fun q => ?_)
  · have w := w.1 q
    refine r_iconst X dX5_readText_36 (v := 1) (by decide) ?_
    exact r_zret X dX5_readText_37 rfl (isB_n w.1) w.2 hk.1 hk.2
  · have w := w.2 q
    refine r_aload_n X dX5_readText_14 rfl ?_
    obtain ⟨v2, ev2, w⟩ := w
    obtain ⟨fv2, cv2, qv2⟩ := gI_s ev2
    refine r_getf X dX5_readText_15 fl_X5_21 cv2 qv2 ?_
    refine r_if_eq X dX5_readText_18 (tgt := 36) (by decide) (fun q => ?_) (fun q => ?_)
    · have w := w.1 q
      refine r_iconst X dX5_readText_36 (v := 1) (by decide) ?_
      exact r_zret X dX5_readText_37 rfl (isB_n w.1) w.2 hk.1 hk.2
    · have w := w.2 q
      refine r_aload_n X dX5_readText_21 rfl ?_
      obtain ⟨fs2, es2, w⟩ := w
      obtain ⟨d2, P2, E2, m2, n2, ct2, w⟩ := w
      obtain ⟨⟨x1, x2, x3⟩, w⟩ := w
      obtain ⟨x4, w⟩ := w
      refine r_callV X (As := []) dX5_readText_22 mk_X5_readLine ⟨ml_X5_57, im_X5_readLine, se_X5_readLine⟩ (oF_s es2) (ci_X5).1 rfl rfl rfl (by simp [Value.category]) ⟨x1, by show 60 * (d2 + 1) + 200 ≤ 60 * D + 200; omega⟩ ⟨x2, x3⟩ ct2 x4 (fun _ z => nomatch z) (fun _ => ⟨x2, x3⟩) (fun v h2 w1 => ?_)
      have w := w v h2 w1
      have hk : kc + m2 ≤ mc ∧ ks + n2 ≤ ms := ⟨x2, x3⟩
      obtain ⟨v4, rfl, w⟩ := w
      refine r_if_ne X dX5_readText_25 (tgt := 30) (by decide) (fun q => ?_) (fun q => ?_)
      · have w := w.1 q
        refine r_iinc X dX5_readText_30 rfl (v := (l1 + 1)) rfl (by decide) rfl ?_
        refine r_goto X dX5_readText_33 (tgt := 6) (by decide) ?_
        refine VB_wk (ls' := [some (.ref l0), some (.int ((l1 + 1)))]) ?_ w
        exact (And.intro rfl (And.intro rfl trivial))
      · have w := w.2 q
        refine r_iconst X dX5_readText_28 (v := 0) (by decide) ?_
        exact r_zret X dX5_readText_29 rfl (isB_n w.1) w.2 hk.1 hk.2

set_option maxRecDepth 10000 in
theorem b_X5_readWeek_0 {g : GG} {K : KX} {D mc ms : Nat} {Pr : Option Value → Hp → Prop} {Pt : String → Hp → Prop} {kc ks : Nat} (hg : GOK g) (hD : 8 ≤ D) (hk : kc ≤ mc ∧ ks ≤ ms) (X : CB g K cX5_readWeek 1 yX5_readWeek (some (.boolean)) []) (l0 : Nat) (h : Hp)
    (w : (∃ v1, gN h l0 5 4 = some v1 ∧ (∃ v2, gI h v1 9 3 = some v2 ∧ ((v2 = 0 → (∃ v3, gN h l0 5 4 = some v3 ∧ (isB ((1 : Int32)) ∧ (∃ h4, pF h v3 9 3 (.int ((1 : Int32))) = some h4 ∧ (∃ fs4, oF h4 l0 5 = some fs4 ∧ (∃ d4 P4 E4 m4 n4, CT g d4 yX5_takeToken (wsC yX5_takeToken cX5_takeToken 2 none) [.ref l0] h4 m4 n4 P4 E4 ∧ (d4 + 1 ≤ D ∧ kc + m4 ≤ mc ∧ ks + n4 ≤ ms) ∧ (∀ E h', E4 E h' → Pt E h') ∧ (∀ v h4, P4 v h4 → v = none ∧ (∃ fs5, oF h4 l0 5 = some fs5 ∧ (∃ d5 P5 E5 m5 n5, CT g d5 yX5_isNumber (wsC yX5_isNumber cX5_isNumber 3 (some (.boolean))) [.ref l0, .int ((1 : Int32)), .int ((9 : Int32))] h4 m5 n5 P5 E5 ∧ (d5 + 1 ≤ D ∧ (kc + m4) + m5 ≤ mc ∧ (ks + n4) + n5 ≤ ms) ∧ (∀ E h', E5 E h' → Pt E h') ∧ (∀ v h5, P5 v h5 → ∃ v7, v = some (.int v7) ∧ ((¬ v7 = 0 → (∃ v8, gN h5 l0 5 4 = some v8 ∧ (∃ v9, gI h5 l0 5 9 = some v9 ∧ (∃ h10, pF h5 v8 9 2 (.int v9) = some h10 ∧ (∃ fs10, oF h10 l0 5 = some fs10 ∧ (∃ d10 P10 E10 m10 n10, CT g d10 yX5_takeToken (wsC yX5_takeToken cX5_takeToken 2 none) [.ref l0] h10 m10 n10 P10 E10 ∧ (d10 + 1 ≤ D ∧ ((kc + m4) + m5) + m10 ≤ mc ∧ ((ks + n4) + n5) + n10 ≤ ms) ∧ (∀ E h', E10 E h' → Pt E h') ∧ (∀ v h10, P10 v h10 → v = none ∧ (∃ fs11, oF h10 l0 5 = some fs11 ∧ (∃ d11 P11 E11 m11 n11, CT g d11 yX5_passSign (wsC yX5_passSign cX5_passSign 2 (some (.boolean))) [.ref l0, .int ((59 : Int32))] h10 m11 n11 P11 E11 ∧ (d11 + 1 ≤ D ∧ (((kc + m4) + m5) + m10) + m11 ≤ mc ∧ (((ks + n4) + n5) + n10) + n11 ≤ ms) ∧ (∀ E h', E11 E h' → Pt E h') ∧ (∀ v h11, P11 v h11 → ∃ v13, v = some (.int v13) ∧ (isB v13 ∧ Pr (some (.int v13)) h11))))))))))) ∧ (v7 = 0 → (isB ((0 : Int32)) ∧ Pr (some (.int ((0 : Int32)))) h5))))))))))))) ∧ (¬ v2 = 0 → (∃ fs13, oF h l0 5 = some fs13 ∧ (∃ d13 P13 E13 m13 n13, CT g d13 yX5_fail (wsC yX5_fail cX5_fail 2 (some (.boolean))) [.ref l0, .int ((5 : Int32))] h m13 n13 P13 E13 ∧ (d13 + 1 ≤ D ∧ kc + m13 ≤ mc ∧ ks + n13 ≤ ms) ∧ (∀ E h', E13 E h' → Pt E h') ∧ (∀ v h13, P13 v h13 → ∃ v15, v = some (.int v15) ∧ (isB v15 ∧ Pr (some (.int v15)) h13))))))))) : VB g K 1 D mc ms Pr Pt kc ks 0 [some (.ref l0)] [] h := by
  obtain ⟨p, e, s, m, args, below, meth, c⟩ := K
  have X : CX g p s m args meth c cX5_readWeek 1 yX5_readWeek (some (.boolean)) [] := X
  have hz := hg s X.gk.z
  show VV g p e (rmm D mc ms) s m args below meth c 1 (QQ g below args s mc ms Pr Pt) kc ks 0 [some (.ref l0)] [] h
  refine r_aload_n X dX5_readWeek_0 rfl ?_
  obtain ⟨v1, ev1, w⟩ := w
  obtain ⟨fv1, cv1, qv1⟩ := gN_s ev1
  refine r_getf X dX5_readWeek_1 fl_X5_46 cv1 qv1 ?_
  obtain ⟨v2, ev2, w⟩ := w
  obtain ⟨fv2, cv2, qv2⟩ := gI_s ev2
  refine r_getf X dX5_readWeek_4 fl_X5_180 cv2 qv2 ?_
  refine r_if_eq X dX5_readWeek_7 (tgt := 16) (by decide) (fun q => ?_) (fun q => ?_)
  · have w := w.1 q
    refine r_aload_n X dX5_readWeek_16 rfl ?_
    obtain ⟨v3, ev3, w⟩ := w
    obtain ⟨fv3, cv3, qv3⟩ := gN_s ev3
    refine r_getf X dX5_readWeek_17 fl_X5_46 cv3 qv3 ?_
    refine r_iconst X dX5_readWeek_20 (v := 1) (by decide) ?_
    obtain ⟨bh4, w⟩ := w
    obtain ⟨h4, eh4, w⟩ := w
    obtain ⟨fh4, ch4, lh4, rh4⟩ := pF_s eh4
    subst rh4
    refine r_putf X dX5_readWeek_21 fw_X5_180 ch4 lh4 (isB_n bh4) (isB_f bh4) ?_
    refine r_aload_n X dX5_readWeek_24 rfl ?_
    obtain ⟨fs4, es4, w⟩ := w
    obtain ⟨d4, P4, E4, m4, n4, ct4, w⟩ := w
    obtain ⟨⟨x1, x2, x3⟩, w⟩ := w
    obtain ⟨x4, w⟩ := w
    refine r_callV X (As := []) dX5_readWeek_25 mk_X5_takeToken ⟨ml_X5_54, im_X5_takeToken, se_X5_takeToken⟩ (oF_s es4) (ci_X5).1 rfl rfl rfl (by simp [Value.category]) ⟨x1, by show 60 * (d4 + 1) + 200 ≤ 60 * D + 200; omega⟩ ⟨x2, x3⟩ ct4 x4 (fun _ z => nomatch z) (fun _ => ⟨x2, x3⟩) (fun v h4 w1 => ?_)
    have w := w v h4 w1
    have hk : kc + m4 ≤ mc ∧ ks + n4 ≤ ms := ⟨x2, x3⟩
    obtain ⟨rfl, w⟩ := w
    refine r_aload_n X dX5_readWeek_28 rfl ?_
    refine r_iconst X dX5_readWeek_29 (v := 1) (by decide) ?_
    refine r_bipush X dX5_readWeek_30 (v := 9) (by decide) ?_
    obtain ⟨fs5, es5, w⟩ := w
    obtain ⟨d5, P5, E5, m5, n5, ct5, w⟩ := w
    obtain ⟨⟨x1, x2, x3⟩, w⟩ := w
    obtain ⟨x4, w⟩ := w
    refine r_callV X (As := [.int ((1 : Int32)), .int ((9 : Int32))]) dX5_readWeek_32 mk_X5_isNumber ⟨ml_X5_133, im_X5_isNumber, se_X5_isNumber⟩ (oF_s es5) (ci_X5).1 rfl rfl rfl (by simp [Value.category]) ⟨x1, by show 60 * (d5 + 1) + 200 ≤ 60 * D + 200; omega⟩ ⟨x2, x3⟩ ct5 x4 (fun _ z => nomatch z) (fun _ => ⟨x2, x3⟩) (fun v h5 w1 => ?_)
    have w := w v h5 w1
    have hk : (kc + m4) + m5 ≤ mc ∧ (ks + n4) + n5 ≤ ms := ⟨x2, x3⟩
    obtain ⟨v7, rfl, w⟩ := w
    refine r_if_ne X dX5_readWeek_35 (tgt := 40) (by decide) (fun q => ?_) (fun q => ?_)
    · have w := w.1 q
      refine r_aload_n X dX5_readWeek_40 rfl ?_
      obtain ⟨v8, ev8, w⟩ := w
      obtain ⟨fv8, cv8, qv8⟩ := gN_s ev8
      refine r_getf X dX5_readWeek_41 fl_X5_46 cv8 qv8 ?_
      refine r_aload_n X dX5_readWeek_44 rfl ?_
      obtain ⟨v9, ev9, w⟩ := w
      obtain ⟨fv9, cv9, qv9⟩ := gI_s ev9
      refine r_getf X dX5_readWeek_45 fl_X5_27 cv9 qv9 ?_
      obtain ⟨h10, eh10, w⟩ := w
      obtain ⟨fh10, ch10, lh10, rh10⟩ := pF_s eh10
      subst rh10
      refine r_putf X dX5_readWeek_48 fw_X5_183 ch10 lh10 rfl rfl ?_
      refine r_aload_n X dX5_readWeek_51 rfl ?_
      obtain ⟨fs10, es10, w⟩ := w
      obtain ⟨d10, P10, E10, m10, n10, ct10, w⟩ := w
      obtain ⟨⟨x1, x2, x3⟩, w⟩ := w
      obtain ⟨x4, w⟩ := w
      refine r_callV X (As := []) dX5_readWeek_52 mk_X5_takeToken ⟨ml_X5_54, im_X5_takeToken, se_X5_takeToken⟩ (oF_s es10) (ci_X5).1 rfl rfl rfl (by simp [Value.category]) ⟨x1, by show 60 * (d10 + 1) + 200 ≤ 60 * D + 200; omega⟩ ⟨x2, x3⟩ ct10 x4 (fun _ z => nomatch z) (fun _ => ⟨x2, x3⟩) (fun v h10 w1 => ?_)
      have w := w v h10 w1
      have hk : ((kc + m4) + m5) + m10 ≤ mc ∧ ((ks + n4) + n5) + n10 ≤ ms := ⟨x2, x3⟩
      obtain ⟨rfl, w⟩ := w
      refine r_aload_n X dX5_readWeek_55 rfl ?_
      refine r_bipush X dX5_readWeek_56 (v := 59) (by decide) ?_
      obtain ⟨fs11, es11, w⟩ := w
      obtain ⟨d11, P11, E11, m11, n11, ct11, w⟩ := w
      obtain ⟨⟨x1, x2, x3⟩, w⟩ := w
      obtain ⟨x4, w⟩ := w
      refine r_callV X (As := [.int ((59 : Int32))]) dX5_readWeek_58 mk_X5_passSign ⟨ml_X5_143, im_X5_passSign, se_X5_passSign⟩ (oF_s es11) (ci_X5).1 rfl rfl rfl (by simp [Value.category]) ⟨x1, by show 60 * (d11 + 1) + 200 ≤ 60 * D + 200; omega⟩ ⟨x2, x3⟩ ct11 x4 (fun _ z => nomatch z) (fun _ => ⟨x2, x3⟩) (fun v h11 w1 => ?_)
      have w := w v h11 w1
      have hk : (((kc + m4) + m5) + m10) + m11 ≤ mc ∧ (((ks + n4) + n5) + n10) + n11 ≤ ms := ⟨x2, x3⟩
      obtain ⟨v13, rfl, w⟩ := w
      exact r_zret X dX5_readWeek_61 rfl (isB_n w.1) w.2 hk.1 hk.2
    · have w := w.2 q
      refine r_iconst X dX5_readWeek_38 (v := 0) (by decide) ?_
      exact r_zret X dX5_readWeek_39 rfl (isB_n w.1) w.2 hk.1 hk.2
  · have w := w.2 q
    refine r_aload_n X dX5_readWeek_10 rfl ?_
    refine r_iconst X dX5_readWeek_11 (v := 5) (by decide) ?_
    obtain ⟨fs13, es13, w⟩ := w
    obtain ⟨d13, P13, E13, m13, n13, ct13, w⟩ := w
    obtain ⟨⟨x1, x2, x3⟩, w⟩ := w
    obtain ⟨x4, w⟩ := w
    refine r_callV X (As := [.int ((5 : Int32))]) dX5_readWeek_12 mk_X5_fail ⟨ml_X5_78, im_X5_fail, se_X5_fail⟩ (oF_s es13) (ci_X5).1 rfl rfl rfl (by simp [Value.category]) ⟨x1, by show 60 * (d13 + 1) + 200 ≤ 60 * D + 200; omega⟩ ⟨x2, x3⟩ ct13 x4 (fun _ z => nomatch z) (fun _ => ⟨x2, x3⟩) (fun v h13 w1 => ?_)
    have w := w v h13 w1
    have hk : kc + m13 ≤ mc ∧ ks + n13 ≤ ms := ⟨x2, x3⟩
    obtain ⟨v15, rfl, w⟩ := w
    exact r_zret X dX5_readWeek_15 rfl (isB_n w.1) w.2 hk.1 hk.2

set_option maxRecDepth 10000 in
theorem b_X5_readWoman_0 {g : GG} {K : KX} {D mc ms : Nat} {Pr : Option Value → Hp → Prop} {Pt : String → Hp → Prop} {kc ks : Nat} (hg : GOK g) (hD : 8 ≤ D) (hk : kc ≤ mc ∧ ks ≤ ms) (X : CB g K cX5_readWoman 3 yX5_readWoman (some (.boolean)) []) (l0 : Nat) (h : Hp)
    (w : (∃ v1, gN h l0 5 4 = some v1 ∧ (∃ v2, gI h v1 9 1 = some v2 ∧ ((v2 < (6 : Int32) → (∃ fs2, oF h l0 5 = some fs2 ∧ (∃ d2 P2 E2 m2 n2, CT g d2 yX5_takeToken (wsC yX5_takeToken cX5_takeToken 2 none) [.ref l0] h m2 n2 P2 E2 ∧ (d2 + 1 ≤ D ∧ kc + m2 ≤ mc ∧ ks + n2 ≤ ms) ∧ (∀ E h', E2 E h' → Pt E h') ∧ (∀ v h2, P2 v h2 → v = none ∧ (∃ fs3, oF h2 l0 5 = some fs3 ∧ (∃ d3 P3 E3 m3 n3, CT g d3 yX5_isNumber (wsC yX5_isNumber cX5_isNumber 3 (some (.boolean))) [.ref l0, .int ((0 : Int32)), .int ((9 : Int32))] h2 m3 n3 P3 E3 ∧ (d3 + 1 ≤ D ∧ (kc + m2) + m3 ≤ mc ∧ (ks + n2) + n3 ≤ ms) ∧ (∀ E h', E3 E h' → Pt E h') ∧ (∀ v h3, P3 v h3 → ∃ v5, v = some (.int v5) ∧ ((¬ v5 = 0 → (∃ v6, gI h3 l0 5 9 = some v6 ∧ (∃ fs6, oF h3 l0 5 = some fs6 ∧ (∃ d6 P6 E6 m6 n6, CT g d6 yX5_takeToken (wsC yX5_takeToken cX5_takeToken 2 none) [.ref l0] h3 m6 n6 P6 E6 ∧ (d6 + 1 ≤ D ∧ ((kc + m2) + m3) + m6 ≤ mc ∧ ((ks + n2) + n3) + n6 ≤ ms) ∧ (∀ E h', E6 E h' → Pt E h') ∧ (∀ v h6, P6 v h6 → v = none ∧ (∃ fs7, oF h6 l0 5 = some fs7 ∧ (∃ d7 P7 E7 m7 n7, CT g d7 yX5_isStretchTold (wsC yX5_isStretchTold cX5_isStretchTold 1 (some (.boolean))) [.ref l0] h6 m7 n7 P7 E7 ∧ (d7 + 1 ≤ D ∧ (((kc + m2) + m3) + m6) + m7 ≤ mc ∧ (((ks + n2) + n3) + n6) + n7 ≤ ms) ∧ (∀ E h', E7 E h' → Pt E h') ∧ (∀ v h7, P7 v h7 → ∃ v9, v = some (.int v9) ∧ ((¬ v9 = 0 → (∃ v10, gI h7 l0 5 9 = some v10 ∧ (∃ fs10, oF h7 l0 5 = some fs10 ∧ (∃ d10 P10 E10 m10 n10, CT g d10 yX5_takeToken (wsC yX5_takeToken cX5_takeToken 2 none) [.ref l0] h7 m10 n10 P10 E10 ∧ (d10 + 1 ≤ D ∧ ((((kc + m2) + m3) + m6) + m7) + m10 ≤ mc ∧ ((((ks + n2) + n3) + n6) + n7) + n10 ≤ ms) ∧ (∀ E h', E10 E h' → Pt E h') ∧ (∀ v h10, P10 v h10 → v = none ∧ (∃ fs11, oF h10 l0 5 = some fs11 ∧ (∃ d11 P11 E11 m11 n11, CT g d11 yX5_isNumber (wsC yX5_isNumber cX5_isNumber 3 (some (.boolean))) [.ref l0, .int ((0 : Int32)), .int ((99 : Int32))] h10 m11 n11 P11 E11 ∧ (d11 + 1 ≤ D ∧ (((((kc + m2) + m3) + m6) + m7) + m10) + m11 ≤ mc ∧ (((((ks + n2) + n3) + n6) + n7) + n10) + n11 ≤ ms) ∧ (∀ E h', E11 E h' → Pt E h') ∧ (∀ v h11, P11 v h11 → ∃ v13, v = some (.int v13) ∧ ((¬ v13 = 0 → (∃ v14, gN h11 l0 5 4 = some v14 ∧ (∃ v15, gN h11 v14 9 5 = some v15 ∧ (∃ v16, gN h11 l0 5 4 = some v16 ∧ (∃ v17, gI h11 v16 9 1 = some v17 ∧ (∃ h18, uI h11 0 v15 v17 v6 = some h18 ∧ (∃ v19, gN h18 l0 5 5 = some v19 ∧ (∃ v20, gN h18 l0 5 4 = some v20 ∧ (∃ v21, gI h18 v20 9 1 = some v21 ∧ (∃ v22, gI h18 l0 5 9 = some v22 ∧ (∃ fs22, oF h18 v19 2 = some fs22 ∧ (∃ d22 P22 E22 m22 n22, CT g d22 yX2_putWoman (wsC yX2_putWoman cX2_putWoman 4 none) [.ref v19, .int v21, .int v10, .int v22] h18 m22 n22 P22 E22 ∧ (d22 + 1 ≤ D ∧ ((((((kc + m2) + m3) + m6) + m7) + m10) + m11) + m22 ≤ mc ∧ ((((((ks + n2) + n3) + n6) + n7) + n10) + n11) + n22 ≤ ms) ∧ (∀ E h', E22 E h' → Pt E h') ∧ (∀ v h22, P22 v h22 → v = none ∧ (∃ v24, gN h22 l0 5 4 = some v24 ∧ (∃ v25, gI h22 v24 9 1 = some v25 ∧ (∃ h26, pF h22 v24 9 1 (.int ((v25 + (1 : Int32)))) = some h26 ∧ (∃ fs26, oF h26 l0 5 = some fs26 ∧ (∃ d26 P26 E26 m26 n26, CT g d26 yX5_takeToken (wsC yX5_takeToken cX5_takeToken 2 none) [.ref l0] h26 m26 n26 P26 E26 ∧ (d26 + 1 ≤ D ∧ (((((((kc + m2) + m3) + m6) + m7) + m10) + m11) + m22) + m26 ≤ mc ∧ (((((((ks + n2) + n3) + n6) + n7) + n10) + n11) + n22) + n26 ≤ ms) ∧ (∀ E h', E26 E h' → Pt E h') ∧ (∀ v h26, P26 v h26 → v = none ∧ (∃ fs27, oF h26 l0 5 = some fs27 ∧ (∃ d27 P27 E27 m27 n27, CT g d27 yX5_passSign (wsC yX5_passSign cX5_passSign 2 (some (.boolean))) [.ref l0, .int ((59 : Int32))] h26 m27 n27 P27 E27 ∧ (d27 + 1 ≤ D ∧ ((((((((kc + m2) + m3) + m6) + m7) + m10) + m11) + m22) + m26) + m27 ≤ mc ∧ ((((((((ks + n2) + n3) + n6) + n7) + n10) + n11) + n22) + n26) + n27 ≤ ms) ∧ (∀ E h', E27 E h' → Pt E h') ∧ (∀ v h27, P27 v h27 → ∃ v29, v = some (.int v29) ∧ (isB v29 ∧ Pr (some (.int v29)) h27))))))))))))))))))))))) ∧ (v13 = 0 → (isB ((0 : Int32)) ∧ Pr (some (.int ((0 : Int32)))) h11))))))))))) ∧ (v9 = 0 → (isB ((0 : Int32)) ∧ Pr (some (.int ((0 : Int32)))) h7))))))))))) ∧ (v5 = 0 → (isB ((0 : Int32)) ∧ Pr (some (.int ((0 : Int32)))) h3)))))))))) ∧ (¬ v2 < (6 : Int32) → (∃ fs29, oF h l0 5 = some fs29 ∧ (∃ d29 P29 E29 m29 n29, CT g d29 yX5_fail (wsC yX5_fail cX5_fail 2 (some (.boolean))) [.ref l0, .int ((2 : Int32))] h m29 n29 P29 E29 ∧ (d29 + 1 ≤ D ∧ kc + m29 ≤ mc ∧ ks + n29 ≤ ms) ∧ (∀ E h', E29 E h' → Pt E h') ∧ (∀ v h29, P29 v h29 → ∃ v31, v = some (.int v31) ∧ (isB v31 ∧ Pr (some (.int v31)) h29))))))))) : VB g K 3 D mc ms Pr Pt kc ks 0 [some (.ref l0), none, none] [] h := by
  obtain ⟨p, e, s, m, args, below, meth, c⟩ := K
  have X : CX g p s m args meth c cX5_readWoman 3 yX5_readWoman (some (.boolean)) [] := X
  have hz := hg s X.gk.z
  show VV g p e (rmm D mc ms) s m args below meth c 3 (QQ g below args s mc ms Pr Pt) kc ks 0 [some (.ref l0), none, none] [] h
  refine r_aload_n X dX5_readWoman_0 rfl ?_
  obtain ⟨v1, ev1, w⟩ := w
  obtain ⟨fv1, cv1, qv1⟩ := gN_s ev1
  refine r_getf X dX5_readWoman_1 fl_X5_46 cv1 qv1 ?_
  obtain ⟨v2, ev2, w⟩ := w
  obtain ⟨fv2, cv2, qv2⟩ := gI_s ev2
  refine r_getf X dX5_readWoman_4 fl_X5_146 cv2 qv2 ?_
  refine r_bipush X dX5_readWoman_7 (v := 6) (by decide) ?_
  refine r_icmp_lt X dX5_readWoman_9 (tgt := 18) (by decide) (fun q => ?_) (fun q => ?_)
  · have w := w.1 q
    refine r_aload_n X dX5_readWoman_18 rfl ?_
    obtain ⟨fs2, es2, w⟩ := w
    obtain ⟨d2, P2, E2, m2, n2, ct2, w⟩ := w
    obtain ⟨⟨x1, x2, x3⟩, w⟩ := w
    obtain ⟨x4, w⟩ := w
    refine r_callV X (As := []) dX5_readWoman_19 mk_X5_takeToken ⟨ml_X5_54, im_X5_takeToken, se_X5_takeToken⟩ (oF_s es2) (ci_X5).1 rfl rfl rfl (by simp [Value.category]) ⟨x1, by show 60 * (d2 + 1) + 200 ≤ 60 * D + 200; omega⟩ ⟨x2, x3⟩ ct2 x4 (fun _ z => nomatch z) (fun _ => ⟨x2, x3⟩) (fun v h2 w1 => ?_)
    have w := w v h2 w1
    have hk : kc + m2 ≤ mc ∧ ks + n2 ≤ ms := ⟨x2, x3⟩
    obtain ⟨rfl, w⟩ := w
    refine r_aload_n X dX5_readWoman_22 rfl ?_
    refine r_iconst X dX5_readWoman_23 (v := 0) (by decide) ?_
    refine r_bipush X dX5_readWoman_24 (v := 9) (by decide) ?_
    obtain ⟨fs3, es3, w⟩ := w
    obtain ⟨d3, P3, E3, m3, n3, ct3, w⟩ := w
    obtain ⟨⟨x1, x2, x3⟩, w⟩ := w
    obtain ⟨x4, w⟩ := w
    refine r_callV X (As := [.int ((0 : Int32)), .int ((9 : Int32))]) dX5_readWoman_26 mk_X5_isNumber ⟨ml_X5_133, im_X5_isNumber, se_X5_isNumber⟩ (oF_s es3) (ci_X5).1 rfl rfl rfl (by simp [Value.category]) ⟨x1, by show 60 * (d3 + 1) + 200 ≤ 60 * D + 200; omega⟩ ⟨x2, x3⟩ ct3 x4 (fun _ z => nomatch z) (fun _ => ⟨x2, x3⟩) (fun v h3 w1 => ?_)
    have w := w v h3 w1
    have hk : (kc + m2) + m3 ≤ mc ∧ (ks + n2) + n3 ≤ ms := ⟨x2, x3⟩
    obtain ⟨v5, rfl, w⟩ := w
    refine r_if_ne X dX5_readWoman_29 (tgt := 34) (by decide) (fun q => ?_) (fun q => ?_)
    · have w := w.1 q
      refine r_aload_n X dX5_readWoman_34 rfl ?_
      obtain ⟨v6, ev6, w⟩ := w
      obtain ⟨fv6, cv6, qv6⟩ := gI_s ev6
      refine r_getf X dX5_readWoman_35 fl_X5_27 cv6 qv6 ?_
      refine r_istore_n X dX5_readWoman_38 (by decide) rfl ?_
      refine r_aload_n X dX5_readWoman_39 rfl ?_
      obtain ⟨fs6, es6, w⟩ := w
      obtain ⟨d6, P6, E6, m6, n6, ct6, w⟩ := w
      obtain ⟨⟨x1, x2, x3⟩, w⟩ := w
      obtain ⟨x4, w⟩ := w
      refine r_callV X (As := []) dX5_readWoman_40 mk_X5_takeToken ⟨ml_X5_54, im_X5_takeToken, se_X5_takeToken⟩ (oF_s es6) (ci_X5).1 rfl rfl rfl (by simp [Value.category]) ⟨x1, by show 60 * (d6 + 1) + 200 ≤ 60 * D + 200; omega⟩ ⟨x2, x3⟩ ct6 x4 (fun _ z => nomatch z) (fun _ => ⟨x2, x3⟩) (fun v h6 w1 => ?_)
      have w := w v h6 w1
      have hk : ((kc + m2) + m3) + m6 ≤ mc ∧ ((ks + n2) + n3) + n6 ≤ ms := ⟨x2, x3⟩
      obtain ⟨rfl, w⟩ := w
      refine r_aload_n X dX5_readWoman_43 rfl ?_
      obtain ⟨fs7, es7, w⟩ := w
      obtain ⟨d7, P7, E7, m7, n7, ct7, w⟩ := w
      obtain ⟨⟨x1, x2, x3⟩, w⟩ := w
      obtain ⟨x4, w⟩ := w
      refine r_callV X (As := []) dX5_readWoman_44 mk_X5_isStretchTold ⟨ml_X5_149, im_X5_isStretchTold, se_X5_isStretchTold⟩ (oF_s es7) (ci_X5).1 rfl rfl rfl (by simp [Value.category]) ⟨x1, by show 60 * (d7 + 1) + 200 ≤ 60 * D + 200; omega⟩ ⟨x2, x3⟩ ct7 x4 (fun _ z => nomatch z) (fun _ => ⟨x2, x3⟩) (fun v h7 w1 => ?_)
      have w := w v h7 w1
      have hk : (((kc + m2) + m3) + m6) + m7 ≤ mc ∧ (((ks + n2) + n3) + n6) + n7 ≤ ms := ⟨x2, x3⟩
      obtain ⟨v9, rfl, w⟩ := w
      refine r_if_ne X dX5_readWoman_47 (tgt := 52) (by decide) (fun q => ?_) (fun q => ?_)
      · have w := w.1 q
        refine r_aload_n X dX5_readWoman_52 rfl ?_
        obtain ⟨v10, ev10, w⟩ := w
        obtain ⟨fv10, cv10, qv10⟩ := gI_s ev10
        refine r_getf X dX5_readWoman_53 fl_X5_27 cv10 qv10 ?_
        refine r_istore_n X dX5_readWoman_56 (by decide) rfl ?_
        refine r_aload_n X dX5_readWoman_57 rfl ?_
        obtain ⟨fs10, es10, w⟩ := w
        obtain ⟨d10, P10, E10, m10, n10, ct10, w⟩ := w
        obtain ⟨⟨x1, x2, x3⟩, w⟩ := w
        obtain ⟨x4, w⟩ := w
        refine r_callV X (As := []) dX5_readWoman_58 mk_X5_takeToken ⟨ml_X5_54, im_X5_takeToken, se_X5_takeToken⟩ (oF_s es10) (ci_X5).1 rfl rfl rfl (by simp [Value.category]) ⟨x1, by show 60 * (d10 + 1) + 200 ≤ 60 * D + 200; omega⟩ ⟨x2, x3⟩ ct10 x4 (fun _ z => nomatch z) (fun _ => ⟨x2, x3⟩) (fun v h10 w1 => ?_)
        have w := w v h10 w1
        have hk : ((((kc + m2) + m3) + m6) + m7) + m10 ≤ mc ∧ ((((ks + n2) + n3) + n6) + n7) + n10 ≤ ms := ⟨x2, x3⟩
        obtain ⟨rfl, w⟩ := w
        refine r_aload_n X dX5_readWoman_61 rfl ?_
        refine r_iconst X dX5_readWoman_62 (v := 0) (by decide) ?_
        refine r_bipush X dX5_readWoman_63 (v := 99) (by decide) ?_
        obtain ⟨fs11, es11, w⟩ := w
        obtain ⟨d11, P11, E11, m11, n11, ct11, w⟩ := w
        obtain ⟨⟨x1, x2, x3⟩, w⟩ := w
        obtain ⟨x4, w⟩ := w
        refine r_callV X (As := [.int ((0 : Int32)), .int ((99 : Int32))]) dX5_readWoman_65 mk_X5_isNumber ⟨ml_X5_133, im_X5_isNumber, se_X5_isNumber⟩ (oF_s es11) (ci_X5).1 rfl rfl rfl (by simp [Value.category]) ⟨x1, by show 60 * (d11 + 1) + 200 ≤ 60 * D + 200; omega⟩ ⟨x2, x3⟩ ct11 x4 (fun _ z => nomatch z) (fun _ => ⟨x2, x3⟩) (fun v h11 w1 => ?_)
        have w := w v h11 w1
        have hk : (((((kc + m2) + m3) + m6) + m7) + m10) + m11 ≤ mc ∧ (((((ks + n2) + n3) + n6) + n7) + n10) + n11 ≤ ms := ⟨x2, x3⟩
        obtain ⟨v13, rfl, w⟩ := w
        refine r_if_ne X dX5_readWoman_68 (tgt := 73) (by decide) (fun q => ?_) (fun q => ?_)
        · have w := w.1 q
          refine r_aload_n X dX5_readWoman_73 rfl ?_
          obtain ⟨v14, ev14, w⟩ := w
          obtain ⟨fv14, cv14, qv14⟩ := gN_s ev14
          refine r_getf X dX5_readWoman_74 fl_X5_46 cv14 qv14 ?_
          obtain ⟨v15, ev15, w⟩ := w
          obtain ⟨fv15, cv15, qv15⟩ := gN_s ev15
          refine r_getf X dX5_readWoman_77 fl_X5_152 cv15 qv15 ?_
          refine r_aload_n X dX5_readWoman_80 rfl ?_
          obtain ⟨v16, ev16, w⟩ := w
          obtain ⟨fv16, cv16, qv16⟩ := gN_s ev16
          refine r_getf X dX5_readWoman_81 fl_X5_46 cv16 qv16 ?_
          obtain ⟨v17, ev17, w⟩ := w
          obtain ⟨fv17, cv17, qv17⟩ := gI_s ev17
          refine r_getf X dX5_readWoman_84 fl_X5_146 cv17 qv17 ?_
          refine r_iload_n X dX5_readWoman_87 rfl ?_
          obtain ⟨h18, eh18, w⟩ := w
          obtain ⟨nh18, fh18, ch18, ih18, rh18⟩ := uI_s eh18
          subst rh18
          refine r_iast X dX5_readWoman_88 ch18 ih18 ?_
          refine r_aload_n X dX5_readWoman_89 rfl ?_
          obtain ⟨v19, ev19, w⟩ := w
          obtain ⟨fv19, cv19, qv19⟩ := gN_s ev19
          refine r_getf X dX5_readWoman_90 fl_X5_50 cv19 qv19 ?_
          refine r_aload_n X dX5_readWoman_93 rfl ?_
          obtain ⟨v20, ev20, w⟩ := w
          obtain ⟨fv20, cv20, qv20⟩ := gN_s ev20
          refine r_getf X dX5_readWoman_94 fl_X5_46 cv20 qv20 ?_
          obtain ⟨v21, ev21, w⟩ := w
          obtain ⟨fv21, cv21, qv21⟩ := gI_s ev21
          refine r_getf X dX5_readWoman_97 fl_X5_146 cv21 qv21 ?_
          refine r_iload_n X dX5_readWoman_100 rfl ?_
          refine r_aload_n X dX5_readWoman_101 rfl ?_
          obtain ⟨v22, ev22, w⟩ := w
          obtain ⟨fv22, cv22, qv22⟩ := gI_s ev22
          refine r_getf X dX5_readWoman_102 fl_X5_27 cv22 qv22 ?_
          obtain ⟨fs22, es22, w⟩ := w
          obtain ⟨d22, P22, E22, m22, n22, ct22, w⟩ := w
          obtain ⟨⟨x1, x2, x3⟩, w⟩ := w
          obtain ⟨x4, w⟩ := w
          refine r_callV X (As := [.int v21, .int v10, .int v22]) dX5_readWoman_105 mk_X2_putWoman ⟨ml_X5_156, im_X2_putWoman, se_X2_putWoman⟩ (oF_s es22) (ci_X2).1 rfl rfl rfl (by simp [Value.category]) ⟨x1, by show 60 * (d22 + 1) + 200 ≤ 60 * D + 200; omega⟩ ⟨x2, x3⟩ ct22 x4 (fun _ z => nomatch z) (fun _ => ⟨x2, x3⟩) (fun v h22 w1 => ?_)
          have w := w v h22 w1
          have hk : ((((((kc + m2) + m3) + m6) + m7) + m10) + m11) + m22 ≤ mc ∧ ((((((ks + n2) + n3) + n6) + n7) + n10) + n11) + n22 ≤ ms := ⟨x2, x3⟩
          obtain ⟨rfl, w⟩ := w
          refine r_aload_n X dX5_readWoman_108 rfl ?_
          obtain ⟨v24, ev24, w⟩ := w
          obtain ⟨fv24, cv24, qv24⟩ := gN_s ev24
          refine r_getf X dX5_readWoman_109 fl_X5_46 cv24 qv24 ?_
          refine r_dup X dX5_readWoman_112 rfl ?_
          obtain ⟨v25, ev25, w⟩ := w
          obtain ⟨fv25, cv25, qv25⟩ := gI_s ev25
          refine r_getf X dX5_readWoman_113 fl_X5_146 cv25 qv25 ?_
          refine r_iconst X dX5_readWoman_116 (v := 1) (by decide) ?_
          refine r_iadd X dX5_readWoman_117 ?_
          obtain ⟨h26, eh26, w⟩ := w
          obtain ⟨fh26, ch26, lh26, rh26⟩ := pF_s eh26
          subst rh26
          refine r_putf X dX5_readWoman_118 fw_X5_146 ch26 lh26 rfl rfl ?_
          refine r_aload_n X dX5_readWoman_121 rfl ?_
          obtain ⟨fs26, es26, w⟩ := w
          obtain ⟨d26, P26, E26, m26, n26, ct26, w⟩ := w
          obtain ⟨⟨x1, x2, x3⟩, w⟩ := w
          obtain ⟨x4, w⟩ := w
          refine r_callV X (As := []) dX5_readWoman_122 mk_X5_takeToken ⟨ml_X5_54, im_X5_takeToken, se_X5_takeToken⟩ (oF_s es26) (ci_X5).1 rfl rfl rfl (by simp [Value.category]) ⟨x1, by show 60 * (d26 + 1) + 200 ≤ 60 * D + 200; omega⟩ ⟨x2, x3⟩ ct26 x4 (fun _ z => nomatch z) (fun _ => ⟨x2, x3⟩) (fun v h26 w1 => ?_)
          have w := w v h26 w1
          have hk : (((((((kc + m2) + m3) + m6) + m7) + m10) + m11) + m22) + m26 ≤ mc ∧ (((((((ks + n2) + n3) + n6) + n7) + n10) + n11) + n22) + n26 ≤ ms := ⟨x2, x3⟩
          obtain ⟨rfl, w⟩ := w
          refine r_aload_n X dX5_readWoman_125 rfl ?_
          refine r_bipush X dX5_readWoman_126 (v := 59) (by decide) ?_
          obtain ⟨fs27, es27, w⟩ := w
          obtain ⟨d27, P27, E27, m27, n27, ct27, w⟩ := w
          obtain ⟨⟨x1, x2, x3⟩, w⟩ := w
          obtain ⟨x4, w⟩ := w
          refine r_callV X (As := [.int ((59 : Int32))]) dX5_readWoman_128 mk_X5_passSign ⟨ml_X5_143, im_X5_passSign, se_X5_passSign⟩ (oF_s es27) (ci_X5).1 rfl rfl rfl (by simp [Value.category]) ⟨x1, by show 60 * (d27 + 1) + 200 ≤ 60 * D + 200; omega⟩ ⟨x2, x3⟩ ct27 x4 (fun _ z => nomatch z) (fun _ => ⟨x2, x3⟩) (fun v h27 w1 => ?_)
          have w := w v h27 w1
          have hk : ((((((((kc + m2) + m3) + m6) + m7) + m10) + m11) + m22) + m26) + m27 ≤ mc ∧ ((((((((ks + n2) + n3) + n6) + n7) + n10) + n11) + n22) + n26) + n27 ≤ ms := ⟨x2, x3⟩
          obtain ⟨v29, rfl, w⟩ := w
          exact r_zret X dX5_readWoman_131 rfl (isB_n w.1) w.2 hk.1 hk.2
        · have w := w.2 q
          refine r_iconst X dX5_readWoman_71 (v := 0) (by decide) ?_
          exact r_zret X dX5_readWoman_72 rfl (isB_n w.1) w.2 hk.1 hk.2
      · have w := w.2 q
        refine r_iconst X dX5_readWoman_50 (v := 0) (by decide) ?_
        exact r_zret X dX5_readWoman_51 rfl (isB_n w.1) w.2 hk.1 hk.2
    · have w := w.2 q
      refine r_iconst X dX5_readWoman_32 (v := 0) (by decide) ?_
      exact r_zret X dX5_readWoman_33 rfl (isB_n w.1) w.2 hk.1 hk.2
  · have w := w.2 q
    refine r_aload_n X dX5_readWoman_12 rfl ?_
    refine r_iconst X dX5_readWoman_13 (v := 2) (by decide) ?_
    obtain ⟨fs29, es29, w⟩ := w
    obtain ⟨d29, P29, E29, m29, n29, ct29, w⟩ := w
    obtain ⟨⟨x1, x2, x3⟩, w⟩ := w
    obtain ⟨x4, w⟩ := w
    refine r_callV X (As := [.int ((2 : Int32))]) dX5_readWoman_14 mk_X5_fail ⟨ml_X5_78, im_X5_fail, se_X5_fail⟩ (oF_s es29) (ci_X5).1 rfl rfl rfl (by simp [Value.category]) ⟨x1, by show 60 * (d29 + 1) + 200 ≤ 60 * D + 200; omega⟩ ⟨x2, x3⟩ ct29 x4 (fun _ z => nomatch z) (fun _ => ⟨x2, x3⟩) (fun v h29 w1 => ?_)
    have w := w v h29 w1
    have hk : kc + m29 ≤ mc ∧ ks + n29 ≤ ms := ⟨x2, x3⟩
    obtain ⟨v31, rfl, w⟩ := w
    exact r_zret X dX5_readWoman_17 rfl (isB_n w.1) w.2 hk.1 hk.2

set_option maxRecDepth 10000 in
theorem b_X5_takeToken_0 {g : GG} {K : KX} {D mc ms : Nat} {Pr : Option Value → Hp → Prop} {Pt : String → Hp → Prop} {kc ks : Nat} (hg : GOK g) (hD : 8 ≤ D) (hk : kc ≤ mc ∧ ks ≤ ms) (X : CB g K cX5_takeToken 2 yX5_takeToken none []) (l0 : Nat) (h : Hp)
    (w : (∃ v1, gI h l0 5 6 = some v1 ∧ (∃ h2, pF h l0 5 8 (.int v1) = some h2 ∧ (∃ v3, gI h2 l0 5 6 = some v3 ∧ VB g K 2 D mc ms Pr Pt kc ks 13 [some (.ref l0), some (.int v3)] [] h2)))) : VB g K 2 D mc ms Pr Pt kc ks 0 [some (.ref l0), none] [] h := by
  obtain ⟨p, e, s, m, args, below, meth, c⟩ := K
  have X : CX g p s m args meth c cX5_takeToken 2 yX5_takeToken none [] := X
  have hz := hg s X.gk.z
  show VV g p e (rmm D mc ms) s m args below meth c 2 (QQ g below args s mc ms Pr Pt) kc ks 0 [some (.ref l0), none] [] h
  refine r_aload_n X dX5_takeToken_0 rfl ?_
  refine r_aload_n X dX5_takeToken_1 rfl ?_
  obtain ⟨v1, ev1, w⟩ := w
  obtain ⟨fv1, cv1, qv1⟩ := gI_s ev1
  refine r_getf X dX5_takeToken_2 fl_X5_18 cv1 qv1 ?_
  obtain ⟨h2, eh2, w⟩ := w
  obtain ⟨fh2, ch2, lh2, rh2⟩ := pF_s eh2
  subst rh2
  refine r_putf X dX5_takeToken_5 fw_X5_24 ch2 lh2 rfl rfl ?_
  refine r_aload_n X dX5_takeToken_8 rfl ?_
  obtain ⟨v3, ev3, w⟩ := w
  obtain ⟨fv3, cv3, qv3⟩ := gI_s ev3
  refine r_getf X dX5_takeToken_9 fl_X5_18 cv3 qv3 ?_
  refine r_istore_n X dX5_takeToken_12 (by decide) rfl ?_
  refine VB_wk (ls' := [some (.ref l0), some (.int v3)]) ?_ w
  exact (And.intro rfl (And.intro rfl trivial))

set_option maxRecDepth 10000 in
theorem b_X5_takeToken_13 {g : GG} {K : KX} {D mc ms : Nat} {Pr : Option Value → Hp → Prop} {Pt : String → Hp → Prop} {kc ks : Nat} (hg : GOK g) (hD : 8 ≤ D) (hk : kc ≤ mc ∧ ks ≤ ms) (X : CB g K cX5_takeToken 2 yX5_takeToken none []) (l0 : Nat) (l1 : Int32) (h : Hp)
    (w : (∃ v1, gI h l0 5 3 = some v1 ∧ ((v1 ≤ l1 → VB g K 2 D mc ms Pr Pt kc ks 43 [some (.ref l0), none] [] h) ∧ (¬ v1 ≤ l1 → (∃ fs1, oF h l0 5 = some fs1 ∧ (∃ d1 P1 E1 m1 n1, CT g d1 yX5_kindAt (wsC yX5_kindAt cX5_kindAt 3 (some (.int))) [.ref l0, .int l1] h m1 n1 P1 E1 ∧ (d1 + 1 ≤ D ∧ kc + m1 ≤ mc ∧ ks + n1 ≤ ms) ∧ (∀ E h', E1 E h' → Pt E h') ∧ (∀ v h1, P1 v h1 → ∃ v3, v = some (.int v3) ∧ ((¬ v3 = (4 : Int32) → VB g K 2 D mc ms Pr Pt ((kc + m1)) ((ks + n1)) 43 [some (.ref l0), none] [] h1) ∧ (v3 = (4 : Int32) → (∃ h4, pF h1 l0 5 8 (.int ((l1 + (1 : Int32)))) = some h4 ∧ VB g K 2 D mc ms Pr Pt ((kc + m1)) ((ks + n1)) 13 [some (.ref l0), some (.int ((l1 + 1)))] [] h4)))))))))) : VB g K 2 D mc ms Pr Pt kc ks 13 [some (.ref l0), some (.int l1)] [] h := by
  obtain ⟨p, e, s, m, args, below, meth, c⟩ := K
  have X : CX g p s m args meth c cX5_takeToken 2 yX5_takeToken none [] := X
  have hz := hg s X.gk.z
  show VV g p e (rmm D mc ms) s m args below meth c 2 (QQ g below args s mc ms Pr Pt) kc ks 13 [some (.ref l0), some (.int l1)] [] h
  refine r_iload_n X dX5_takeToken_13 rfl ?_
  refine r_aload_n X dX5_takeToken_14 rfl ?_
  obtain ⟨v1, ev1, w⟩ := w
  obtain ⟨fv1, cv1, qv1⟩ := gI_s ev1
  refine r_getf X dX5_takeToken_15 fl_X5_43 cv1 qv1 ?_
  refine r_icmp_ge X dX5_takeToken_18 (tgt := 43) (by decide) (fun q => ?_) (fun q => ?_)
  · have w := w.1 q
    refine VB_wk (ls' := [some (.ref l0), none]) ?_ w
    exact (And.intro rfl trivial)
  · have w := w.2 q
    refine r_aload_n X dX5_takeToken_21 rfl ?_
    refine r_iload_n X dX5_takeToken_22 rfl ?_
    obtain ⟨fs1, es1, w⟩ := w
    obtain ⟨d1, P1, E1, m1, n1, ct1, w⟩ := w
    obtain ⟨⟨x1, x2, x3⟩, w⟩ := w
    obtain ⟨x4, w⟩ := w
    refine r_callV X (As := [.int l1]) dX5_takeToken_23 mk_X5_kindAt ⟨ml_X5_61, im_X5_kindAt, se_X5_kindAt⟩ (oF_s es1) (ci_X5).1 rfl rfl rfl (by simp [Value.category]) ⟨x1, by show 60 * (d1 + 1) + 200 ≤ 60 * D + 200; omega⟩ ⟨x2, x3⟩ ct1 x4 (fun _ z => nomatch z) (fun _ => ⟨x2, x3⟩) (fun v h1 w1 => ?_)
    have w := w v h1 w1
    have hk : kc + m1 ≤ mc ∧ ks + n1 ≤ ms := ⟨x2, x3⟩
    obtain ⟨v3, rfl, w⟩ := w
    refine r_iconst X dX5_takeToken_26 (v := 4) (by decide) ?_
    refine r_icmp_ne X dX5_takeToken_27 (tgt := 43) (by decide) (fun q => ?_) (fun q => ?_)
    · have w := w.1 q
      refine VB_wk (ls' := [some (.ref l0), none]) ?_ w
      exact (And.intro rfl trivial)
    · have w := w.2 q
      refine r_aload_n X dX5_takeToken_30 rfl ?_
      refine r_iload_n X dX5_takeToken_31 rfl ?_
      refine r_iconst X dX5_takeToken_32 (v := 1) (by decide) ?_
      refine r_iadd X dX5_takeToken_33 ?_
      obtain ⟨h4, eh4, w⟩ := w
      obtain ⟨fh4, ch4, lh4, rh4⟩ := pF_s eh4
      subst rh4
      refine r_putf X dX5_takeToken_34 fw_X5_24 ch4 lh4 rfl rfl ?_
      refine r_iinc X dX5_takeToken_37 rfl (v := (l1 + 1)) rfl (by decide) rfl ?_
      refine r_goto X dX5_takeToken_40 (tgt := 13) (by decide) ?_
      refine VB_wk (ls' := [some (.ref l0), some (.int ((l1 + 1)))]) ?_ w
      exact (And.intro rfl (And.intro rfl trivial))

set_option maxRecDepth 10000 in
theorem b_X5_takeToken_43 {g : GG} {K : KX} {D mc ms : Nat} {Pr : Option Value → Hp → Prop} {Pt : String → Hp → Prop} {kc ks : Nat} (hg : GOK g) (hD : 8 ≤ D) (hk : kc ≤ mc ∧ ks ≤ ms) (X : CB g K cX5_takeToken 2 yX5_takeToken none []) (l0 : Nat) (h : Hp)
    (w : (∃ v1, gI h l0 5 8 = some v1 ∧ (∃ fs1, oF h l0 5 = some fs1 ∧ (∃ d1 P1 E1 m1 n1, CT g d1 yX5_kindAt (wsC yX5_kindAt cX5_kindAt 3 (some (.int))) [.ref l0, .int v1] h m1 n1 P1 E1 ∧ (d1 + 1 ≤ D ∧ kc + m1 ≤ mc ∧ ks + n1 ≤ ms) ∧ (∀ E h', E1 E h' → Pt E h') ∧ (∀ v h1, P1 v h1 → ∃ v3, v = some (.int v3) ∧ (∃ h4, pF h1 l0 5 7 (.int v3) = some h4 ∧ (∃ v5, gI h4 l0 5 8 = some v5 ∧ (∃ v6, gI h4 l0 5 3 = some v6 ∧ (∃ h7, pF h4 l0 5 6 (.int ((if v6 < (v5 + (1 : Int32)) then v6 else (v5 + (1 : Int32))))) = some h7 ∧ (∃ v8, gI h7 l0 5 7 = some v8 ∧ ((v8 = (1 : Int32) → VB g K 2 D mc ms Pr Pt ((kc + m1)) ((ks + n1)) 88 [some (.ref l0), none] [] h7) ∧ (¬ v8 = (1 : Int32) → (∃ v9, gI h7 l0 5 7 = some v9 ∧ ((¬ v9 = (2 : Int32) → VB g K 2 D mc ms Pr Pt ((kc + m1)) ((ks + n1)) 126 [some (.ref l0), none] [] h7) ∧ (v9 = (2 : Int32) → VB g K 2 D mc ms Pr Pt ((kc + m1)) ((ks + n1)) 88 [some (.ref l0), none] [] h7))))))))))))))) : VB g K 2 D mc ms Pr Pt kc ks 43 [some (.ref l0), none] [] h := by
  obtain ⟨p, e, s, m, args, below, meth, c⟩ := K
  have X : CX g p s m args meth c cX5_takeToken 2 yX5_takeToken none [] := X
  have hz := hg s X.gk.z
  show VV g p e (rmm D mc ms) s m args below meth c 2 (QQ g below args s mc ms Pr Pt) kc ks 43 [some (.ref l0), none] [] h
  refine r_aload_n X dX5_takeToken_43 rfl ?_
  refine r_aload_n X dX5_takeToken_44 rfl ?_
  refine r_aload_n X dX5_takeToken_45 rfl ?_
  obtain ⟨v1, ev1, w⟩ := w
  obtain ⟨fv1, cv1, qv1⟩ := gI_s ev1
  refine r_getf X dX5_takeToken_46 fl_X5_24 cv1 qv1 ?_
  obtain ⟨fs1, es1, w⟩ := w
  obtain ⟨d1, P1, E1, m1, n1, ct1, w⟩ := w
  obtain ⟨⟨x1, x2, x3⟩, w⟩ := w
  obtain ⟨x4, w⟩ := w
  refine r_callV X (As := [.int v1]) dX5_takeToken_49 mk_X5_kindAt ⟨ml_X5_61, im_X5_kindAt, se_X5_kindAt⟩ (oF_s es1) (ci_X5).1 rfl rfl rfl (by simp [Value.category]) ⟨x1, by show 60 * (d1 + 1) + 200 ≤ 60 * D + 200; omega⟩ ⟨x2, x3⟩ ct1 x4 (fun _ z => nomatch z) (fun _ => ⟨x2, x3⟩) (fun v h1 w1 => ?_)
  have w := w v h1 w1
  have hk : kc + m1 ≤ mc ∧ ks + n1 ≤ ms := ⟨x2, x3⟩
  obtain ⟨v3, rfl, w⟩ := w
  obtain ⟨h4, eh4, w⟩ := w
  obtain ⟨fh4, ch4, lh4, rh4⟩ := pF_s eh4
  subst rh4
  refine r_putf X dX5_takeToken_52 fw_X5_21 ch4 lh4 rfl rfl ?_
  refine r_aload_n X dX5_takeToken_55 rfl ?_
  refine r_aload_n X dX5_takeToken_56 rfl ?_
  obtain ⟨v5, ev5, w⟩ := w
  obtain ⟨fv5, cv5, qv5⟩ := gI_s ev5
  refine r_getf X dX5_takeToken_57 fl_X5_24 cv5 qv5 ?_
  refine r_iconst X dX5_takeToken_60 (v := 1) (by decide) ?_
  refine r_iadd X dX5_takeToken_61 ?_
  refine r_aload_n X dX5_takeToken_62 rfl ?_
  obtain ⟨v6, ev6, w⟩ := w
  obtain ⟨fv6, cv6, qv6⟩ := gI_s ev6
  refine r_getf X dX5_takeToken_63 fl_X5_43 cv6 qv6 ?_
  refine r_mmin X dX5_takeToken_66 ma_X5_37 (by refine ⟨?_, ?_, ?_, ?_⟩ <;> simp [rmm, Value.category] <;> omega) ?_
  obtain ⟨h7, eh7, w⟩ := w
  obtain ⟨fh7, ch7, lh7, rh7⟩ := pF_s eh7
  subst rh7
  refine r_putf X dX5_takeToken_69 fw_X5_18 ch7 lh7 rfl rfl ?_
  refine r_aload_n X dX5_takeToken_72 rfl ?_
  obtain ⟨v8, ev8, w⟩ := w
  obtain ⟨fv8, cv8, qv8⟩ := gI_s ev8
  refine r_getf X dX5_takeToken_73 fl_X5_21 cv8 qv8 ?_
  refine r_iconst X dX5_takeToken_76 (v := 1) (by decide) ?_
  refine r_icmp_eq X dX5_takeToken_77 (tgt := 88) (by decide) (fun q => ?_) (fun q => ?_)
  · have w := w.1 q
    refine VB_wk (ls' := [some (.ref l0), none]) ?_ w
    exact (And.intro rfl trivial)
  · have w := w.2 q
    refine r_aload_n X dX5_takeToken_80 rfl ?_
    obtain ⟨v9, ev9, w⟩ := w
    obtain ⟨fv9, cv9, qv9⟩ := gI_s ev9
    refine r_getf X dX5_takeToken_81 fl_X5_21 cv9 qv9 ?_
    refine r_iconst X dX5_takeToken_84 (v := 2) (by decide) ?_
    refine r_icmp_ne X dX5_takeToken_85 (tgt := 126) (by decide) (fun q => ?_) (fun q => ?_)
    · have w := w.1 q
      refine VB_wk (ls' := [some (.ref l0), none]) ?_ w
      exact (And.intro rfl trivial)
    · have w := w.2 q
      refine VB_wk (ls' := [some (.ref l0), none]) ?_ w
      exact (And.intro rfl trivial)

set_option maxRecDepth 10000 in
theorem b_X5_takeToken_88 {g : GG} {K : KX} {D mc ms : Nat} {Pr : Option Value → Hp → Prop} {Pt : String → Hp → Prop} {kc ks : Nat} (hg : GOK g) (hD : 8 ≤ D) (hk : kc ≤ mc ∧ ks ≤ ms) (X : CB g K cX5_takeToken 2 yX5_takeToken none []) (l0 : Nat) (h : Hp)
    (w : (∃ v1, gI h l0 5 6 = some v1 ∧ VB g K 2 D mc ms Pr Pt kc ks 93 [some (.ref l0), some (.int v1)] [] h)) : VB g K 2 D mc ms Pr Pt kc ks 88 [some (.ref l0), none] [] h := by
  obtain ⟨p, e, s, m, args, below, meth, c⟩ := K
  have X : CX g p s m args meth c cX5_takeToken 2 yX5_takeToken none [] := X
  have hz := hg s X.gk.z
  show VV g p e (rmm D mc ms) s m args below meth c 2 (QQ g below args s mc ms Pr Pt) kc ks 88 [some (.ref l0), none] [] h
  refine r_aload_n X dX5_takeToken_88 rfl ?_
  obtain ⟨v1, ev1, w⟩ := w
  obtain ⟨fv1, cv1, qv1⟩ := gI_s ev1
  refine r_getf X dX5_takeToken_89 fl_X5_18 cv1 qv1 ?_
  refine r_istore_n X dX5_takeToken_92 (by decide) rfl ?_
  refine VB_wk (ls' := [some (.ref l0), some (.int v1)]) ?_ w
  exact (And.intro rfl (And.intro rfl trivial))

set_option maxRecDepth 10000 in
theorem b_X5_takeToken_93 {g : GG} {K : KX} {D mc ms : Nat} {Pr : Option Value → Hp → Prop} {Pt : String → Hp → Prop} {kc ks : Nat} (hg : GOK g) (hD : 8 ≤ D) (hk : kc ≤ mc ∧ ks ≤ ms) (X : CB g K cX5_takeToken 2 yX5_takeToken none []) (l0 : Nat) (l1 : Int32) (h : Hp)
    (w : (∃ v1, gI h l0 5 3 = some v1 ∧ ((v1 ≤ l1 → VB g K 2 D mc ms Pr Pt kc ks 126 [some (.ref l0), none] [] h) ∧ (¬ v1 ≤ l1 → (∃ fs1, oF h l0 5 = some fs1 ∧ (∃ d1 P1 E1 m1 n1, CT g d1 yX5_kindAt (wsC yX5_kindAt cX5_kindAt 3 (some (.int))) [.ref l0, .int l1] h m1 n1 P1 E1 ∧ (d1 + 1 ≤ D ∧ kc + m1 ≤ mc ∧ ks + n1 ≤ ms) ∧ (∀ E h', E1 E h' → Pt E h') ∧ (∀ v h1, P1 v h1 → ∃ v3, v = some (.int v3) ∧ (∃ v4, gI h1 l0 5 7 = some v4 ∧ ((¬ v3 = v4 → VB g K 2 D mc ms Pr Pt ((kc + m1)) ((ks + n1)) 126 [some (.ref l0), none] [] h1) ∧ (v3 = v4 → (∃ h5, pF h1 l0 5 6 (.int ((l1 + (1 : Int32)))) = some h5 ∧ VB g K 2 D mc ms Pr Pt ((kc + m1)) ((ks + n1)) 93 [some (.ref l0), some (.int ((l1 + 1)))] [] h5))))))))))) : VB g K 2 D mc ms Pr Pt kc ks 93 [some (.ref l0), some (.int l1)] [] h := by
  obtain ⟨p, e, s, m, args, below, meth, c⟩ := K
  have X : CX g p s m args meth c cX5_takeToken 2 yX5_takeToken none [] := X
  have hz := hg s X.gk.z
  show VV g p e (rmm D mc ms) s m args below meth c 2 (QQ g below args s mc ms Pr Pt) kc ks 93 [some (.ref l0), some (.int l1)] [] h
  refine r_iload_n X dX5_takeToken_93 rfl ?_
  refine r_aload_n X dX5_takeToken_94 rfl ?_
  obtain ⟨v1, ev1, w⟩ := w
  obtain ⟨fv1, cv1, qv1⟩ := gI_s ev1
  refine r_getf X dX5_takeToken_95 fl_X5_43 cv1 qv1 ?_
  refine r_icmp_ge X dX5_takeToken_98 (tgt := 126) (by decide) (fun q => ?_) (fun q => ?_)
  · have w := w.1 q
    refine VB_wk (ls' := [some (.ref l0), none]) ?_ w
    exact (And.intro rfl trivial)
  · have w := w.2 q
    refine r_aload_n X dX5_takeToken_101 rfl ?_
    refine r_iload_n X dX5_takeToken_102 rfl ?_
    obtain ⟨fs1, es1, w⟩ := w
    obtain ⟨d1, P1, E1, m1, n1, ct1, w⟩ := w
    obtain ⟨⟨x1, x2, x3⟩, w⟩ := w
    obtain ⟨x4, w⟩ := w
    refine r_callV X (As := [.int l1]) dX5_takeToken_103 mk_X5_kindAt ⟨ml_X5_61, im_X5_kindAt, se_X5_kindAt⟩ (oF_s es1) (ci_X5).1 rfl rfl rfl (by simp [Value.category]) ⟨x1, by show 60 * (d1 + 1) + 200 ≤ 60 * D + 200; omega⟩ ⟨x2, x3⟩ ct1 x4 (fun _ z => nomatch z) (fun _ => ⟨x2, x3⟩) (fun v h1 w1 => ?_)
    have w := w v h1 w1
    have hk : kc + m1 ≤ mc ∧ ks + n1 ≤ ms := ⟨x2, x3⟩
    obtain ⟨v3, rfl, w⟩ := w
    refine r_aload_n X dX5_takeToken_106 rfl ?_
    obtain ⟨v4, ev4, w⟩ := w
    obtain ⟨fv4, cv4, qv4⟩ := gI_s ev4
    refine r_getf X dX5_takeToken_107 fl_X5_21 cv4 qv4 ?_
    refine r_icmp_ne X dX5_takeToken_110 (tgt := 126) (by decide) (fun q => ?_) (fun q => ?_)
    · have w := w.1 q
      refine VB_wk (ls' := [some (.ref l0), none]) ?_ w
      exact (And.intro rfl trivial)
    · have w := w.2 q
      refine r_aload_n X dX5_takeToken_113 rfl ?_
      refine r_iload_n X dX5_takeToken_114 rfl ?_
      refine r_iconst X dX5_takeToken_115 (v := 1) (by decide) ?_
      refine r_iadd X dX5_takeToken_116 ?_
      obtain ⟨h5, eh5, w⟩ := w
      obtain ⟨fh5, ch5, lh5, rh5⟩ := pF_s eh5
      subst rh5
      refine r_putf X dX5_takeToken_117 fw_X5_18 ch5 lh5 rfl rfl ?_
      refine r_iinc X dX5_takeToken_120 rfl (v := (l1 + 1)) rfl (by decide) rfl ?_
      refine r_goto X dX5_takeToken_123 (tgt := 93) (by decide) ?_
      refine VB_wk (ls' := [some (.ref l0), some (.int ((l1 + 1)))]) ?_ w
      exact (And.intro rfl (And.intro rfl trivial))

set_option maxRecDepth 10000 in
theorem b_X5_takeToken_126 {g : GG} {K : KX} {D mc ms : Nat} {Pr : Option Value → Hp → Prop} {Pt : String → Hp → Prop} {kc ks : Nat} (hg : GOK g) (hD : 8 ≤ D) (hk : kc ≤ mc ∧ ks ≤ ms) (X : CB g K cX5_takeToken 2 yX5_takeToken none []) (l0 : Nat) (h : Hp)
    (w : (∃ v1, gI h l0 5 7 = some v1 ∧ ((¬ v1 = (2 : Int32) → Pr none h) ∧ (v1 = (2 : Int32) → (∃ fs1, oF h l0 5 = some fs1 ∧ (∃ d1 P1 E1 m1 n1, CT g d1 yX5_weighNumber (wsC yX5_weighNumber cX5_weighNumber 2 none) [.ref l0] h m1 n1 P1 E1 ∧ (d1 + 1 ≤ D ∧ kc + m1 ≤ mc ∧ ks + n1 ≤ ms) ∧ (∀ E h', E1 E h' → Pt E h') ∧ (∀ v h1, P1 v h1 → v = none ∧ Pr none h1))))))) : VB g K 2 D mc ms Pr Pt kc ks 126 [some (.ref l0), none] [] h := by
  obtain ⟨p, e, s, m, args, below, meth, c⟩ := K
  have X : CX g p s m args meth c cX5_takeToken 2 yX5_takeToken none [] := X
  have hz := hg s X.gk.z
  show VV g p e (rmm D mc ms) s m args below meth c 2 (QQ g below args s mc ms Pr Pt) kc ks 126 [some (.ref l0), none] [] h
  refine r_aload_n X dX5_takeToken_126 rfl ?_
  obtain ⟨v1, ev1, w⟩ := w
  obtain ⟨fv1, cv1, qv1⟩ := gI_s ev1
  refine r_getf X dX5_takeToken_127 fl_X5_21 cv1 qv1 ?_
  refine r_iconst X dX5_takeToken_130 (v := 2) (by decide) ?_
  refine r_icmp_ne X dX5_takeToken_131 (tgt := 138) (by decide) (fun q => ?_) (fun q => ?_)
  · have w := w.1 q
    exact r_vret X dX5_takeToken_138 rfl w hk.1 hk.2
  · have w := w.2 q
    refine r_aload_n X dX5_takeToken_134 rfl ?_
    obtain ⟨fs1, es1, w⟩ := w
    obtain ⟨d1, P1, E1, m1, n1, ct1, w⟩ := w
    obtain ⟨⟨x1, x2, x3⟩, w⟩ := w
    obtain ⟨x4, w⟩ := w
    refine r_callV X (As := []) dX5_takeToken_135 mk_X5_weighNumber ⟨ml_X5_65, im_X5_weighNumber, se_X5_weighNumber⟩ (oF_s es1) (ci_X5).1 rfl rfl rfl (by simp [Value.category]) ⟨x1, by show 60 * (d1 + 1) + 200 ≤ 60 * D + 200; omega⟩ ⟨x2, x3⟩ ct1 x4 (fun _ z => nomatch z) (fun _ => ⟨x2, x3⟩) (fun v h1 w1 => ?_)
    have w := w v h1 w1
    have hk : kc + m1 ≤ mc ∧ ks + n1 ≤ ms := ⟨x2, x3⟩
    obtain ⟨rfl, w⟩ := w
    exact r_vret X dX5_takeToken_138 rfl w hk.1 hk.2

set_option maxRecDepth 10000 in
theorem b_X5_weighNumber_0 {g : GG} {K : KX} {D mc ms : Nat} {Pr : Option Value → Hp → Prop} {Pt : String → Hp → Prop} {kc ks : Nat} (hg : GOK g) (hD : 8 ≤ D) (hk : kc ≤ mc ∧ ks ≤ ms) (X : CB g K cX5_weighNumber 2 yX5_weighNumber none []) (l0 : Nat) (h : Hp)
    (w : (∃ v1, gI h l0 5 6 = some v1 ∧ (∃ v2, gI h l0 5 8 = some v2 ∧ (∃ h3, pF h l0 5 10 (.int ((v1 - v2))) = some h3 ∧ (∃ h4, pF h3 l0 5 9 (.int ((0 : Int32))) = some h4 ∧ (∃ v5, gI h4 l0 5 8 = some v5 ∧ VB g K 2 D mc ms Pr Pt kc ks 23 [some (.ref l0), some (.int v5)] [] h4)))))) : VB g K 2 D mc ms Pr Pt kc ks 0 [some (.ref l0), none] [] h := by
  obtain ⟨p, e, s, m, args, below, meth, c⟩ := K
  have X : CX g p s m args meth c cX5_weighNumber 2 yX5_weighNumber none [] := X
  have hz := hg s X.gk.z
  show VV g p e (rmm D mc ms) s m args below meth c 2 (QQ g below args s mc ms Pr Pt) kc ks 0 [some (.ref l0), none] [] h
  refine r_aload_n X dX5_weighNumber_0 rfl ?_
  refine r_aload_n X dX5_weighNumber_1 rfl ?_
  obtain ⟨v1, ev1, w⟩ := w
  obtain ⟨fv1, cv1, qv1⟩ := gI_s ev1
  refine r_getf X dX5_weighNumber_2 fl_X5_18 cv1 qv1 ?_
  refine r_aload_n X dX5_weighNumber_5 rfl ?_
  obtain ⟨v2, ev2, w⟩ := w
  obtain ⟨fv2, cv2, qv2⟩ := gI_s ev2
  refine r_getf X dX5_weighNumber_6 fl_X5_24 cv2 qv2 ?_
  refine r_isub X dX5_weighNumber_9 ?_
  obtain ⟨h3, eh3, w⟩ := w
  obtain ⟨fh3, ch3, lh3, rh3⟩ := pF_s eh3
  subst rh3
  refine r_putf X dX5_weighNumber_10 fw_X5_30 ch3 lh3 rfl rfl ?_
  refine r_aload_n X dX5_weighNumber_13 rfl ?_
  refine r_iconst X dX5_weighNumber_14 (v := 0) (by decide) ?_
  obtain ⟨h4, eh4, w⟩ := w
  obtain ⟨fh4, ch4, lh4, rh4⟩ := pF_s eh4
  subst rh4
  refine r_putf X dX5_weighNumber_15 fw_X5_27 ch4 lh4 rfl rfl ?_
  refine r_aload_n X dX5_weighNumber_18 rfl ?_
  obtain ⟨v5, ev5, w⟩ := w
  obtain ⟨fv5, cv5, qv5⟩ := gI_s ev5
  refine r_getf X dX5_weighNumber_19 fl_X5_24 cv5 qv5 ?_
  refine r_istore_n X dX5_weighNumber_22 (by decide) rfl ?_
  refine VB_wk (ls' := [some (.ref l0), some (.int v5)]) ?_ w
  exact (And.intro rfl (And.intro rfl trivial))

set_option maxRecDepth 10000 in
theorem b_X5_weighNumber_23 {g : GG} {K : KX} {D mc ms : Nat} {Pr : Option Value → Hp → Prop} {Pt : String → Hp → Prop} {kc ks : Nat} (hg : GOK g) (hD : 8 ≤ D) (hk : kc ≤ mc ∧ ks ≤ ms) (X : CB g K cX5_weighNumber 2 yX5_weighNumber none []) (l0 : Nat) (l1 : Int32) (h : Hp)
    (w : (∃ v1, gI h l0 5 6 = some v1 ∧ ((v1 ≤ l1 → Pr none h) ∧ (¬ v1 ≤ l1 → (∃ v2, gI h l0 5 8 = some v2 ∧ (((v2 + (4 : Int32)) ≤ l1 → Pr none h) ∧ (¬ (v2 + (4 : Int32)) ≤ l1 → (∃ v3, gI h l0 5 9 = some v3 ∧ (∃ v4, gN h l0 5 2 = some v4 ∧ (∃ v5, aI h 1 v4 l1 = some v5 ∧ (∃ h6, pF h l0 5 9 (.int (((((10 : Int32) * v3) + v5) - (48 : Int32)))) = some h6 ∧ VB g K 2 D mc ms Pr Pt kc ks 23 [some (.ref l0), some (.int ((l1 + 1)))] [] h6))))))))))) : VB g K 2 D mc ms Pr Pt kc ks 23 [some (.ref l0), some (.int l1)] [] h := by
  obtain ⟨p, e, s, m, args, below, meth, c⟩ := K
  have X : CX g p s m args meth c cX5_weighNumber 2 yX5_weighNumber none [] := X
  have hz := hg s X.gk.z
  show VV g p e (rmm D mc ms) s m args below meth c 2 (QQ g below args s mc ms Pr Pt) kc ks 23 [some (.ref l0), some (.int l1)] [] h
  refine r_iload_n X dX5_weighNumber_23 rfl ?_
  refine r_aload_n X dX5_weighNumber_24 rfl ?_
  obtain ⟨v1, ev1, w⟩ := w
  obtain ⟨fv1, cv1, qv1⟩ := gI_s ev1
  refine r_getf X dX5_weighNumber_25 fl_X5_18 cv1 qv1 ?_
  refine r_icmp_ge X dX5_weighNumber_28 (tgt := 68) (by decide) (fun q => ?_) (fun q => ?_)
  · have w := w.1 q
    exact r_vret X dX5_weighNumber_68 rfl w hk.1 hk.2
  · have w := w.2 q
    refine r_iload_n X dX5_weighNumber_31 rfl ?_
    refine r_aload_n X dX5_weighNumber_32 rfl ?_
    obtain ⟨v2, ev2, w⟩ := w
    obtain ⟨fv2, cv2, qv2⟩ := gI_s ev2
    refine r_getf X dX5_weighNumber_33 fl_X5_24 cv2 qv2 ?_
    refine r_iconst X dX5_weighNumber_36 (v := 4) (by decide) ?_
    refine r_iadd X dX5_weighNumber_37 ?_
    refine r_icmp_ge X dX5_weighNumber_38 (tgt := 68) (by decide) (fun q => ?_) (fun q => ?_)
    · have w := w.1 q
      exact r_vret X dX5_weighNumber_68 rfl w hk.1 hk.2
    · have w := w.2 q
      refine r_aload_n X dX5_weighNumber_41 rfl ?_
      refine r_bipush X dX5_weighNumber_42 (v := 10) (by decide) ?_
      refine r_aload_n X dX5_weighNumber_44 rfl ?_
      obtain ⟨v3, ev3, w⟩ := w
      obtain ⟨fv3, cv3, qv3⟩ := gI_s ev3
      refine r_getf X dX5_weighNumber_45 fl_X5_27 cv3 qv3 ?_
      refine r_imul X dX5_weighNumber_48 ?_
      refine r_aload_n X dX5_weighNumber_49 rfl ?_
      obtain ⟨v4, ev4, w⟩ := w
      obtain ⟨fv4, cv4, qv4⟩ := gN_s ev4
      refine r_getf X dX5_weighNumber_50 fl_X5_33 cv4 qv4 ?_
      refine r_iload_n X dX5_weighNumber_53 rfl ?_
      obtain ⟨v5, ev5, w⟩ := w
      obtain ⟨nv5, fv5, cv5, iv5, qv5⟩ := aI_s ev5
      refine r_bald X dX5_weighNumber_54 cv5 iv5 ?_
      rw [qv5]
      refine r_iadd X dX5_weighNumber_55 ?_
      refine r_bipush X dX5_weighNumber_56 (v := 48) (by decide) ?_
      refine r_isub X dX5_weighNumber_58 ?_
      obtain ⟨h6, eh6, w⟩ := w
      obtain ⟨fh6, ch6, lh6, rh6⟩ := pF_s eh6
      subst rh6
      refine r_putf X dX5_weighNumber_59 fw_X5_27 ch6 lh6 rfl rfl ?_
      refine r_iinc X dX5_weighNumber_62 rfl (v := (l1 + 1)) rfl (by decide) rfl ?_
      refine r_goto X dX5_weighNumber_65 (tgt := 23) (by decide) ?_
      refine VB_wk (ls' := [some (.ref l0), some (.int ((l1 + 1)))]) ?_ w
      exact (And.intro rfl (And.intro rfl trivial))

