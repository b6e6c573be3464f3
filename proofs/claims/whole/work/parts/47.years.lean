/-! HorizonSeam: years -/
section YR
variable {g : GG} {h0 h : Hp} {s : CoreV} {x : ScrV} {d D kc ks mc ms : Nat} {Pt : String → Hp → Prop}
def nxE (z : Int32) : Int32 := z * 1103515245 + 12345
def rnE (z : Int32) : Int32 := (Int32.toUInt32 z >>> (Int32.toUInt32 16 &&& Int32.toUInt32 31)).toInt32 &&& 32767
def drE (z n : Int32) : Int32 := if 1 ≤ n then rnE z - rnE z / n * n else 0
theorem xSd_u (x : ScrV) (z : Int32) : xSd (uxSd x z) = z := rfl
theorem xTr_u (x : ScrV) (z : Int32) : xTr (uxSd x z) = xTr x := rfl
theorem xSd_t (x : ScrV) (z : LandV) : xSd (uxTr x z) = xSd x := rfl
theorem xTr_t (x : ScrV) (z : LandV) : xTr (uxTr x z) = z := rfl
theorem c_draw (hg : GOK g) (hd : 8 ≤ d) (hC : CA h0 h s x) (n : Int32) : CT g d yX11_draw (wsC yX11_draw cX11_draw 2 (some .int)) [.ref 0, .int n] h 0 0 (fun v h2 => ∃ r, v = some (.int r) ∧ r = drE (nxE (xSd x)) n ∧ ∃ x', CA h0 h2 s x' ∧ xSd x' = nxE (xSd x) ∧ xTr x' = xTr x) noT := by
  refine CT_ofB (by decide +kernel) (Nat.le_of_ble_eq_true rfl) rfl fun K X => ?_
  obtain ⟨h2, e2, c2⟩ := hC.w14 (nxE (xSd x))
  refine b_X11_draw_0 hg hd k00 X _ _ _ ⟨_, hC.g14, _, e2, fun y => ⟨_, c2.g14, fun e => by rw [e] at y; exact absurd y (by decide), _, rfl, by rw [drE, if_pos y]; rfl, _, c2, xSd_u _ _, xTr_u _ _⟩, fun y => ⟨_, rfl, by rw [drE, if_neg y], _, c2, xSd_u _ _, xTr_u _ _⟩⟩
theorem rnE_nI (z : Int32) : ∃ m, m < 32768 ∧ rnE z = nI m := by
  unfold rnE
  generalize (Int32.toUInt32 z >>> (Int32.toUInt32 16 &&& Int32.toUInt32 31)).toInt32 = v
  refine ⟨(v.toBitVec &&& 32767#32).toNat, ?_, ?_⟩
  · rw [BitVec.toNat_and]
    have : (32767#32).toNat = 32767 := rfl
    rw [this]
    have := Nat.and_le_right (n := v.toBitVec.toNat) (m := 32767)
    omega
  · apply Int32.toBitVec_inj.mp
    show v.toBitVec &&& (32767 : Int32).toBitVec = BitVec.ofNat 32 _
    rw [BitVec.ofNat_toNat]
    simp
theorem drE_nI (z : Int32) {n : Nat} (h0 : 0 < n) (hn : n < 2 ^ 31) : ∃ m, m < n ∧ drE z (nI n) = nI m := by
  obtain ⟨m, hm, e⟩ := rnE_nI z
  refine ⟨m % n, Nat.mod_lt _ h0, ?_⟩
  have h1 : (1 : Int32) ≤ nI n := nI_le (a := 1) (b := n) (by omega) hn
  rw [drE, if_pos h1, e, nI_rem (by omega) h0 hn]
/-- what befalls in a day of a year: the seed drawn once, the land -/
def bfZ (T : ToldV) (z : Int32) (X : LandV) : Int32 × LandV :=
  if drE z 6 = 0 then (nxE (nxE z), tearL (tN_ T) X (cl (drE (nxE z) (nI (tN_ T)))) (drE (nxE (nxE z)) 20 + 1))
  else if drE z 6 = 1 then (nxE z, addS X (cl (drE (nxE z) (nI (tN_ T)))) 9)
  else if drE z 6 = 2 then (if tW T = 0 then (z, X) else (nxE z, giveL X (cl (drE (nxE z) (nI (tW T)))) 5))
  else (z, X)
def bfG (T : ToldV) (p : Int32 × LandV) : Int32 × LandV := bfZ T (nxE p.1) p.2
theorem bfG_eq (T : ToldV) (z : Int32) (X : LandV) : bfG T (z, X) = bfZ T (nxE z) X := rfl
theorem bfZ_0 {T : ToldV} {z : Int32} {X : LandV} (y : drE z 6 = 0) : bfZ T z X = (nxE (nxE z), tearL (tN_ T) X (cl (drE (nxE z) (nI (tN_ T)))) (drE (nxE (nxE z)) 20 + 1)) := by rw [bfZ, if_pos y]
theorem bfZ_1 {T : ToldV} {z : Int32} {X : LandV} (y0 : ¬ drE z 6 = 0) (y : drE z 6 = 1) : bfZ T z X = (nxE z, addS X (cl (drE (nxE z) (nI (tN_ T)))) 9) := by rw [bfZ, if_neg y0, if_pos y]
theorem bfZ_20 {T : ToldV} {z : Int32} {X : LandV} (y0 : ¬ drE z 6 = 0) (y1 : ¬ drE z 6 = 1) (y : drE z 6 = 2) (w : tW T = 0) : bfZ T z X = (z, X) := by rw [bfZ, if_neg y0, if_neg y1, if_pos y, if_pos w]
theorem bfZ_2 {T : ToldV} {z : Int32} {X : LandV} (y0 : ¬ drE z 6 = 0) (y1 : ¬ drE z 6 = 1) (y : drE z 6 = 2) (w : ¬ tW T = 0) : bfZ T z X = (nxE z, giveL X (cl (drE (nxE z) (nI (tW T)))) 5) := by rw [bfZ, if_neg y0, if_neg y1, if_pos y, if_neg w]
theorem bfZ_n {T : ToldV} {z : Int32} {X : LandV} (y0 : ¬ drE z 6 = 0) (y1 : ¬ drE z 6 = 1) (y2 : ¬ drE z 6 = 2) : bfZ T z X = (z, X) := by rw [bfZ, if_neg y0, if_neg y1, if_neg y2]
theorem AtOK_bf {T : ToldV} {p : Int32 × LandV} (hA : AtOK (tN_ T) (tW T) p.2) : AtOK (tN_ T) (tW T) (bfG T p).2 := by
  obtain ⟨z, X⟩ := p
  rw [bfG_eq]
  unfold bfZ
  split
  · exact AtOK_tear hA
  · split
    · exact hA
    · split
      · split
        · exact hA
        · exact hA
      · exact hA
theorem c_befall {Y : LandV} (hg : GOK g) (hd : 13 ≤ d) (hC : CA h0 h s x) (hI : IS s) (hX : LEs s (xTr x) Y) : CT g d yX11_befall (wsC yX11_befall cX11_befall 4 none) [.ref 0] h 0 0 (fun r h2 => r = none ∧ ∃ x', CA h0 h2 s x' ∧ xSd x' = (bfG (sT s) (xSd x, Y)).1 ∧ LEs s (xTr x') (bfG (sT s) (xSd x, Y)).2) noT := by
  rw [bfG_eq]
  have o1 := hI.1.1.1
  have o2 := hI.1.1.2.1
  have o3 := hI.1.1.2.2
  refine CT_ofB (by decide +kernel) (Nat.le_of_ble_eq_true rfl) rfl fun K X => ?_
  refine b_X11_befall_0 hg (by omega) k00 X _ _ ⟨_, hC.o, use_iP (c_draw (d := d - 1) hg (by omega) hC 6) (by omega) k00 ?_⟩
  rintro r h1 ⟨hr, x1, c1, s1, t1⟩
  have hX1 : LEs s (xTr x1) Y := by rw [t1]; exact hX
  generalize nxE (xSd x) = z1 at *
  rw [hr]
  refine ⟨fun y0 => ⟨fun y1 => ⟨fun y2 => ?_, fun y2 => ⟨_, c1.g6, _, c1.t.g1, fun y3 => ?_, fun y3 => ⟨_, c1.g11, _, c1.g6, _, c1.t.g1, _, c1.o, use_iP (c_draw (d := d - 1) hg (by omega) c1 _) (by omega) k00 ?_⟩⟩⟩, fun y1 => ⟨_, c1.g11, _, c1.g6, _, c1.t.g0, _, c1.o, use_iP (c_draw (d := d - 1) hg (by omega) c1 _) (by omega) k00 ?_⟩⟩, fun y0 => ⟨_, c1.g6, _, c1.t.g0, _, c1.o, use_iP (c_draw (d := d - 1) hg (by omega) c1 _) (by omega) k00 ?_⟩⟩
  · rw [bfZ_n y0 y1 y2]
    exact ⟨rfl, x1, c1, s1, hX1⟩
  · have w0 : tW (sT s) = 0 := by
      have := le_nI (x := tW (sT s)) (y := 0) (by omega) (by omega) y3
      omega
    rw [bfZ_20 y0 y1 y2 w0]
    exact ⟨rfl, x1, c1, s1, hX1⟩
  · have w0 : 0 < tW (sT s) := nle_nI (x := tW (sT s)) (y := 0) (by omega) (by omega) y3
    rw [bfZ_2 y0 y1 y2 (by omega)]
    rintro r2 h2 ⟨hr2, x2, c2, s2, t2⟩
    rw [s1] at hr2 s2
    obtain ⟨m, hm, em⟩ := drE_nI (nxE z1) w0 (by omega)
    have er : r2 = nI m := by rw [hr2]; exact em
    have ec : cl (drE (nxE z1) (nI (tW (sT s)))) = m := by rw [em]; exact nI_clamp (by omega)
    rw [er, ec]
    refine ⟨_, c2.tr.o, use_v (c_giveThread (d := d - 1) hg (by omega) c2.tr (k := m) (by omega) 5) (by omega) k00 ?_⟩
    intro h3 q3
    rw [q3]
    refine ⟨rfl, _, c2.u_tr _, ?_, ?_⟩
    · rw [xSd_t, s2]
    · rw [xTr_t, t2]; exact hX1.give m 5
  · rw [bfZ_1 y0 y1]
    rintro r2 h2 ⟨hr2, x2, c2, s2, t2⟩
    rw [s1] at hr2 s2
    obtain ⟨m, hm, em⟩ := drE_nI (nxE z1) (n := tN_ (sT s)) (by omega) (by omega)
    have er : r2 = nI m := by rw [hr2]; exact em
    have ec : cl (drE (nxE z1) (nI (tN_ (sT s)))) = m := by rw [em]; exact nI_clamp (by omega)
    rw [er, ec]
    refine ⟨_, c2.tr.o, use_v (c_addStrain (d := d - 1) hg (by omega) c2.tr (k := m) (by omega) 9) (by omega) k00 ?_⟩
    intro h3 q3
    rw [q3]
    refine ⟨rfl, _, c2.u_tr _, ?_, ?_⟩
    · rw [xSd_t, s2]
    · rw [xTr_t, t2]; exact hX1.addE m 9
  · rw [bfZ_0 y0]
    rintro r2 h2 ⟨hr2, x2, c2, s2, t2⟩
    rw [s1] at hr2 s2
    refine ⟨_, c2.o, use_iP (c_draw (d := d - 1) hg (by omega) c2 20) (by omega) k00 ?_⟩
    rintro r3 h3 ⟨hr3, x3, c3, s3, t3⟩
    rw [s2] at hr3 s3
    obtain ⟨m, hm, em⟩ := drE_nI (nxE z1) (n := tN_ (sT s)) (by omega) (by omega)
    have er : r2 = nI m := by rw [hr2]; exact em
    have ec : cl (drE (nxE z1) (nI (tN_ (sT s)))) = m := by rw [em]; exact nI_clamp (by omega)
    rw [er, ec, hr3]
    refine ⟨_, c3.g11, _, c3.g6, _, c3.tr.o, use_v (c_tearOff (d := d - 1) hg (by omega) c3.tr c3.t hI.1.1 (by have := tb_or s; omega) (k := m) hm _) (by omega) k00 ?_⟩
    intro h4 q4
    rw [q4]
    refine ⟨rfl, _, c3.u_tr _, ?_, ?_⟩
    · rw [xSd_t, s3]
    · rw [xTr_t, t3, t2]; exact hX1.tear hm _
def yrG (T : ToldV) (_ : Nat) (p : Int32 × LandV) : Int32 × LandV := ((bfG T p).1, dayT T (bfG T p).2)
theorem yrG_eq (T : ToldV) (i : Nat) (p : Int32 × LandV) : yrG T i p = ((bfG T p).1, dayT T (bfG T p).2) := rfl
def yrF (s : CoreV) (z : Int32) (n : Nat) : LandV := (foldN (yrG (sT s)) n 0 (z, sL s)).2
def yrV (s : CoreV) (X : LandV) (v : Int32) : Int32 := if v = 0 then bcE (opnB (sN s) X) else if v = 1 then sumF (lSm X) (sN s) else sumF (lTh X) (sW s)
def m_years (s : CoreV) (z n v : Int32) : Res := if whB v 2 then (if dyB n 0 then .inl (yrV s (yrF s z (cl n)) v, s) else .inr false) else .inr true
theorem x_years (hg : GOK g) (hd : 20 ≤ d) (hC : CA h0 h s x) (hI : IS s) (z n v : Int32) : CT g d yX11_years (wsC yX11_years cX11_years 5 (some .int)) [.ref 0, .int z, .int n, .int v] h 8 64 (PrC h0 (m_years s z n v)) (PtC h0 s (m_years s z n v)) := by
  have o1 := hI.1.1.1
  refine CT_ofB (by decide +kernel) (Nat.le_of_ble_eq_true rfl) rfl fun K X => ?_
  refine b_X11_years_0 hg (by omega) (by omega) X _ _ _ _ _ (st_wh hg (by omega) (by omega) (fun q => ptC hC (by rw [m_years, q]; rfl)) fun q2 => st_dy hg (by omega) (by omega) (fun q => ptC hC (by rw [m_years, q2, q]; rfl)) fun q3 => ?_)
  obtain ⟨en, _, hn⟩ := dyB_k (m := 0) (by decide) q3
  have em : m_years s z n v = .inl (yrV s (yrF s z (cl n)) v, s) := by rw [m_years, if_pos q2, if_pos q3]
  rw [em]
  generalize cl n = m at *
  rw [en]
  generalize hR : yrF s z m = R
  have loop : ∀ (j i : Nat) (h : Hp) (x : ScrV) (Y : LandV), i + j = m → CA h0 h s x → LEs s (xTr x) Y → AtOK (sN s) (sW s) Y → (foldN (yrG (sT s)) j i (xSd x, Y)).2 = R → VB g K 5 d 8 64 (PrC h0 (.inl (yrV s R v, s))) (PtC h0 s (.inl (yrV s R v, s))) 2 12 32 [some (.ref 0), none, some (.int (nI m)), some (.int v), some (.int (nI i))] [] h := by
    intro j
    induction j with
    | zero =>
      intro i h x Y hi hC hX hA he
      have he' : Y = R := he
      rw [← he']
      refine b_X11_years_32 hg (by omega) (by omega) X _ _ _ _ _ ⟨fun _ => ⟨fun y => ?_, fun y => ?_, fun y => ?_⟩, fun q => absurd (nle_nI (by omega) (by omega) q) (by omega)⟩
      · obtain rfl : v = 0 := tI_eq (by rw [y]; rfl)
        refine ⟨_, hC.g11, _, hC.g6, _, hC.tr.o, use_i (c_openBits (d := d - 1) hg (by omega) hC.tr hC.t hI.1.1) (by omega) (by omega) (use_i (c_bitCount (d := d - 1) hg (by omega) _) (by omega) (by omega) (prC hC ?_))⟩
        rw [yrV, if_pos rfl, opnB, ← hX.opn]
        rfl
      · obtain rfl : v = 1 := tI_eq (by rw [y]; rfl)
        refine ⟨_, hC.g11, _, hC.g6, _, hC.tr.o, use_i (c_seamOfAll (d := d - 1) hg (by omega) hC.tr hC.t hI.1.1) (by omega) (by omega) (prC hC ?_)⟩
        rw [yrV, if_neg (by decide), if_pos rfl, ← hX.ssm]
        rfl
      · have v0 : ¬ v = 0 := fun e => y.1 (by rw [e]; rfl)
        have v1 : ¬ v = 1 := fun e => y.2 (by rw [e]; rfl)
        refine ⟨_, hC.g11, _, hC.g6, _, hC.tr.o, use_i (c_threadOfAll (d := d - 1) hg (by omega) hC.tr hC.t hI.1.1) (by omega) (by omega) (prC hC ?_)⟩
        rw [yrV, if_neg v0, if_neg v1, ← hX.sth]
        rfl
    | succ j ih =>
      intro i h x Y hi hC hX hA he
      refine b_X11_years_32 hg (by omega) (by omega) X _ _ _ _ _ ⟨fun q => absurd (le_nI (by omega) (by omega) q) (by omega), fun _ => ⟨_, hC.o, use_v (c_befall (d := d - 1) hg (by omega) hC hI hX) (by omega) (by omega) ?_⟩⟩
      rintro h1 ⟨x1, c1, z1, e1⟩
      refine ⟨_, c1.g11, _, c1.g6, _, c1.tr.o, st_day hg c1 hI.1 e1 (AtOK_bf hA) (by omega) (by omega) fun h2 x2 c2 z2 _ e2 => ?_⟩
      rw [nI_s]
      refine ih (i + 1) h2 x2 _ (by omega) c2 e2 (AtOK_dayT (by omega) (AtOK_bf hA)) ?_
      rw [foldN, yrG_eq] at he
      rw [z2, z1]
      exact he
  refine ⟨_, hC.g11, _, hC.g8, _, hC.m0, _, hC.tr.o, st_copy hg hC (by omega) (by omega) fun h1 x1 c1 _ e1 => ?_⟩
  obtain ⟨h2, q2, c2⟩ := c1.w14 z
  refine ⟨_, q2, loop m 0 h2 _ (sL s) (by omega) c2 (by rw [xTr_u]; exact e1) hI.2.1 ?_⟩
  rw [xSd_u]
  exact hR
end YR
