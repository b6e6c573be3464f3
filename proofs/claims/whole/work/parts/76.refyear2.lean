/-! THE REFERENCE'S public methods: years (one row of the kit's BITS.to-paste) -/
theorem b_ushr (n : Nat) (hn : n < 32) (x : Int32) (i : Nat) : bt ((x.toUInt32 >>> ((nI n).toUInt32 &&& Int32.toUInt32 31)).toInt32) i = bt x (n + i) := by
  have s_u : ∀ n, n < 32 → (((nI n).toUInt32 &&& Int32.toUInt32 31).toBitVec % 32).toNat = n := by decide +kernel
  unfold bt
  show ((x.toUInt32 >>> ((nI n).toUInt32 &&& Int32.toUInt32 31)).toBitVec).getLsbD i = _
  rw [UInt32.toBitVec_shiftRight, BitVec.ushiftRight_eq', s_u n hn, BitVec.getLsbD_ushiftRight]
  rfl
theorem bt_32767 : ∀ i, i < 32 → bt 32767 i = decide (i < 15) := by decide +kernel
theorem rn_eq (z : Int32) : (z >>> ((16 : Int32) &&& 31)) &&& 32767 = rnE z := by
  refine b_ext fun i hi => ?_
  rw [rnE, b_and, b_and, bt_32767 i hi, show (16 : Int32) = nI 16 from rfl, b_sshr 16 (by omega) z hi, b_ushr 16 (by omega) z i]
  by_cases e : i < 15
  · rw [if_pos (by omega)]
  · rw [decide_eq_false e, Bool.and_false, Bool.and_false]
section RYY
variable {g : GG} {h h2 : Hp} {B b d D k kc ks mc ms : Nat} {T : ToldV} {X Y : LandV} {R0 R R' : RefV} {s s' : CoreV} {a : Int32}
theorem d_draw {n : Nat} (hg : GOK g) (hd : 8 ≤ d) (hR : RA h B R) (h0 : 0 < n) (hn : n < 2 ^ 31) : CT g d yX12_draw (wsC yX12_draw cX12_draw 2 (some .int)) [.ref B, .int (nI n)] h 0 0 (fun r h2 => r = some (.int (drE (nxE (ri R 55)) (nI n))) ∧ h2 = pR h B (sI R 55 (nxE (ri R 55)))) noT := by
  refine CT_ofB (by decide +kernel) (Nat.le_of_ble_eq_true rfl) rfl fun K XX => ?_
  have r1 := hR.put (sI R 55 (nxE (ri R 55)))
  refine b_X12_draw_0 hg (by omega) k00 XX _ _ _ ⟨_, hR.i55, _, hR.w55 _, _, r1.i55, nI_ne0 h0 hn, ?_, rfl⟩
  have h1 : (1 : Int32) ≤ nI n := nI_le (a := 1) (b := n) (by omega) hn
  rw [ri_sI, rn_eq, drE, if_pos h1]
theorem LOK.bf {T : ToldV} {z : Int32} (hn : tN_ T ≤ 12) (h0 : 0 < tN_ T) (hw : tW T ≤ 6) (q : LOK (tN_ T) (tW T) X) : LOK (tN_ T) (tW T) (bfZ T z X).2 := by
  obtain ⟨m, m1, m2⟩ := drE_nI (nxE z) (n := tN_ T) h0 (by omega)
  unfold bfZ
  split
  · obtain ⟨c, c1, c2⟩ := drE_nI (nxE (nxE z)) (n := 20) (by omega) (by omega)
    have c2' : drE (nxE (nxE z)) 20 = nI c := c2
    show LOK _ _ (tearL _ _ _ _)
    rw [m2, c2', nI_s, show cl (nI m) = m from nI_clamp (by omega)]
    exact q.tear m1 (by omega)
  · split
    · show LOK _ _ (addS _ _ _)
      rw [m2, show cl (nI m) = m from nI_clamp (by omega)]
      exact q.add (a := 9) m1 (by omega)
    · split
      · split
        · exact q
        · rename_i hz
          obtain ⟨e, e1, e2⟩ := drE_nI (nxE z) (n := tW T) (by omega) (by omega)
          show LOK _ _ (giveL _ _ _)
          rw [e2, show cl (nI e) = e from nI_clamp (by omega)]
          exact q.give (c := 5) e1 (by omega)
      · exact q
theorem ri_sA {R : RefV} {c : Nat} {f : AF} : ri (sA R c f) = ri R := rfl
/-- what befalls -/
theorem d_happens (hg : GOK g) (hd : 12 ≤ d) (hR : RA h B R) (hI : IV s) (hX : TM (sT s) Y R) (hL : LOK (sN s) (sW s) Y) : CT g d yX12_happens (wsC yX12_happens cX12_happens 4 none) [.ref B] h 0 0 (fun r h2 => r = none ∧ ∃ R', h2 = pR h B R' ∧ (TM (sT s) (bfG (sT s) (ri R 55, Y)).2 R' ∧ ri R' 55 = (bfG (sT s) (ri R 55, Y)).1 ∧ QF R R' ∧ ri R' 0 = ri R 0)) noT := by
  have o1 := hI.o1
  have o2 := hI.o2
  have o3 := hI.o3
  have o2' : tN_ (sT s) ≤ 12 := o2
  have o1' : 0 < tN_ (sT s) := by show 0 < sN s; omega
  have o3' : tW (sT s) ≤ 6 := o3
  refine CT_ofB (by decide +kernel) (Nat.le_of_ble_eq_true rfl) rfl fun K XX => ?_
  rw [bfG_eq]
  have r1 := hR.put (sI R 55 (nxE (ri R 55)))
  have t1 := hX.i (k := 55) (v := nxE (ri R 55)) rfl
  have q1 : QF R (sI R 55 (nxE (ri R 55))) := (QF.refl R).i rfl
  have e55 : ri (sI R 55 (nxE (ri R 55))) 55 = nxE (ri R 55) := ri_sI
  have e0 : ri (sI R 55 (nxE (ri R 55))) 0 = ri R 0 := ri_sIn (by decide)
  refine b_X12_happens_0 hg (by omega) k00 XX _ _ ⟨_, hR.o, use_i (d_draw (n := 6) (d := d - 1) hg (by omega) hR (by omega) (by omega)) (by omega) k00 ?_⟩
  generalize nxE (ri R 55) = z at *
  generalize sI R 55 z = R1 at *
  obtain ⟨z2, hz2⟩ : ∃ z2, nxE z = z2 := ⟨_, rfl⟩
  obtain ⟨z3, hz3⟩ : ∃ z3, nxE z2 = z3 := ⟨_, rfl⟩
  have e0' : ∀ v, ri (sI R1 55 v) 0 = ri R 0 := fun v => by rw [ri_sIn (by decide)]; exact e0
  have fin : ∀ (v : Int32) (R2 : RefV) (Y2 : LandV), ¬ v = 1 → ¬ v = 2 → TM (sT s) Y2 R2 → QF R R2 → ri R2 0 = ri R 0 → bfZ (sT s) z Y = (ri R2 55, Y2) → VB g K 4 d 0 0 (fun r h2 => r = none ∧ ∃ R', h2 = pR h B R' ∧ (TM (sT s) (bfZ (sT s) z Y).2 R' ∧ ri R' 55 = (bfZ (sT s) z Y).1 ∧ QF R R' ∧ ri R' 0 = ri R 0)) noT 0 0 47 [some (.ref B), some (.int v), none, none] [] (pR h B R2) := by
    intro v R2 Y2 n1 n2 t2 q2 z2 e2
    exact b_X12_happens_47 hg (by omega) k00 XX _ _ _ ⟨fun _ => b_X12_happens_68 hg (by omega) k00 XX _ _ _ ⟨fun _ => ⟨rfl, R2, rfl, by rw [e2]; exact t2, by rw [e2], q2, z2⟩, fun q => absurd q n2⟩, fun q => absurd q n1⟩
  refine ⟨fun y => ?_, fun y => ⟨_, by rw [r1.i1, t1.n], _, r1.o, use_i (d_draw (n := tN_ (sT s)) (d := d - 1) hg (by omega) r1 o1' (by omega)) (by omega) k00 ?_⟩⟩
  · have y' : ¬ drE z 6 = 0 := y
    refine b_X12_happens_47 hg (by omega) k00 XX _ _ _ ⟨fun y1 => ?_, fun y1 => ⟨_, by rw [r1.i1, t1.n], _, r1.o, use_i (d_draw (n := tN_ (sT s)) (d := d - 1) hg (by omega) r1 o1' (by omega)) (by omega) k00 ?_⟩⟩
    · have y1' : ¬ drE z 6 = 1 := y1
      refine b_X12_happens_68 hg (by omega) k00 XX _ _ _ ⟨fun y2 => ⟨rfl, R1, rfl, ?_⟩, fun y2 => ⟨_, by rw [r1.i2, t1.w], fun y3 => ⟨_, by rw [r1.i2, t1.w], _, r1.o, ?_⟩, fun y3 => ⟨rfl, R1, rfl, ?_⟩⟩⟩
      · rw [bfZ_n y' y1' y2]; exact ⟨t1, e55, q1, e0⟩
      · have w0 : 0 < tW (sT s) := by
          apply Classical.byContradiction
          intro e
          exact y3 (by rw [show tW (sT s) = 0 by omega]; rfl)
        refine use_i (d_draw (n := tW (sT s)) (d := d - 1) hg (by omega) r1 w0 (by omega)) (by omega) k00 ?_
        rw [hR.pp, e55, hz2]
        obtain ⟨e, e1, e2⟩ := drE_nI (z2) (n := tW (sT s)) w0 (by omega)
        have r2 := hR.put (sI R1 55 (z2))
        have t2 := t1.i (k := 55) (v := z2) rfl
        rw [e2, show (92 : Int32) + nI e = nI (92 + e) from nI_add 92 e]
        refine ⟨_, r2.n40, _, r2.n40, _, r2.r14 (by omega), use_i (d_lesser (d := d - 1) hg (by omega) _ _) (by omega) k00 ⟨_, r2.u14 (by omega), rfl, sA (sI R1 55 (z2)) 14 (upd (ra (sI R1 55 (z2)) 14) (92 + e) (min99 (lTh Y e + 5))), ?_, ?_⟩⟩
        · rw [hR.pp, t2.th e1, lsE_99]
        · rw [bfZ_2 y' y1' y2 (by omega), hz2, e2, show cl (nI e) = e from nI_clamp (by omega)]
          have x3 := t2.uTh (k := e) (v := min99 (lTh Y e + 5)) e1
          refine ⟨TX.tm x3, ?_, ((q1.i (k := 55) (v := z2) rfl)).trans (TX.qf x3), ?_⟩
          · rw [ri_sA]; exact ri_sI
          · rw [ri_sA]; exact e0' z2
      · have w0 : tW (sT s) = 0 := by rw [nI_z, nI_eq (by omega) (by omega)] at y3; exact y3
        rw [bfZ_20 y' y1' y2 w0]; exact ⟨t1, e55, q1, e0⟩
    · have y1' : drE z 6 = 1 := y1
      rw [hR.pp, e55, hz2]
      obtain ⟨e, e1, e2⟩ := drE_nI (z2) (n := tN_ (sT s)) o1' (by omega)
      have r2 := hR.put (sI R1 55 (z2))
      have t2 := t1.i (k := 55) (v := z2) rfl
      rw [e2]
      refine ⟨_, r2.o, use_vR (d_strains (b := 49) (d := d - 1) hg (by omega) r2 t2 e1 9) (by omega) k00 ?_⟩
      intro R3 x3
      rw [hR.pp]
      refine b_X12_happens_68 hg (by omega) k00 XX _ _ _ ⟨fun _ => ⟨rfl, R3, rfl, ?_⟩, fun q => ?_⟩
      · rw [bfZ_1 y' y1', hz2, e2, show cl (nI e) = e from nI_clamp (by omega)]
        refine ⟨x3.tm, by rw [x3.df.1]; exact ri_sI, (q1.i (k := 55) (v := z2) rfl).trans x3.qf, by rw [x3.df.1]; exact e0' z2⟩
      · have q' : drE z 6 = 2 := q
        rw [y1'] at q'; exact absurd q' (by decide)
  · have y' : drE z 6 = 0 := y
    have n1 : ¬ drE z 6 = 1 := by rw [y']; decide
    have n2 : ¬ drE z 6 = 2 := by rw [y']; decide
    rw [hR.pp, e55, hz2]
    obtain ⟨e, e1, e2⟩ := drE_nI (z2) (n := tN_ (sT s)) o1' (by omega)
    have r2 := hR.put (sI R1 55 (z2))
    have t2 := t1.i (k := 55) (v := z2) rfl
    have q2 : QF R (sI R1 55 (z2)) := q1.i rfl
    have f55 : ri (sI R1 55 (z2)) 55 = z2 := ri_sI
    refine ⟨_, r2.o, use_i (d_draw (n := 20) (d := d - 1) hg (by omega) r2 (by omega) (by omega)) (by omega) k00 ?_⟩
    rw [hR.pp, f55, hz3]
    obtain ⟨c, c1, c2⟩ := drE_nI (z3) (n := 20) (by omega) (by omega)
    have r3 := hR.put (sI (sI R1 55 (z2)) 55 (z3))
    have t3 := t2.i (k := 55) (v := z3) rfl
    have q3 : QF R (sI (sI R1 55 (z2)) 55 (z3)) := q2.i rfl
    have g55 : ri (sI (sI R1 55 (z2)) 55 (z3)) 55 = z3 := ri_sI
    have g0 : ri (sI (sI R1 55 (z2)) 55 (z3)) 0 = ri R 0 := by rw [ri_sIn (by decide)]; exact e0' z2
    have eb : bfZ (sT s) z Y = (z3, tearL (tN_ (sT s)) Y e (nI (c + 1))) := by
      have c2' : drE (z3) 20 = nI c := c2
      rw [bfZ_0 y', hz2, hz3, e2, c2', nI_s, show cl (nI e) = e from nI_clamp (by omega)]
    rw [e2, c2, nI_s]
    generalize sI (sI R1 55 (z2)) 55 (z3) = R3 at *
    refine ⟨_, r3.o, use_i (d_isGap (b := 49) (d := d - 1) hg (by omega) r3 t3 e1) (by omega) k00 ⟨fun w1 => ?_, fun w1 => ⟨_, r3.o, use_vR (d_loosens (b := 49) (d := d - 1) hg (by omega) r3 t3 e1 (v := nI (c + 1)) (nI_pos' (by omega)) (hL.1 e e1).2.1) (by omega) k00 ?_⟩⟩⟩
    · have := fin (drE z 6) R3 Y n1 n2 t3 q3 g0 (by rw [eb, g55, tearL, if_pos (gp_y rfl w1)])
      exact this
    · intro R4 x4
      rw [hR.pp]
      have := fin (drE z 6) R4 _ n1 n2 x4.tm (q3.trans x4.qf) (by rw [x4.df.1]; exact g0) (by rw [eb, x4.df.1, g55, tearL, if_neg (gp_n rfl w1)])
      exact this
theorem r_years (hg : GOK g) (hd : 20 ≤ d) (hR : RA h B R) (hI : IV s) (hS : RS s R) (u v w : Int32) : CT g d yX12_years (wsC yX12_years cX12_years 5 (some .int)) [.ref B, .int u, .int v, .int w] h 0 0 (PrM h B cd2 s (m_years s u v w)) noT := by
  have o1 := hI.o1
  have o2 := hI.o2
  have o3 := hI.o3
  refine CT_ofB (by decide +kernel) (Nat.le_of_ble_eq_true rfl) rfl fun K XX => ?_
  have r1 := hR.put (sI R 0 0)
  have s1 := hS.s0 hI
  have z1 : ri (sI R 0 0) 0 = 0 := ri_sI
  refine b_X12_years_0 hg (by omega) k00 XX _ _ _ _ _ ⟨_, hR.w0 0, ?_⟩
  generalize sI R 0 0 = R1 at *
  refine ⟨_, r1.o, use_ck (d_isWhat (d := d - 1) hg (by omega) r1 z1 w 2) (by omega) k00 (fun c2 => ⟨fun e => absurd e (by decide), fun _ => ?_⟩) (fun c2 => ⟨fun _ => ptM (b := true) hI s1 ((QF.refl R1).i rfl) ri_sI (by rw [m_years, c2]; rfl) (hR.pp _ _), fun e => absurd rfl e⟩)⟩
  refine ⟨_, r1.o, use_ck (d_isDays (d := d - 1) hg (by omega) r1 z1 v 0 (w := 2) (by decide)) (by omega) k00 (fun c3 => ⟨fun _ => ?_, fun e => absurd e (by decide)⟩) (fun c3 => ⟨fun e => absurd rfl e, fun _ => ptM (b := false) hI s1 ((QF.refl R1).i rfl) ri_sI (by rw [m_years, c2, c3]; rfl) (hR.pp _ _)⟩)⟩
  obtain ⟨ev, _, hv⟩ := dyB_k (m := 0) (by omega) c3
  have em : m_years s u v w = .inl (yrV s (yrF s u (cl v)) w, s) := by rw [m_years, if_pos c2, if_pos c3]
  rw [em]
  generalize cl v = n at *
  rw [ev]
  refine ⟨_, r1.o, q_try hg r1 hI s1 (by omega) k00 ?_⟩
  rintro R2 ⟨q2, t2, i2, _⟩
  rw [hR.pp]
  have r2 := hR.put R2
  refine ⟨_, r2.w55 u, ?_⟩
  rw [hR.pp]
  have lp : ∀ (j i : Nat) (R3 : RefV) (Y : LandV), i + j = n → QF R1 R3 → ri R3 0 = 0 → TM (sT s) Y R3 → LOK (sN s) (sW s) Y → (foldN (yrG (sT s)) j i (ri R3 55, Y)).2 = yrF s u n → VB g K 5 d 0 0 (PrM h B cd2 s (.inl (yrV s (yrF s u n) w, s))) noT 0 0 38 [some (.ref B), none, some (.int (nI n)), some (.int w), some (.int (nI i))] [] (pR h B R3) := by
    intro j
    induction j with
    | zero =>
      intro i R3 Y hi q3 z3 t3 l3 he
      have r3 := hR.put R3
      have he' : Y = yrF s u n := he
      have fin : ∀ a, a = yrV s Y w → PrM h B cd2 s (.inl (yrV s (yrF s u n) w, s)) (some (.int a)) (pR h B R3) := fun a e => prM hI s1 q3 z3 (by rw [e, he']) rfl
      refine b_X12_years_38 hg (by omega) k00 XX _ _ _ _ _ ⟨fun _ => ⟨fun y => ⟨fun y1 => ⟨_, by rw [r3.i2, t3.w], _, r3.o, use_i (d_sumOf (b := 49) (o := 43) (n := sW s) (d := d - 1) hg (by omega) r3 (by omega)) (by omega) k00 (fin _ ?_)⟩, fun y1 => ⟨_, by rw [r3.i1, t3.n], _, r3.o, use_i (d_sumOf (b := 49) (o := 13) (n := sN s) (d := d - 1) hg (by omega) r3 (by omega)) (by omega) k00 (fin _ ?_)⟩⟩, fun y => ⟨_, r3.o, use_i (d_openOnes (b := 49) (d := d - 1) hg (by omega) r3 t3) (by omega) k00 (use_i (d_bits (d := d - 1) hg (by omega) _) (by omega) k00 (fin _ ?_))⟩⟩, fun q => absurd (nle_nI (by omega) (by omega) q) (by omega)⟩
      · rw [yrV, if_neg y, if_neg y1]
        exact sumF_congr fun k hk => t3.rw_.th hk
      · rw [yrV, if_neg y, if_pos y1]
        exact sumF_congr fun k hk => t3.rw_.sm hk
      · rw [yrV, if_pos y]
        exact bits_bc o2
    | succ j ih =>
      intro i R3 Y hi q3 z3 t3 l3 he
      have r3 := hR.put R3
      refine b_X12_years_38 hg (by omega) k00 XX _ _ _ _ _ ⟨fun q => absurd (le_nI (by omega) (by omega) q) (by omega), fun _ => ⟨_, r3.o, use_vR (d_happens (d := d - 1) hg (by omega) r3 hI t3 l3) (by omega) k00 ?_⟩⟩
      rintro R4 ⟨t4, e4, q4, z4⟩
      rw [hR.pp]
      have r4 := hR.put R4
      have l4 : LOK (sN s) (sW s) (bfG (sT s) (ri R3 55, Y)).2 := LOK.bf (T := sT s) o2 (by show 0 < sN s; omega) o3 l3
      refine ⟨_, r4.o, q_day hg r4 t4 l4 hI.td (by omega) k00 ?_⟩
      intro R5 x5
      rw [hR.pp, nI_s]
      refine ih (i + 1) R5 _ (by omega) ((q3.trans q4).trans x5.qf) (by rw [x5.df.1, z4, z3]) x5.tm (l4.day o2 (by show 0 < sN s; omega) hI.sk) ?_
      rw [foldN, yrG_eq] at he
      rw [x5.df.1, e4]
      exact he
  exact lp n 0 (sI R2 55 u) (sL s) (by omega) (q2.i rfl) (by show ri (sI R2 55 u) 0 = 0; rw [ri_sIn (by decide), i2, z1]) (t2.i rfl) hI.lok (by rw [ri_sI, yrF])
end RYY
