/-! THE REFERENCE'S public methods: what to do; steady, meet -/
section RO
variable {g : GG} {h h2 : Hp} {B b d D k kc ks mc ms : Nat} {T : ToldV} {X Y : LandV} {R0 R R' : RefV} {s s' : CoreV} {a : Int32}
theorem r_worst (hg : GOK g) (hd : 20 ≤ d) (hR : RA h B R) (hI : IV s) (hS : RS s R) (v : Int32) : CT g d yX12_worst (wsC yX12_worst cX12_worst 6 (some .int)) [.ref B, .int v] h 0 0 (PrM h B cd1 s (m_worst s v)) noT := by
  have o1 := hI.o1
  have o2 := hI.o2
  refine CT_ofB (by decide +kernel) (Nat.le_of_ble_eq_true rfl) rfl fun K XX => ?_
  have r1 := hR.put (sI R 0 0)
  have s1 := hS.s0 hI
  have z1 : ri (sI R 0 0) 0 = 0 := ri_sI
  refine b_X12_worst_0 hg (by omega) k00 XX _ _ _ ⟨_, hR.w0 0, use_i (d_within (d := d - 1) hg (by omega) v 1 50) (by omega) k00 ?_⟩
  generalize sI R 0 0 = R1 at *
  refine ⟨_, r1.o, use_ck (d_right (d := d - 1) hg (by omega) r1 z1 (wnB v 1 50) (by decide)) (by omega) k00 (fun c => ⟨fun _ => ?_, fun e => absurd e (by decide)⟩) (fun c => ⟨fun e => absurd rfl e, fun _ => ptM (b := false) hI s1 ((QF.refl R1).i rfl) ri_sI ?_ (hR.pp _ _)⟩)⟩
  · have cc := wnB_t c
    have em : m_worst s v = .inl ((woF s v).1, s) := by rw [m_worst, if_neg cc.1, if_pos (Int32.not_lt.mp cc.2)]
    rw [em]
    have v0 : 0 ≤ v := Int32.le_trans (by decide) (Int32.not_lt.mp cc.1)
    obtain ⟨c0, c1, c2⟩ := nI_of (x := v) (fun e => absurd v0 (Int32.not_le.mpr e))
    have hc50 : c0 ≤ 50 := by
      have := Int32.not_lt.mp cc.2
      rw [c2, show (50 : Int32) = nI 50 from rfl] at this
      exact le_nI (by omega) (by omega) this
    have lp : ∀ (j i : Nat) (R2 : RefV) (p : Int32 × Int32), i + j = sN s → QF R1 R2 → ri R2 0 = 0 → foldN (woG (sT s) (sL s) v) j i p = woF s v → VB g K 6 d 0 0 (PrM h B cd1 s (.inl ((woF s v).1, s))) noT 0 0 29 [some (.ref B), some (.int v), some (.int p.1), some (.int p.2), some (.int (nI i)), none] [] (pR h B R2) := by
      intro j
      induction j with
      | zero =>
        intro i R2 p hi q2 z2 he
        have r2 := hR.put R2
        have s2 := s1.qf hI q2
        have he' : p = woF s v := he
        exact b_X12_worst_29 hg (by omega) k00 XX _ _ _ _ _ _ ⟨_, by rw [r2.i1, s2.n], fun _ => prM hI s1 q2 z2 (by rw [← he']) rfl, fun q => absurd (nle_nI (by omega) (by omega) q) (by omega)⟩
      | succ j ih =>
        intro i R2 p hi q2 z2 he
        have r2 := hR.put R2
        have s2 := s1.qf hI q2
        have hin : i < sN s := by omega
        have nxt : ∀ (R3 : RefV) (p3 : Int32 × Int32), QF R1 R3 → ri R3 0 = 0 → p3 = woG (sT s) (sL s) v i p → VB g K 6 d 0 0 (PrM h B cd1 s (.inl ((woF s v).1, s))) noT 0 0 96 [some (.ref B), some (.int v), some (.int p3.1), some (.int p3.2), some (.int (nI i)), none] [] (pR h B R3) := by
          intro R3 p3 q3 z3 e3
          refine b_X12_worst_96 hg (by omega) k00 XX _ _ _ _ _ _ ?_
          rw [nI_s]
          exact ih (i + 1) R3 p3 (by omega) q3 z3 (by rw [← he, foldN, ← e3])
        refine b_X12_worst_29 hg (by omega) k00 XX _ _ _ _ _ _ ⟨_, by rw [r2.i1, s2.n], fun q => absurd (le_nI (by omega) (by omega) q) (by omega), fun _ => ⟨_, r2.o, use_i (d_isGap (b := 0) (d := d - 1) hg (by omega) r2 (s2.tx hI) hin) (by omega) k00 ⟨fun z => ⟨_, r2.o, q_try hg r2 hI s2 (by omega) k00 ?_⟩, fun z => nxt R2 p q2 z2 ?_⟩⟩⟩
        · have z' := gp_n rfl z
          rintro R3 ⟨q3, t3, i3, _⟩
          rw [hR.pp]
          have r3 := hR.put R3
          refine ⟨_, r3.o, use_vR (d_loosens (b := 49) (d := d - 1) hg (by omega) r3 t3 hin v0 (hI.lok.1 i hin).2.1) (by omega) k00 ?_⟩
          intro R4 x4
          rw [hR.pp]
          have r4 := hR.put R4
          have et : wearL (tN_ (sT s)) (sL s) i v = tearL (sN s) (sL s) i v := by rw [tearL, if_neg z']
          rw [et] at x4
          have l4 : LOK (sN s) (sW s) (tearL (sN s) (sL s) i v) := by rw [c2]; exact hI.lok.tear hin (by omega)
          refine ⟨_, r4.o, q_days (m := 7) hg r4 x4.tm l4 hI.td (by omega) (by omega) k00 ?_⟩
          intro R5 x5
          rw [hR.pp]
          have r5 := hR.put R5
          refine ⟨_, r5.o, use_i (d_openOnes (b := 49) (d := d - 1) hg (by omega) r5 x5) (by omega) k00 (use_i (d_bits (d := d - 1) hg (by omega) _) (by omega) k00 ?_)⟩
          rw [bits_bc (p := fun k => lSm (daysT (sT s) 7 (tearL (sN s) (sL s) i v)) k == 0) (m := tN_ (sT s)) o2]
          have q5 : QF R1 R5 := ((q2.trans q3).trans x4.qf).trans x5.qf
          have z5 : ri R5 0 = 0 := by rw [x5.df.1, x4.df.1, i3, z2]
          refine ⟨fun y => nxt R5 (nI i, bcE (opnB (tN_ (sT s)) (daysT (sT s) 7 (tearL (sN s) (sL s) i v)))) q5 z5 ?_, fun y => nxt R5 p q5 z5 ?_⟩
          · rw [woG, if_neg z', if_neg (Int32.not_le.mpr y)]
          · rw [woG, if_neg z', if_pos (Int32.not_lt.mp y)]
        · rw [woG, if_pos (gp_y rfl z)]
    exact lp (sN s) 0 R1 (-1, -1) (by omega) (QF.refl _) z1 rfl
  · rcases wnB_f c with e | e
    · rw [m_worst, if_pos e]
    · rw [m_worst, if_neg (Int32.not_le.mpr e)]; split <;> rfl
theorem bc_le {p : Nat → Bool} {m : Nat} (hm : m ≤ 12) : ∃ a, a ≤ 12 ∧ bcE (bitsF p m) = nI a := by
  obtain ⟨a, a1, a2⟩ := bitsF_nI p m hm
  have : 2 ^ m ≤ 2 ^ 12 := Nat.pow_le_pow_right (by omega) hm
  exact ⟨pcN a, pcN_le a, by rw [a2, bc_pc (by omega)]⟩
theorem r_toSend (hg : GOK g) (hd : 20 ≤ d) (hR : RA h B R) (hI : IV s) (hS : RS s R) (u v w : Int32) : CT g d yX12_toSend (wsC yX12_toSend cX12_toSend 8 (some .int)) [.ref B, .int u, .int v, .int w] h 0 0 (PrM h B cd2 s (m_toSend s u v w)) noT := by
  have o1 := hI.o1
  have o2 := hI.o2
  have o3 := hI.o3
  refine CT_ofB (by decide +kernel) (Nat.le_of_ble_eq_true rfl) rfl fun K XX => ?_
  have r1 := hR.put (sI R 0 0)
  have s1 := hS.s0 hI
  have z1 : ri (sI R 0 0) 0 = 0 := ri_sI
  refine b_X12_toSend_0 hg (by omega) k00 XX _ _ _ _ _ ⟨_, hR.w0 0, ?_⟩
  generalize sI R 0 0 = R1 at *
  refine ⟨_, r1.o, use_ck (d_isWoman (d := d - 1) hg (by omega) r1 z1 s1.w u) (by omega) k00 (fun c => ⟨fun e => absurd e (by decide), fun _ => ?_⟩) (fun c => ⟨fun _ => ptM (b := true) hI s1 ((QF.refl R1).i rfl) ri_sI (by rw [m_toSend, c]; rfl) (hR.pp _ _), fun e => absurd rfl e⟩)⟩
  refine ⟨_, r1.o, use_ck (d_isWhat (d := d - 1) hg (by omega) r1 z1 w 1) (by omega) k00 (fun c2 => ⟨fun e => absurd e (by decide), fun _ => ?_⟩) (fun c2 => ⟨fun _ => ptM (b := true) hI s1 ((QF.refl R1).i rfl) ri_sI (by rw [m_toSend, c, c2]; rfl) (hR.pp _ _), fun e => absurd rfl e⟩)⟩
  refine ⟨_, r1.o, use_ck (d_isDays (d := d - 1) hg (by omega) r1 z1 v 1 (w := 2) (by decide)) (by omega) k00 (fun c3 => ⟨fun _ => ?_, fun e => absurd e (by decide)⟩) (fun c3 => ⟨fun e => absurd rfl e, fun _ => ptM (b := false) hI s1 ((QF.refl R1).i rfl) ri_sI (by rw [m_toSend, c, c2, c3]; rfl) (hR.pp _ _)⟩)⟩
  obtain ⟨eu, hu⟩ := inB_k (by omega) c
  obtain ⟨ev, _, hv⟩ := dyB_k (m := 1) (by omega) c3
  have em : m_toSend s u v w = .inl (if w = 0 then (tsF s (cl u) (cl v)).1 else (tsF s (cl u) (cl v)).2, s) := by rw [m_toSend, if_pos c, if_pos c2, if_pos c3]
  rw [em]
  generalize hk : cl u = k at *
  generalize hn : cl v = n at *
  rw [eu, ev]
  have e0 : foldN (tsG (sT s) (sL s) k n) (sN s) 0 (-1, 99999) = tsF s k n := by
    obtain ⟨m, hm⟩ : ∃ m, sN s = m + 1 := ⟨sN s - 1, by omega⟩
    rw [tsF, hm, foldN, foldN]
    congr 1
    obtain ⟨a, a1, a2⟩ := bc_le (p := fun j => lSm (daysT (sT s) n (sAt (sL s) k (nI 0))) j == 0) (m := tN_ (sT s)) o2
    have a2' : bcE (opnB (tN_ (sT s)) (daysT (sT s) n (sAt (sL s) k (nI 0)))) = nI a := a2
    rw [tsG, tsG, a2']
    have n1 : ¬ ((-1, 99999) : Int32 × Int32).2 ≤ nI a := fun z => absurd (le_nI (x := 99999) (y := a) (by omega) (by omega) z) (by omega)
    have n2 : ¬ ((0, 13) : Int32 × Int32).2 ≤ nI a := fun z => absurd (le_nI (x := 13) (y := a) (by omega) (by omega) z) (by omega)
    rw [if_neg n1, if_neg n2]
  have lp : ∀ (j i : Nat) (R2 : RefV) (p : Int32 × Int32), i + j = sN s → QF R1 R2 → ri R2 0 = 0 → foldN (tsG (sT s) (sL s) k n) j i p = tsF s k n → VB g K 8 d 0 0 (PrM h B cd2 s (.inl (if w = 0 then (tsF s k n).1 else (tsF s k n).2, s))) noT 0 0 45 [some (.ref B), some (.int (nI k)), some (.int (nI n)), some (.int w), some (.int p.1), some (.int p.2), some (.int (nI i)), none] [] (pR h B R2) := by
    intro j
    induction j with
    | zero =>
      intro i R2 p hi q2 z2 he
      have r2 := hR.put R2
      have s2 := s1.qf hI q2
      have he' : p = tsF s k n := he
      exact b_X12_toSend_45 hg (by omega) k00 XX _ _ _ _ _ _ _ _ ⟨_, by rw [r2.i1, s2.n], fun _ => ⟨fun y => prM hI s1 q2 z2 (by rw [if_neg y, he']) rfl, fun y => prM hI s1 q2 z2 (by rw [if_pos y, he']) rfl⟩, fun q => absurd (nle_nI (by omega) (by omega) q) (by omega)⟩
    | succ j ih =>
      intro i R2 p hi q2 z2 he
      have r2 := hR.put R2
      have s2 := s1.qf hI q2
      have hin : i < sN s := by omega
      refine b_X12_toSend_45 hg (by omega) k00 XX _ _ _ _ _ _ _ _ ⟨_, by rw [r2.i1, s2.n], fun q => absurd (le_nI (by omega) (by omega) q) (by omega), fun _ => ⟨_, r2.o, q_try hg r2 hI s2 (by omega) k00 ?_⟩⟩
      rintro R3 ⟨q3, t3, i3, _⟩
      rw [hR.pp]
      have r3 := hR.put R3
      refine ⟨_, r3.n40, ?_⟩
      rw [show (86 : Int32) + nI k = nI (86 + k) from nI_add 86 k]
      refine ⟨_, r3.u14 (by omega), ?_⟩
      rw [hR.pp]
      have x4 := t3.uAt (k := k) (v := nI i) hu
      have r4 := hR.put (sA R3 14 (upd (ra R3 14) (86 + k) (nI i)))
      refine ⟨_, r4.o, q_days (m := n) hg r4 (TX.tm x4) (hI.lok.at_ hin) hI.td (by omega) (by omega) k00 ?_⟩
      intro R5 x5
      rw [hR.pp]
      have r5 := hR.put R5
      refine ⟨_, r5.o, use_i (d_openOnes (b := 49) (d := d - 1) hg (by omega) r5 x5) (by omega) k00 (use_i (d_bits (d := d - 1) hg (by omega) _) (by omega) k00 ?_)⟩
      rw [bits_bc (p := fun j => lSm (daysT (sT s) n (sAt (sL s) k (nI i))) j == 0) (m := tN_ (sT s)) o2]
      have q5 : QF R1 R5 := ((q2.trans q3).trans (TX.qf x4)).trans x5.qf
      have z5 : ri R5 0 = 0 := by rw [x5.df.1]; show ri R3 0 = 0; rw [i3, z2]
      refine ⟨fun y => ?_, fun y => ?_⟩
      · refine b_X12_toSend_103 hg (by omega) k00 XX _ _ _ _ _ _ _ _ ?_
        rw [nI_s]
        refine ih (i + 1) R5 (nI i, bcE (opnB (tN_ (sT s)) (daysT (sT s) n (sAt (sL s) k (nI i))))) (by omega) q5 z5 ?_
        rw [← he, foldN, tsG, if_neg (Int32.not_le.mpr y)]
      · refine b_X12_toSend_103 hg (by omega) k00 XX _ _ _ _ _ _ _ _ ?_
        rw [nI_s]
        refine ih (i + 1) R5 p (by omega) q5 z5 ?_
        rw [← he, foldN, tsG, if_pos (Int32.not_lt.mp y)]
  exact lp (sN s) 0 R1 (-1, 99999) (by omega) (QF.refl _) z1 e0
theorem r_bestStitch (hg : GOK g) (hd : 20 ≤ d) (hR : RA h B R) (hI : IV s) (hS : RS s R) (u v : Int32) : CT g d yX12_bestStitch (wsC yX12_bestStitch cX12_bestStitch 6 (some .int)) [.ref B, .int u, .int v] h 0 0 (PrM h B cd2 s (m_bestStitch s u v)) noT := by
  have o1 := hI.o1
  have o2 := hI.o2
  refine CT_ofB (by decide +kernel) (Nat.le_of_ble_eq_true rfl) rfl fun K XX => ?_
  have r1 := hR.put (sI R 0 0)
  have s1 := hS.s0 hI
  have z1 : ri (sI R 0 0) 0 = 0 := ri_sI
  refine b_X12_bestStitch_0 hg (by omega) k00 XX _ _ _ _ ⟨_, hR.w0 0, ?_⟩
  generalize sI R 0 0 = R1 at *
  refine ⟨_, r1.o, use_ck (d_isStretch (d := d - 1) hg (by omega) r1 z1 s1.n u) (by omega) k00 (fun c => ⟨fun e => absurd e (by decide), fun _ => ?_⟩) (fun c => ⟨fun _ => ptM (b := true) hI s1 ((QF.refl R1).i rfl) ri_sI (by rw [m_bestStitch, c]; rfl) (hR.pp _ _), fun e => absurd rfl e⟩)⟩
  refine ⟨_, r1.o, use_ck (d_isDays (d := d - 1) hg (by omega) r1 z1 v 1 (w := 2) (by decide)) (by omega) k00 (fun c3 => ⟨fun _ => ?_, fun e => absurd e (by decide)⟩) (fun c3 => ⟨fun e => absurd rfl e, fun _ => ptM (b := false) hI s1 ((QF.refl R1).i rfl) ri_sI (by rw [m_bestStitch, c, c3]; rfl) (hR.pp _ _)⟩)⟩
  obtain ⟨eu, hu⟩ := inB_k (by omega) c
  obtain ⟨ev, _, hv⟩ := dyB_k (m := 1) (by omega) c3
  have em : m_bestStitch s u v = .inl ((bsF s (cl u) (cl v)).1, s) := by rw [m_bestStitch, if_pos c, if_pos c3]
  rw [em]
  generalize hk : cl u = k at *
  generalize hn : cl v = n at *
  rw [eu, ev]
  have ll : ∀ i, i < 3 → LOK (sN s) (sW s) (daysT (sT s) n (sSt (sL s) k (nI i))) := fun i hi => LOK.days o2 (by show 0 < sN s; omega) hI.sk n (hI.lok.sti (by omega))
  have e0 : foldN (bsG (sT s) (sL s) k n) 3 0 (-1, -1) = bsF s k n := by
    show foldN (bsG (sT s) (sL s) k n) 2 1 (bsG (sT s) (sL s) k n 0 (-1, -1)) = foldN (bsG (sT s) (sL s) k n) 2 1 (bsG (sT s) (sL s) k n 0 (0, -1))
    congr 1
    obtain ⟨a, a1, a2⟩ := ((ll 0 (by omega)).1 k hu).2.1
    rw [bsG, bsG, a2]
    have : ¬ nI a ≤ -1 := fun z => by
      have := Int32.le_iff_toInt_le.mp z
      rw [nI_toInt (by omega)] at this
      have e : (-1 : Int32).toInt = -1 := rfl
      omega
    rw [if_neg this, if_neg this]
  have lp : ∀ (j i : Nat) (R2 : RefV) (p : Int32 × Int32), i + j = 3 → QF R1 R2 → ri R2 0 = 0 → foldN (bsG (sT s) (sL s) k n) j i p = bsF s k n → VB g K 6 d 0 0 (PrM h B cd2 s (.inl ((bsF s k n).1, s))) noT 0 0 33 [some (.ref B), some (.int (nI k)), some (.int (nI n)), some (.int p.1), some (.int p.2), some (.int (nI i))] [] (pR h B R2) := by
    intro j
    induction j with
    | zero =>
      intro i R2 p hi q2 z2 he
      have he' : p = bsF s k n := he
      exact b_X12_bestStitch_33 hg (by omega) k00 XX _ _ _ _ _ _ _ ⟨fun _ => prM hI s1 q2 z2 (by rw [he']) rfl, fun q => absurd (nle_nI (x := 3) (by omega) (by omega) q) (by omega)⟩
    | succ j ih =>
      intro i R2 p hi q2 z2 he
      have r2 := hR.put R2
      have s2 := s1.qf hI q2
      refine b_X12_bestStitch_33 hg (by omega) k00 XX _ _ _ _ _ _ _ ⟨fun q => absurd (le_nI (x := 3) (by omega) (by omega) q) (by omega), fun _ => ⟨_, r2.o, q_try hg r2 hI s2 (by omega) k00 ?_⟩⟩
      rintro R3 ⟨q3, t3, i3, _⟩
      rw [hR.pp]
      have r3 := hR.put R3
      refine ⟨_, r3.n40, ?_⟩
      rw [show (74 : Int32) + nI k = nI (74 + k) from nI_add 74 k, show (62 : Int32) + nI k = nI (62 + k) from nI_add 62 k]
      refine ⟨_, r3.u14 (by omega), ?_⟩
      rw [hR.pp]
      have x4 := t3.uSt (k := k) (v := nI i) hu
      have r4 := hR.put (sA R3 14 (upd (ra R3 14) (74 + k) (nI i)))
      refine ⟨_, r4.o, q_days (m := n) hg r4 (TX.tm x4) (hI.lok.sti (by omega)) hI.td (by omega) (by omega) k00 ?_⟩
      intro R5 x5
      rw [hR.pp]
      have r5 := hR.put R5
      have t5 := x5.tm
      have q5 : QF R1 R5 := ((q2.trans q3).trans (TX.qf x4)).trans x5.qf
      have z5 : ri R5 0 = 0 := by rw [x5.df.1]; show ri R3 0 = 0; rw [i3, z2]
      refine ⟨_, r5.n40, _, r5.r14 (by omega), ?_⟩
      rw [t5.sm hu]
      refine ⟨fun y => ⟨_, r5.n40, _, r5.r14 (by omega), ?_⟩, fun y => ?_⟩
      · rw [t5.sm hu]
        refine b_X12_bestStitch_90 hg (by omega) k00 XX _ _ _ _ _ _ _ ?_
        rw [nI_s]
        refine ih (i + 1) R5 (nI i, lSm (daysT (sT s) n (sSt (sL s) k (nI i))) k) (by omega) q5 z5 ?_
        rw [← he, foldN, bsG, if_neg (Int32.not_le.mpr y)]
      · refine b_X12_bestStitch_90 hg (by omega) k00 XX _ _ _ _ _ _ _ ?_
        rw [nI_s]
        refine ih (i + 1) R5 p (by omega) q5 z5 ?_
        rw [← he, foldN, bsG, if_pos (Int32.not_lt.mp y)]
  exact lp 3 0 R1 (-1, -1) (by omega) (QF.refl _) z1 e0
/-! steps -/
theorem stpE_nI {n i j : Nat} (hn : n ≤ 12) (hi : i < 100) (hj : j < 100) : stpE n (nI i) (nI j) = lsE (if nI j ≤ nI i then nI i - nI j else nI j - nI i) (nI n - (if nI j ≤ nI i then nI i - nI j else nI j - nI i)) := by
  have ha : absE (nI i) (nI j) = (if nI j ≤ nI i then nI i - nI j else nI j - nI i) := by
    unfold absE
    by_cases e : j ≤ i
    · rw [pk_sub e, if_pos (nI_pos' (by omega)), if_pos (nI_le e (by omega))]
    · have h1 : ¬ 0 ≤ nI i - nI j := Int32.not_le.mpr (pk_sneg (by omega) (by omega))
      rw [if_neg h1, if_neg (nI_ge (by omega) (by omega)), pk_sub (show i ≤ j by omega)]
      apply Int32.toInt_inj.mp
      have e1 := pk_sub_toInt (a := i) (b := j) (by omega) (by omega)
      rw [Int32.toInt_sub, e1, nI_toInt (by omega)]
      have : (0 : Int32).toInt = 0 := rfl
      rw [this, Int.bmod_eq_of_le (by omega) (by omega)]
      omega
  rw [← ha]
  unfold stpE lsE
  by_cases e : nI n - absE (nI i) (nI j) < absE (nI i) (nI j)
  · rw [if_pos e, if_pos (Int32.le_of_lt e)]
  · rw [if_neg e]
    by_cases e2 : nI n - absE (nI i) (nI j) ≤ absE (nI i) (nI j)
    · rw [if_pos e2]; exact (Int32.le_antisymm e2 (Int32.not_lt.mp e)).symm
    · rw [if_neg e2]
theorem stpE_r {n i j : Nat} (hn : n ≤ 12) (hi : i < n) (hj : j < n) : ∃ a, a ≤ 6 ∧ stpE n (nI i) (nI j) = nI a := by
  rw [stpE_nI hn (by omega) (by omega)]
  obtain ⟨c, c1, c2⟩ : ∃ c, c < n ∧ (if nI j ≤ nI i then nI i - nI j else nI j - nI i) = nI c := by
    by_cases e : j ≤ i
    · rw [if_pos (nI_le e (by omega)), pk_sub e]; exact ⟨i - j, by omega, rfl⟩
    · rw [if_neg (nI_ge (by omega) (by omega)), pk_sub (by omega)]; exact ⟨j - i, by omega, rfl⟩
  rw [c2, pk_sub (by omega), lsE]
  by_cases e : n - c ≤ c
  · rw [if_pos (nI_le e (by omega))]; exact ⟨n - c, by omega, rfl⟩
  · rw [if_neg (nI_ge (by omega) (by omega))]; exact ⟨c, by omega, rfl⟩
theorem d_stepsBy {n i j : Nat} (hg : GOK g) (hd : 9 ≤ d) (hR : RA h B R) (hN : ri R 1 = nI n) (hn : n ≤ 12) (hi : i < 100) (hj : j < 100) : CT g d yX12_stepsBy (wsC yX12_stepsBy cX12_stepsBy 4 (some .int)) [.ref B, .int (nI i), .int (nI j)] h 0 0 (fun v h2 => v = some (.int (stpE n (nI i) (nI j))) ∧ h2 = h) noT := by
  refine CT_ofB (by decide +kernel) (Nat.le_of_ble_eq_true rfl) rfl fun K XX => ?_
  rw [stpE_nI hn hi hj]
  have fin : ∀ w : Int32, w = (if nI j ≤ nI i then nI i - nI j else nI j - nI i) → VB g K 4 d 0 0 (fun v h2 => v = some (.int (lsE (if nI j ≤ nI i then nI i - nI j else nI j - nI i) (nI n - (if nI j ≤ nI i then nI i - nI j else nI j - nI i)))) ∧ h2 = h) noT 0 0 14 [some (.ref B), none, none, none] [.int w] h := by
    intro w hw
    refine b_X12_stepsBy_14 hg (by omega) k00 XX _ _ _ ⟨_, by rw [hR.i1, hN], use_i (d_lesser (d := d - 1) hg (by omega) _ _) (by omega) k00 ⟨by rw [hw], rfl⟩⟩
  exact b_X12_stepsBy_0 hg (by omega) k00 XX _ _ _ _ ⟨fun q => fin _ (by rw [if_pos q]), fun q => fin _ (by rw [if_neg q])⟩
theorem r_far (hg : GOK g) (hd : 20 ≤ d) (hR : RA h B R) (hI : IV s) (hS : RS s R) (u v : Int32) : CT g d yX12_far (wsC yX12_far cX12_far 3 (some .int)) [.ref B, .int u, .int v] h 0 0 (PrM h B cd2 s (m_far s u v)) noT := by
  have o2 := hI.o2
  refine CT_ofB (by decide +kernel) (Nat.le_of_ble_eq_true rfl) rfl fun K XX => ?_
  have r1 := hR.put (sI R 0 0)
  have s1 := hS.s0 hI
  have z1 : ri (sI R 0 0) 0 = 0 := ri_sI
  refine b_X12_far_0 hg (by omega) k00 XX _ _ _ _ ⟨_, hR.w0 0, ?_⟩
  generalize sI R 0 0 = R1 at *
  refine ⟨_, r1.o, use_ck (d_isStretch (d := d - 1) hg (by omega) r1 z1 s1.n u) (by omega) k00 (fun c => ⟨fun e => absurd e (by decide), fun _ => ?_⟩) (fun c => ⟨fun _ => ptM (b := true) hI s1 ((QF.refl R1).i rfl) ri_sI (by rw [m_far, c]; rfl) (hR.pp _ _), fun e => absurd rfl e⟩)⟩
  refine ⟨_, r1.o, use_ck (d_isStretch (d := d - 1) hg (by omega) r1 z1 s1.n v) (by omega) k00 (fun c2 => ⟨fun e => absurd e (by decide), fun _ => ?_⟩) (fun c2 => ⟨fun _ => ptM (b := true) hI s1 ((QF.refl R1).i rfl) ri_sI (by rw [m_far, c, c2]; rfl) (hR.pp _ _), fun e => absurd rfl e⟩)⟩
  obtain ⟨eu, hu⟩ := inB_k (by omega) c
  obtain ⟨ev, hv⟩ := inB_k (by omega) c2
  have em : m_far s u v = .inl (stpE (sN s) u v, s) := by rw [m_far, if_pos c, if_pos c2]
  rw [em]
  generalize cl u = i at *
  generalize cl v = j at *
  rw [eu, ev]
  exact ⟨_, r1.o, use_i (d_stepsBy (d := d - 1) hg (by omega) r1 s1.n o2 (by omega) (by omega)) (by omega) k00 (prM hI s1 (QF.refl _) z1 rfl rfl)⟩
theorem r_nearest (hg : GOK g) (hd : 20 ≤ d) (hR : RA h B R) (hI : IV s) (hS : RS s R) (v : Int32) : CT g d yX12_nearest (wsC yX12_nearest cX12_nearest 4 (some .int)) [.ref B, .int v] h 0 0 (PrM h B cd2 s (m_nearest s v)) noT := by
  have o2 := hI.o2
  have o3 := hI.o3
  refine CT_ofB (by decide +kernel) (Nat.le_of_ble_eq_true rfl) rfl fun K XX => ?_
  have r1 := hR.put (sI R 0 0)
  have s1 := hS.s0 hI
  have z1 : ri (sI R 0 0) 0 = 0 := ri_sI
  refine b_X12_nearest_0 hg (by omega) k00 XX _ _ _ ⟨_, hR.w0 0, ?_⟩
  generalize sI R 0 0 = R1 at *
  refine ⟨_, r1.o, use_ck (d_isStretch (d := d - 1) hg (by omega) r1 z1 s1.n v) (by omega) k00 (fun c => ⟨fun _ => ?_, fun e => absurd e (by decide)⟩) (fun c => ⟨fun e => absurd rfl e, fun _ => ptM (b := true) hI s1 ((QF.refl R1).i rfl) ri_sI (by rw [m_nearest, c]; rfl) (hR.pp _ _)⟩)⟩
  obtain ⟨ev, hv⟩ := inB_k (by omega) c
  have em : m_nearest s v = .inl ((nrF s v).1, s) := by rw [m_nearest, if_pos c]
  rw [em]
  generalize cl v = k at *
  rw [ev]
  have lp : ∀ (j i : Nat) (p : Int32 × Int32), i + j = sW s → ((p = (-1, 12)) ∨ ∃ b, b < sW s ∧ p = (nI b, stpE (sN s) (lAt (sL s) b) (nI k))) → foldN (nrG (sN s) (sL s) (nI k)) j i p = nrF s (nI k) → VB g K 4 d 0 0 (PrM h B cd2 s (.inl ((nrF s (nI k)).1, s))) noT 0 0 19 [some (.ref B), some (.int (nI k)), some (.int p.1), some (.int (nI i))] [] (pR h B R1) := by
    intro j
    induction j with
    | zero =>
      intro i p hi hp he
      have he' : p = nrF s (nI k) := he
      exact b_X12_nearest_19 hg (by omega) k00 XX _ _ _ _ _ ⟨_, by rw [r1.i2, s1.w], fun _ => prM hI s1 (QF.refl _) z1 (by rw [← he']) rfl, fun q => absurd (nle_nI (by omega) (by omega) q) (by omega)⟩
    | succ j ih =>
      intro i p hi hp he
      have hin : i < sW s := by omega
      obtain ⟨ai, ai1, ai2⟩ := (hI.lok.2 i hin).1
      obtain ⟨si, si1, si2⟩ := stpE_r o2 ai1 hv
      rw [← ai2] at si2
      rw [foldN] at he
      have nxt : ∀ p3, p3 = nrG (sN s) (sL s) (nI k) i p → VB g K 4 d 0 0 (PrM h B cd2 s (.inl ((nrF s (nI k)).1, s))) noT 0 0 65 [some (.ref B), some (.int (nI k)), some (.int p3.1), some (.int (nI i))] [] (pR h B R1) := by
        intro p3 e3
        refine b_X12_nearest_65 hg (by omega) k00 XX _ _ _ _ _ ?_
        rw [nI_s]
        refine ih (i + 1) p3 (by omega) ?_ (by rw [e3]; exact he)
        rw [e3, nrG]
        split
        · exact hp
        · exact Or.inr ⟨i, hin, rfl⟩
      refine b_X12_nearest_19 hg (by omega) k00 XX _ _ _ _ _ ⟨_, by rw [r1.i2, s1.w], fun q => absurd (le_nI (by omega) (by omega) q) (by omega), fun _ => ⟨fun q => ?_, fun q => ?_⟩⟩
      · have ep : p = (-1, 12) := by
          rcases hp with e | ⟨b, b1, b2⟩
          · exact e
          · rw [b2] at q
            have := congrArg Int32.toInt q
            have e2 : (nI b).toInt = b := nI_toInt (by omega)
            have e3 : (-1 : Int32).toInt = -1 := rfl
            rw [show ((nI b, stpE (sN s) (lAt (sL s) b) (nI k)).1 : Int32) = nI b from rfl, e2, e3] at this
            omega
        refine b_X12_nearest_63 hg (by omega) k00 XX _ _ _ _ (nxt (nI i, stpE (sN s) (lAt (sL s) i) (nI k)) ?_)
        rw [nrG, ep]
        have : ¬ ((-1, 12) : Int32 × Int32).2 ≤ stpE (sN s) (lAt (sL s) i) (nI k) := fun z => by
          rw [si2] at z
          exact absurd (le_nI (x := 12) (by omega) (by omega) z) (by omega)
        rw [if_neg this]
      · rcases hp with e | ⟨b, b1, b2⟩
        · rw [e] at q; exact absurd rfl q
        · obtain ⟨ab, ab1, ab2⟩ := (hI.lok.2 b b1).1
          have n1 := nxt p
          have n2 := nxt (nI i, stpE (sN s) (lAt (sL s) i) (nI k))
          rw [b2] at n1 n2 ⊢
          refine ⟨_, r1.n40, ?_⟩
          rw [show (37 : Int32) + nI i = nI (37 + i) from nI_add 37 i, show (37 : Int32) + (nI b, stpE (sN s) (lAt (sL s) b) (nI k)).1 = nI (37 + b) from nI_add 37 b]
          refine ⟨_, r1.r14 (by omega), ?_⟩
          rw [s1.at0 hin, ai2]
          refine ⟨_, r1.o, use_i (d_stepsBy (d := d - 1) hg (by omega) r1 s1.n o2 (by omega) (by omega)) (by omega) k00 ⟨_, r1.n40, _, r1.r14 (by omega), ?_⟩⟩
          rw [s1.at0 b1, ab2]
          refine ⟨_, r1.o, use_i (d_stepsBy (d := d - 1) hg (by omega) r1 s1.n o2 (by omega) (by omega)) (by omega) k00 ⟨fun y => ?_, fun y => ?_⟩⟩
          · rw [← ab2, ← ai2] at y
            exact n1 (by rw [nrG, if_pos y])
          · rw [← ab2, ← ai2] at y
            exact b_X12_nearest_63 hg (by omega) k00 XX _ _ _ _ (n2 (by rw [nrG, if_neg y]))
  exact lp (sW s) 0 (-1, 12) (by omega) (Or.inl rfl) rfl
end RO
