/-! THE REFERENCE'S public methods: toHold, gales, a game, years -/
def thR (T : ToldV) (a n : Nat) (L : LandV) : Nat → Nat → Int32
  | 0, _ => -1
  | j + 1, m => if scF T a n (sSm L a (min99 (lSm L a + nI m))) then nI m else thR T a n L j (m + 1)
theorem thR_no {T : ToldV} {a n q : Nat} {L : LandV} (hq : lSm L a = nI q) (hq2 : q ≤ 99) (hf : scF T a n (sSm L a 99) = false) : ∀ (j m : Nat), 99 - q ≤ m → m + j < 2 ^ 20 → thR T a n L j m = -1 := by
  intro j
  induction j with
  | zero => intro m _ _; rfl
  | succ j ih =>
    intro m hm hb
    have e : min99 (lSm L a + nI m) = 99 := by
      rw [hq, nI_add, min99, if_neg]
      exact nI_nlt (a := q + m) (b := 99) (by omega) (by omega)
    rw [thR, e, hf, if_neg (by decide)]
    exact ih (m + 1) (by omega) (by omega)
theorem thR_eq {T : ToldV} {a n q : Nat} {L : LandV} (hq : lSm L a = nI q) (hq2 : q ≤ 99) : ∀ (j m : Nat), m + (j + 1) = 100 - q → thR T a n L (j + 1 + q) m = thdF T a n L (j + 1) m := by
  intro j
  have em : ∀ m, m ≤ 99 - q → min99 (lSm L a + nI m) = lSm L a + nI m := by
    intro m hm
    rw [hq, nI_add, min99]
    by_cases e : q + m < 99
    · have e' : nI (q + m) < 99 := nI_lt (b := 99) e (by omega)
      rw [if_pos e']
    · rw [show q + m = 99 by omega]; rfl
  induction j with
  | zero =>
    intro m hm
    rw [show 0 + 1 + q = q + 1 by omega, thR, thdF, em m (by omega)]
    by_cases e : scF T a n (sSm L a (lSm L a + nI m)) = true
    · rw [if_pos e, if_pos e]
    · rw [if_neg e, if_neg e]
      refine thR_no hq hq2 ?_ _ _ (by omega) (by omega)
      rw [hq, nI_add, show q + m = 99 by omega] at e
      have e2 : ¬ scF T a n (sSm L a 99) = true := e
      simpa using e2
  | succ j ih =>
    intro m hm
    rw [show j + 1 + 1 + q = (j + 1 + q) + 1 by omega, thR, thdF, em m (by omega), ih (m + 1) (by omega)]
section RG
variable {g : GG} {h h2 : Hp} {B b d D k kc ks mc ms : Nat} {T : ToldV} {X Y : LandV} {R0 R R' : RefV} {s s' : CoreV} {a : Int32}
theorem r_toHold (hg : GOK g) (hd : 20 ≤ d) (hR : RA h B R) (hI : IV s) (hS : RS s R) (u v : Int32) : CT g d yX12_toHold (wsC yX12_toHold cX12_toHold 6 (some .int)) [.ref B, .int u, .int v] h 0 0 (PrM h B cd2 s (m_toHold s u v)) noT := by
  have o1 := hI.o1
  have o2 := hI.o2
  refine CT_ofB (by decide +kernel) (Nat.le_of_ble_eq_true rfl) rfl fun K XX => ?_
  have r1 := hR.put (sI R 0 0)
  have s1 := hS.s0 hI
  have z1 : ri (sI R 0 0) 0 = 0 := ri_sI
  refine b_X12_toHold_0 hg (by omega) k00 XX _ _ _ _ ⟨_, hR.w0 0, ?_⟩
  generalize sI R 0 0 = R1 at *
  refine ⟨_, r1.o, use_ck (d_isStretch (d := d - 1) hg (by omega) r1 z1 s1.n u) (by omega) k00 (fun c => ⟨fun e => absurd e (by decide), fun _ => ?_⟩) (fun c => ⟨fun _ => ptM (b := true) hI s1 ((QF.refl R1).i rfl) ri_sI (by rw [m_toHold, c]; rfl) (hR.pp _ _), fun e => absurd rfl e⟩)⟩
  refine ⟨_, r1.o, use_ck (d_isDays (d := d - 1) hg (by omega) r1 z1 v 1 (w := 2) (by decide)) (by omega) k00 (fun c3 => ⟨fun _ => ?_, fun e => absurd e (by decide)⟩) (fun c3 => ⟨fun e => absurd rfl e, fun _ => ptM (b := false) hI s1 ((QF.refl R1).i rfl) ri_sI (by rw [m_toHold, c, c3]; rfl) (hR.pp _ _)⟩)⟩
  obtain ⟨eu, hu⟩ := inB_k (by omega) c
  obtain ⟨ev, _, hv⟩ := dyB_k (m := 1) (by omega) c3
  obtain ⟨q, q1, q2⟩ := (hI.lok.1 (cl u) hu).2.1
  have em : m_toHold s u v = .inl (thR (sT s) (cl u) (cl v) (sL s) 100 0, s) := by
    rw [m_toHold, if_pos c, if_pos c3]
    refine congrArg Sum.inl (Prod.ext ?_ rfl)
    show thdF _ _ _ _ _ _ = thR _ _ _ _ _ _
    rw [q2, show (99 : Int32) - nI q = nI (99 - q) from pk_sub (a := 99) q1, show cl (nI (99 - q)) = 99 - q from nI_clamp (by omega), ← thR_eq q2 q1 (99 - q) 0 (by omega)]
    congr 1
    omega
  rw [em]
  generalize hk : cl u = k at *
  generalize hn : cl v = n at *
  rw [eu, ev]
  have outer : ∀ (j m : Nat) (R2 : RefV), m + j = 100 → QF R1 R2 → ri R2 0 = 0 → thR (sT s) k n (sL s) j m = thR (sT s) k n (sL s) 100 0 → VB g K 6 d 0 0 (PrM h B cd2 s (.inl (thR (sT s) k n (sL s) 100 0, s))) noT 0 0 27 [some (.ref B), some (.int (nI k)), some (.int (nI n)), some (.int (nI m)), none, none] [] (pR h B R2) := by
    intro j
    induction j with
    | zero =>
      intro m R2 hm q2 z2 he
      exact b_X12_toHold_27 hg (by omega) k00 XX _ _ _ _ _ ⟨fun _ => prM hI s1 q2 z2 (by rw [← he]; rfl) rfl, fun q => absurd (nlt_nI (x := 99) (by omega) (by omega) q) (by omega)⟩
    | succ j ih =>
      intro m R2 hm qf2 z2 he
      have r2 := hR.put R2
      have s2 := s1.qf hI qf2
      refine b_X12_toHold_27 hg (by omega) k00 XX _ _ _ _ _ ⟨fun q => absurd (lt_nI (x := 99) (by omega) (by omega) q) (by omega), fun _ => ⟨_, r2.o, q_try hg r2 hI s2 (by omega) k00 ?_⟩⟩
      rintro R3 ⟨q3, t3, i3, _⟩
      rw [hR.pp]
      have r3 := hR.put R3
      refine ⟨_, r3.n40, _, r3.n40, ?_⟩
      rw [show (62 : Int32) + nI k = nI (62 + k) from nI_add 62 k]
      refine ⟨_, r3.r14 (by omega), use_i (d_lesser (d := d - 1) hg (by omega) _ _) (by omega) k00 ⟨_, r3.u14 (by omega), ?_⟩⟩
      rw [hR.pp, t3.sm hu, lsE_99]
      have x4 := t3.uSm (k := k) (v := min99 (lSm (sL s) k + nI m)) hu
      have l4 : LOK (sN s) (sW s) (sSm (sL s) k (min99 (lSm (sL s) k + nI m))) := by
        rw [q2, nI_add]
        obtain ⟨e, e1, e2⟩ := min99_r (q + m) (by omega)
        rw [e2]; exact hI.lok.sm e1
      rw [thR] at he
      generalize hX4 : sSm (sL s) k (min99 (lSm (sL s) k + nI m)) = Y4 at *
      have q4 : QF R1 (sA R3 14 (upd (ra R3 14) (62 + k) (min99 (lSm (sL s) k + nI m)))) := (qf2.trans q3).trans (TX.qf x4)
      have z4 : ri (sA R3 14 (upd (ra R3 14) (62 + k) (min99 (lSm (sL s) k + nI m)))) 0 = 0 := by show ri R3 0 = 0; rw [i3, z2]
      have t4 := TX.tm x4
      show VB g K 6 d 0 0 _ _ _ _ _ _ _ (pR h B (sA R3 14 (upd (ra R3 14) (62 + k) (min99 (lSm (sL s) k + nI m)))))
      generalize sA R3 14 (upd (ra R3 14) (62 + k) (min99 (lSm (sL s) k + nI m))) = R4 at *
      have fin : ∀ (cc : Bool) (R5 : RefV), QF R1 R5 → ri R5 0 = 0 → cc = scF (sT s) k n Y4 → VB g K 6 d 0 0 (PrM h B cd2 s (.inl (thR (sT s) k n (sL s) 100 0, s))) noT 0 0 108 [some (.ref B), some (.int (nI k)), some (.int (nI n)), some (.int (nI m)), some (.int (if cc then 1 else 0)), none] [] (pR h B R5) := by
        intro cc R5 q5 z5 hc
        refine b_X12_toHold_108 hg (by omega) k00 XX _ _ _ _ _ _ ⟨fun y => ?_, fun y => prM hI s1 q5 z5 ?_ rfl⟩
        · rw [nI_s]
          refine ih (m + 1) R5 (by omega) q5 z5 ?_
          rw [← hc, if_neg (gp_n rfl y)] at he
          exact he
        · rw [← he, ← hc, if_pos (gp_y rfl y)]
      have inner : ∀ (j2 i : Nat) (cc : Bool) (R5 : RefV) (Y5 : LandV), i + j2 = n → QF R1 R5 → ri R5 0 = 0 → TM (sT s) Y5 R5 → LOK (sN s) (sW s) Y5 → (if cc then scF (sT s) k j2 Y5 else false) = scF (sT s) k n Y4 → VB g K 6 d 0 0 (PrM h B cd2 s (.inl (thR (sT s) k n (sL s) 100 0, s))) noT 0 0 68 [some (.ref B), some (.int (nI k)), some (.int (nI n)), some (.int (nI m)), some (.int (if cc then 1 else 0)), some (.int (nI i))] [] (pR h B R5) := by
        intro j2
        induction j2 with
        | zero =>
          intro i cc R5 Y5 hi q5 z5 t5 l5 hc
          refine b_X12_toHold_68 hg (by omega) k00 XX _ _ _ _ _ _ _ ⟨fun _ => fin cc R5 q5 z5 ?_, fun q => absurd (nle_nI (by omega) (by omega) q) (by omega)⟩
          rw [← hc]; cases cc <;> rfl
        | succ j2 ih2 =>
          intro i cc R5 Y5 hi q5 z5 t5 l5 hc
          have r5 := hR.put R5
          refine b_X12_toHold_68 hg (by omega) k00 XX _ _ _ _ _ _ _ ⟨fun q => absurd (le_nI (by omega) (by omega) q) (by omega), fun _ => ⟨fun y => fin cc R5 q5 z5 ?_, fun y => ⟨_, r5.o, q_day hg r5 t5 l5 hI.td (by omega) k00 ?_⟩⟩⟩
          · have nc := gp_n rfl y
            rw [← hc, if_neg nc]; simpa using nc
          · have nc := gp_y rfl y
            rw [if_pos nc, scF] at hc
            intro R6 x6
            rw [hR.pp]
            have r6 := hR.put R6
            have t6 := x6.tm
            have l6 := l5.day o2 (show 0 < tN_ (sT s) by show 0 < sN s; omega) hI.sk
            refine ⟨_, r6.o, use_i (d_isGap (b := 49) (d := d - 1) hg (by omega) r6 t6 hu) (by omega) k00 ⟨fun z => ?_, fun z => ?_⟩⟩
            · refine b_X12_toHold_100 hg (by omega) k00 XX _ _ _ _ _ _ _ ?_
              rw [nI_s]
              refine ih2 (i + 1) false R6 _ (by omega) (q5.trans x6.qf) (by rw [x6.df.1, z5]) t6 l6 ?_
              rw [if_pos (gp_y rfl z)] at hc
              exact hc
            · refine b_X12_toHold_100 hg (by omega) k00 XX _ _ _ _ _ _ _ ?_
              rw [nI_s]
              refine ih2 (i + 1) true R6 _ (by omega) (q5.trans x6.qf) (by rw [x6.df.1, z5]) t6 l6 ?_
              rw [if_neg (gp_n rfl z)] at hc
              exact hc
      exact inner n 0 true R4 Y4 (by omega) q4 z4 t4 l4 rfl
  exact outer 100 0 R1 (by omega) (QF.refl _) z1 rfl
theorem LOK.gale {n w : Nat} : ∀ (j i : Nat) {X : LandV}, i + j ≤ n → LOK n w X → LOK n w (galeFrom j i X) := by
  intro j
  induction j with
  | zero => intro i X _ q; exact q
  | succ j ih => intro i X hi q; exact ih (i + 1) (by omega) (q.sif (a := 15) (by omega) (by omega))
theorem wt_nI {v t : Int32} {c : Nat} (hc : c ≤ 10) (ht : t = nI c) : ∀ (j i m : Nat), m ≤ 10 ^ i → i + j ≤ 5 → ∃ e, e ≤ 10 ^ (i + j) ∧ foldN (wtG v t) j i (nI m) = nI e := by
  intro j
  induction j with
  | zero => intro i m hm _; exact ⟨m, hm, rfl⟩
  | succ j ih =>
    intro i m hm hi
    rw [foldN, wtG]
    obtain ⟨f, f1, f2⟩ : ∃ f, f ≤ 10 ∧ (if bitE v i = 1 then t else 10 - t) = nI f := by
      split
      · exact ⟨c, hc, ht⟩
      · exact ⟨10 - c, by omega, by rw [ht]; exact pk_sub (a := 10) hc⟩
    rw [f2, pk_mul]
    have hm2 : m * f ≤ 10 ^ (i + 1) := by rw [Nat.pow_succ]; exact Nat.mul_le_mul hm f1
    obtain ⟨e, e1, e2⟩ := ih (i + 1) (m * f) hm2 (by omega)
    exact ⟨e, by rw [show i + (j + 1) = i + 1 + j by omega]; exact e1, e2⟩
theorem r_gales (hg : GOK g) (hd : 20 ≤ d) (hR : RA h B R) (hI : IV s) (hS : RS s R) (u t : Int32) : CT g d yX12_gales (wsC yX12_gales cX12_gales 9 (some .int)) [.ref B, .int u, .int t] h 0 0 (PrM h B cd1 s (m_gales s u t)) noT := by
  have o1 := hI.o1
  have o2 := hI.o2
  refine CT_ofB (by decide +kernel) (Nat.le_of_ble_eq_true rfl) rfl fun K XX => ?_
  have r1 := hR.put (sI R 0 0)
  have s1 := hS.s0 hI
  have z1 : ri (sI R 0 0) 0 = 0 := ri_sI
  refine b_X12_gales_0 hg (by omega) k00 XX _ _ _ _ ⟨_, hR.w0 0, ?_⟩
  generalize sI R 0 0 = R1 at *
  have no : m_gales s u t = .inr false → VB g K 9 d 0 0 (PrM h B cd1 s (m_gales s u t)) noT 0 0 29 [some (.ref B), some (.int u), some (.int t), none, none, none, none, none, none] [.ref B] (pR h B R1) := by
    intro e
    refine b_X12_gales_29 hg (by omega) k00 XX _ _ _ _ _ (b_X12_gales_30 hg (by omega) k00 XX _ _ _ _ _ _ ⟨_, r1.o, use_ck (d_right (d := d - 1) hg (by omega) r1 z1 false (by decide)) (by omega) k00 (fun c => absurd c (by decide)) (fun c => ⟨fun e => absurd rfl e, fun _ => ptM (b := false) hI s1 ((QF.refl R1).i rfl) ri_sI e (hR.pp _ _)⟩)⟩)
  refine use_i (d_within (d := d - 1) hg (by omega) u 1 5) (by omega) k00 ⟨fun q => no ?_, fun q => ?_⟩
  · rcases wnB_f (by simpa using gp_n rfl q) with e | e
    · rw [m_gales, if_pos e]
    · by_cases e2 : u < 1
      · rw [m_gales, if_pos e2]
      · rw [m_gales, if_neg e2, if_pos e]
  have c1 := wnB_t (gp_y rfl q)
  refine use_i (d_within (d := d - 1) hg (by omega) t 0 10) (by omega) k00 ⟨fun q => no ?_, fun q => ?_⟩
  · rcases wnB_f (by simpa using gp_n rfl q) with e | e
    · rw [m_gales, if_neg c1.1, if_neg c1.2, if_pos e]
    · rw [m_gales, if_neg c1.1, if_neg c1.2, if_neg (Int32.not_le.mpr e)]; split <;> rfl
  have c2 := wnB_t (gp_y rfl q)
  have em : m_gales s u t = .inl (glF s t (cl u), s) := by rw [m_gales, if_neg c1.1, if_neg c1.2, if_neg c2.1, if_pos (Int32.not_lt.mp c2.2)]
  rw [em]
  have u0 : ¬ u < 0 := fun e => c1.1 (Int32.lt_trans e (by decide))
  have eu := nI_cl u0
  have hu : cl u ≤ 5 := by
    have := Int32.not_lt.mp c1.2
    rw [eu, show (5 : Int32) = nI 5 from rfl] at this
    exact le_nI (cl_lt u) (by omega) this
  obtain ⟨tc, tc1, tc2⟩ := nI_of2 (x := t) (M := 10) (n := 10) rfl c2.1 (Int32.not_lt.mp c2.2)
  generalize cl u = n at *
  rw [eu]
  have h2n : 2 ^ n ≤ 2 ^ 5 := Nat.pow_le_pow_right (by omega) hu
  have egl : glF s t n = foldN (glG (sT s) (sL s) t n (opnB (sN s) (sL s) ^^^ (-1))) (2 ^ n) 0 0 := rfl
  refine b_X12_gales_30 hg (by omega) k00 XX _ _ _ _ _ _ ⟨_, r1.o, use_ck (d_right (c := true) (d := d - 1) hg (by omega) r1 z1 (by decide)) (by omega) k00 (fun _ => ⟨fun _ => ?_, fun e => absurd e (by decide)⟩) (fun c => absurd c (by decide))⟩
  have lp : ∀ (j i : Nat) (R2 : RefV) (p : Int32), i + j = 2 ^ n → QF R1 R2 → ri R2 0 = 0 → foldN (glG (sT s) (sL s) t n (opnB (sN s) (sL s) ^^^ (-1))) j i p = glF s t n → VB g K 9 d 0 0 (PrM h B cd1 s (.inl (glF s t n, s))) noT 0 0 44 [some (.ref B), some (.int (nI n)), some (.int t), some (.int p), some (.int (nI i)), none, none, none, none] [] (pR h B R2) := by
    intro j
    induction j with
    | zero =>
      intro i R2 p hi q2 z2 he
      have he' : p = glF s t n := he
      refine b_X12_gales_44 hg (by omega) k00 XX _ _ _ _ _ _ ⟨fun _ => prM hI s1 q2 z2 (by rw [he']) rfl, fun q => ?_⟩
      rw [shl_nI (by omega)] at q
      exact absurd (nle_nI (by omega) (by omega) q) (by omega)
    | succ j ih =>
      intro i R2 p hi q2 z2 he
      have r2 := hR.put R2
      have s2 := s1.qf hI q2
      refine b_X12_gales_44 hg (by omega) k00 XX _ _ _ _ _ _ ⟨fun q => ?_, fun _ => ⟨_, r2.o, q_try hg r2 hI s2 (by omega) k00 ?_⟩⟩
      · rw [shl_nI (by omega)] at q
        exact absurd (le_nI (by omega) (by omega) q) (by omega)
      rintro R3 ⟨q3, t3, i3, _⟩
      rw [hR.pp]
      have inner : ∀ (j2 k : Nat) (R4 : RefV) (Y : LandV) (w : Int32), k + j2 = n → QF R1 R4 → ri R4 0 = 0 → TM (sT s) Y R4 → LOK (sN s) (sW s) Y → foldN (blG (sT s) (nI i)) j2 k Y = blF (sT s) (nI i) n (sL s) → foldN (wtG (nI i) t) j2 k w = wtF (nI i) t n → VB g K 9 d 0 0 (PrM h B cd1 s (.inl (glF s t n, s))) noT 0 0 62 [some (.ref B), some (.int (nI n)), some (.int t), some (.int p), some (.int (nI i)), some (.int w), some (.int (nI k)), none, none] [] (pR h B R4) := by
        intro j2
        induction j2 with
        | zero =>
          intro k R4 Y w hk q4 z4 t4 l4 hY hw
          have r4 := hR.put R4
          have s4 := s1.qf hI q4
          have hY' : Y = blF (sT s) (nI i) n (sL s) := hY
          have hw' : w = wtF (nI i) t n := hw
          have nxt : ∀ a : Int32, p + a = glG (sT s) (sL s) t n (opnB (sN s) (sL s) ^^^ (-1)) i p → VB g K 9 d 0 0 (PrM h B cd1 s (.inl (glF s t n, s))) noT 0 0 184 [some (.ref B), some (.int (nI n)), some (.int t), none, some (.int (nI i)), none, none, none, none] [.int a, .int p] (pR h B R4) := by
            intro a ha
            refine b_X12_gales_184 hg (by omega) k00 XX _ _ _ _ _ _ _ ?_
            rw [nI_s, ha]
            exact ih (i + 1) R4 _ (by omega) q4 z4 he
          refine b_X12_gales_62 hg (by omega) k00 XX _ _ _ _ _ _ _ _ ⟨fun _ => ⟨_, r4.o, use_i (d_openOnes (b := 49) (d := d - 1) hg (by omega) r4 t4) (by omega) k00 ⟨_, r4.o, use_i (d_openOnes (b := 0) (d := d - 1) hg (by omega) r4 (s4.tx hI)) (by omega) k00 ⟨fun y => nxt 0 ?_, fun y => nxt w ?_⟩⟩⟩, fun q => absurd (nle_nI (by omega) (by omega) q) (by omega)⟩
          · rw [hY'] at y
            have y' : opnB (tN_ (sT s)) (blF (sT s) (nI i) n (sL s)) &&& (opnB (sN s) (sL s) ^^^ (-1)) = 0 := y
            rw [Int32.add_zero, glG, if_pos y']
            split <;> rfl
          · rw [hY'] at y
            have y' : ¬ opnB (tN_ (sT s)) (blF (sT s) (nI i) n (sL s)) &&& (opnB (sN s) (sL s) ^^^ (-1)) = 0 := y
            rw [glG, if_neg y']
            by_cases hle : wtF (nI i) t n ≤ 0
            · rw [if_pos hle]
              obtain ⟨e, _, e2⟩ := wt_nI (v := nI i) tc1 tc2 n 0 1 (by decide) (by omega)
              have e3 : wtF (nI i) t n = nI e := e2
              rw [e3] at hle
              have e0 : e = 0 := by
                apply Classical.byContradiction
                intro ne
                have hle5 : e ≤ 10 ^ 5 := Nat.le_trans (by assumption) (Nat.pow_le_pow_right (by omega) (by omega))
                exact nI_nle (by omega) (by omega) hle
              rw [hw', e3, e0]
              exact Int32.add_zero _
            · rw [if_neg hle, hw']
        | succ j2 ih2 =>
          intro k R4 Y w hk q4 z4 t4 l4 hY hw
          rw [foldN, blG] at hY
          rw [foldN, wtG] at hw
          have day : ∀ (R5 : RefV) (Y5 : LandV), QF R1 R5 → ri R5 0 = 0 → TM (sT s) Y5 R5 → LOK (sN s) (sW s) Y5 → Y5 = (if bitE (nI i) k = 1 then galeFrom (tN_ (sT s)) 0 Y else Y) → VB g K 9 d 0 0 (PrM h B cd1 s (.inl (glF s t n, s))) noT 0 0 148 [some (.ref B), some (.int (nI n)), some (.int t), some (.int p), some (.int (nI i)), some (.int (w * (if bitE (nI i) k = 1 then t else 10 - t))), some (.int (nI k)), none, none] [] (pR h B R5) := by
            intro R5 Y5 q5 z5 t5 l5 e5
            have r5 := hR.put R5
            refine b_X12_gales_148 hg (by omega) k00 XX _ _ _ _ _ _ _ _ ⟨_, r5.o, q_day hg r5 t5 l5 hI.td (by omega) k00 ?_⟩
            intro R6 x6
            rw [hR.pp, nI_s]
            refine ih2 (k + 1) R6 _ _ (by omega) (q5.trans x6.qf) (by rw [x6.df.1, z5]) x6.tm (l5.day o2 (by show 0 < sN s; omega) hI.sk) ?_ hw
            rw [e5]; exact hY
          refine b_X12_gales_62 hg (by omega) k00 XX _ _ _ _ _ _ _ _ ⟨fun q => absurd (le_nI (by omega) (by omega) q) (by omega), fun _ => ⟨fun y => ?_, fun y => ?_⟩⟩
          · have y' : ¬ bitE (nI i) k = 1 := y
            simp only [if_neg y'] at day
            refine b_X12_gales_84 hg (by omega) k00 XX _ _ _ _ _ _ _ _ _ ⟨fun _ => b_X12_gales_101 hg (by omega) k00 XX _ _ _ _ _ _ _ _ _ _ (b_X12_gales_107 hg (by omega) k00 XX _ _ _ _ _ _ _ _ _ _ ?_), fun e => absurd rfl e⟩
            have r4 := hR.put R4
            refine ⟨_, r4.i1, fun _ => day R4 Y q4 z4 t4 l4 rfl, fun _ => ⟨fun _ => day R4 Y q4 z4 t4 l4 rfl, fun e => absurd rfl e⟩⟩
          · have y' : bitE (nI i) k = 1 := y
            simp only [if_pos y'] at day
            refine b_X12_gales_84 hg (by omega) k00 XX _ _ _ _ _ _ _ _ _ ⟨fun e => absurd e (by decide), fun _ => b_X12_gales_101 hg (by omega) k00 XX _ _ _ _ _ _ _ _ _ _ ?_⟩
            have gl : ∀ (j3 i5 : Nat) (R5 : RefV) (Y5 : LandV), i5 + j3 = sN s → QF R1 R5 → ri R5 0 = 0 → TM (sT s) Y5 R5 → LOK (sN s) (sW s) Y5 → galeFrom j3 i5 Y5 = galeFrom (tN_ (sT s)) 0 Y → VB g K 9 d 0 0 (PrM h B cd1 s (.inl (glF s t n, s))) noT 0 0 107 [some (.ref B), some (.int (nI n)), some (.int t), some (.int p), some (.int (nI i)), some (.int (w * t)), some (.int (nI k)), some (.int 1), some (.int (nI i5))] [] (pR h B R5) := by
              intro j3
              induction j3 with
              | zero =>
                intro i5 R5 Y5 h5 q5 z5 t5 l5 e5
                have r5 := hR.put R5
                exact b_X12_gales_107 hg (by omega) k00 XX _ _ _ _ _ _ _ _ _ _ ⟨_, by rw [r5.i1, t5.n], fun _ => day R5 Y5 q5 z5 t5 l5 (by rw [← e5]; rfl), fun q => absurd (nle_nI (by show sN s < _; omega) (by omega) q) (by show ¬ _ < sN s; omega)⟩
              | succ j3 ih3 =>
                intro i5 R5 Y5 h5 q5 z5 t5 l5 e5
                have r5 := hR.put R5
                have h5n : i5 < tN_ (sT s) := by show i5 < sN s; omega
                rw [galeFrom] at e5
                have nxt : ∀ (R6 : RefV), QF R1 R6 → ri R6 0 = 0 → TM (sT s) (sifC Y5 i5 15) R6 → VB g K 9 d 0 0 (PrM h B cd1 s (.inl (glF s t n, s))) noT 0 0 142 [some (.ref B), some (.int (nI n)), some (.int t), some (.int p), some (.int (nI i)), some (.int (w * t)), some (.int (nI k)), some (.int 1), some (.int (nI i5))] [] (pR h B R6) := by
                  intro R6 q6 z6 t6
                  refine b_X12_gales_142 hg (by omega) k00 XX _ _ _ _ _ _ _ _ _ _ ?_
                  rw [nI_s]
                  exact ih3 (i5 + 1) R6 _ (by omega) q6 z6 t6 (l5.sif (a := 15) h5n (by omega)) e5
                refine b_X12_gales_107 hg (by omega) k00 XX _ _ _ _ _ _ _ _ _ _ ⟨_, by rw [r5.i1, t5.n], fun q => absurd (le_nI (by show sN s < _; omega) (by omega) q) (by show ¬ sN s ≤ _; omega), fun _ => ⟨fun e => absurd e (by decide), fun _ => ⟨_, r5.o, use_i (d_isGap (b := 49) (d := d - 1) hg (by omega) r5 t5 h5n) (by omega) k00 ⟨fun z => nxt R5 q5 z5 ?_, fun z => ⟨_, r5.o, use_vR (d_strains (b := 49) (d := d - 1) hg (by omega) r5 t5 h5n 15) (by omega) k00 ?_⟩⟩⟩⟩⟩
                · rw [sifC, if_pos (gp_y rfl z)]; exact t5
                · intro R6 x6
                  rw [hR.pp]
                  refine nxt R6 (q5.trans x6.qf) (by rw [x6.df.1, z5]) ?_
                  rw [sifC, if_neg (gp_n rfl z)]; exact x6.tm
            exact gl (sN s) 0 R4 Y (by omega) q4 z4 t4 l4 rfl
      exact inner n 0 R3 (sL s) 1 (by omega) (q2.trans q3) (by rw [i3, z2]) t3 hI.lok rfl rfl
  exact lp (2 ^ n) 0 R1 0 (by omega) (QF.refl _) z1 egl.symm
end RG
