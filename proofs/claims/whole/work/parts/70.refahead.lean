/-! THE REFERENCE'S public methods: if only days go by -/
section RH
variable {g : GG} {h h2 : Hp} {B b d D k kc ks mc ms : Nat} {T : ToldV} {X Y : LandV} {R0 R R' : RefV} {s s' : CoreV} {a : Int32}
theorem TM.st (q : TM T Y R) (hk : k < tN_ T) : ra R 14 (50 + k) = lStr Y k := q.rw_.st hk
theorem TM.sm (q : TM T Y R) (hk : k < tN_ T) : ra R 14 (62 + k) = lSm Y k := q.rw_.sm hk
theorem TM.at_ (q : TM T Y R) (hk : k < tW T) : ra R 14 (86 + k) = lAt Y k := q.rw_.at_ hk
theorem TM.th (q : TM T Y R) (hk : k < tW T) : ra R 14 (92 + k) = lTh Y k := q.rw_.th hk
theorem r_then (hg : GOK g) (hd : 20 ≤ d) (hR : RA h B R) (hI : IV s) (hS : RS s R) (u v w : Int32) : CT g d yX12_then (wsC yX12_then cX12_then 4 (some .int)) [.ref B, .int u, .int v, .int w] h 0 0 (PrM h B cd2 s (m_then s u v w)) noT := by
  have o2 := hI.o2
  have o3 := hI.o3
  refine CT_ofB (by decide +kernel) (Nat.le_of_ble_eq_true rfl) rfl fun K XX => ?_
  have r1 := hR.put (sI R 0 0)
  have s1 := hS.s0 hI
  have z1 : ri (sI R 0 0) 0 = 0 := ri_sI
  refine b_X12_then_0 hg (by omega) k00 XX _ _ _ _ _ ⟨_, hR.w0 0, ?_⟩
  generalize sI R 0 0 = R1 at *
  refine ⟨_, r1.o, use_ck (d_isStretch (d := d - 1) hg (by omega) r1 z1 s1.n u) (by omega) k00 (fun c => ⟨fun e => absurd e (by decide), fun _ => ?_⟩) (fun c => ⟨fun _ => ptM (b := true) hI s1 ((QF.refl R1).i rfl) ri_sI (by rw [m_then, c]; rfl) (hR.pp _ _), fun e => absurd rfl e⟩)⟩
  refine ⟨_, r1.o, use_ck (d_isWhat (d := d - 1) hg (by omega) r1 z1 w 1) (by omega) k00 (fun c2 => ⟨fun e => absurd e (by decide), fun _ => ?_⟩) (fun c2 => ⟨fun _ => ptM (b := true) hI s1 ((QF.refl R1).i rfl) ri_sI (by rw [m_then, c, c2]; rfl) (hR.pp _ _), fun e => absurd rfl e⟩)⟩
  refine ⟨_, r1.o, use_ck (d_isDays (d := d - 1) hg (by omega) r1 z1 v 0 (w := 2) (by decide)) (by omega) k00 (fun c3 => ⟨fun _ => ?_, fun e => absurd e (by decide)⟩) (fun c3 => ⟨fun e => absurd rfl e, fun _ => ptM (b := false) hI s1 ((QF.refl R1).i rfl) ri_sI (by rw [m_then, c, c2, c3]; rfl) (hR.pp _ _)⟩)⟩
  obtain ⟨eu, hu⟩ := inB_k (by omega) c
  obtain ⟨ev, _, hv⟩ := dyB_k (m := 0) (by omega) c3
  have em : m_then s u v w = .inl (if w = 0 then lStr (daysT (sT s) (cl v) (sL s)) (cl u) else lSm (daysT (sT s) (cl v) (sL s)) (cl u), s) := by rw [m_then, if_pos c, if_pos c2, if_pos c3]
  rw [em]
  generalize hk : cl u = k at *
  generalize hn : cl v = n at *
  rw [eu, ev]
  refine ⟨_, r1.o, q_goesTo hg r1 hI s1 (m := n) (by omega) (by omega) k00 ?_⟩
  rintro R2 ⟨q2, t2, i2⟩
  rw [hR.pp]
  have r2 := hR.put R2
  have z2 : ri R2 0 = 0 := by rw [i2, z1]
  refine ⟨_, r2.n40, fun y => ?_, fun y => ?_⟩
  · refine b_X12_then_55 hg (by omega) k00 XX _ _ _ _ _ ?_
    rw [show (49 : Int32) + 13 + nI k = nI (62 + k) from ix3 49 13 k]
    exact ⟨_, r2.r14 (by omega), prM hI s1 q2 z2 (by rw [if_neg y, t2.sm hu]) rfl⟩
  · refine b_X12_then_55 hg (by omega) k00 XX _ _ _ _ _ ?_
    rw [show (49 : Int32) + 1 + nI k = nI (50 + k) from ix3 49 1 k]
    exact ⟨_, r2.r14 (by omega), prM hI s1 q2 z2 (by rw [if_pos y, t2.st hu]) rfl⟩
theorem r_where (hg : GOK g) (hd : 20 ≤ d) (hR : RA h B R) (hI : IV s) (hS : RS s R) (u v w : Int32) : CT g d yX12_where (wsC yX12_where cX12_where 4 (some .int)) [.ref B, .int u, .int v, .int w] h 0 0 (PrM h B cd2 s (m_where s u v w)) noT := by
  have o2 := hI.o2
  have o3 := hI.o3
  refine CT_ofB (by decide +kernel) (Nat.le_of_ble_eq_true rfl) rfl fun K XX => ?_
  have r1 := hR.put (sI R 0 0)
  have s1 := hS.s0 hI
  have z1 : ri (sI R 0 0) 0 = 0 := ri_sI
  refine b_X12_where_0 hg (by omega) k00 XX _ _ _ _ _ ⟨_, hR.w0 0, ?_⟩
  generalize sI R 0 0 = R1 at *
  refine ⟨_, r1.o, use_ck (d_isWoman (d := d - 1) hg (by omega) r1 z1 s1.w u) (by omega) k00 (fun c => ⟨fun e => absurd e (by decide), fun _ => ?_⟩) (fun c => ⟨fun _ => ptM (b := true) hI s1 ((QF.refl R1).i rfl) ri_sI (by rw [m_where, c]; rfl) (hR.pp _ _), fun e => absurd rfl e⟩)⟩
  refine ⟨_, r1.o, use_ck (d_isWhat (d := d - 1) hg (by omega) r1 z1 w 1) (by omega) k00 (fun c2 => ⟨fun e => absurd e (by decide), fun _ => ?_⟩) (fun c2 => ⟨fun _ => ptM (b := true) hI s1 ((QF.refl R1).i rfl) ri_sI (by rw [m_where, c, c2]; rfl) (hR.pp _ _), fun e => absurd rfl e⟩)⟩
  refine ⟨_, r1.o, use_ck (d_isDays (d := d - 1) hg (by omega) r1 z1 v 0 (w := 2) (by decide)) (by omega) k00 (fun c3 => ⟨fun _ => ?_, fun e => absurd e (by decide)⟩) (fun c3 => ⟨fun e => absurd rfl e, fun _ => ptM (b := false) hI s1 ((QF.refl R1).i rfl) ri_sI (by rw [m_where, c, c2, c3]; rfl) (hR.pp _ _)⟩)⟩
  obtain ⟨eu, hu⟩ := inB_k (by omega) c
  obtain ⟨ev, _, hv⟩ := dyB_k (m := 0) (by omega) c3
  have em : m_where s u v w = .inl (if w = 0 then lAt (daysT (sT s) (cl v) (sL s)) (cl u) else lTh (daysT (sT s) (cl v) (sL s)) (cl u), s) := by rw [m_where, if_pos c, if_pos c2, if_pos c3]
  rw [em]
  generalize hk : cl u = k at *
  generalize hn : cl v = n at *
  rw [eu, ev]
  refine ⟨_, r1.o, q_goesTo hg r1 hI s1 (m := n) (by omega) (by omega) k00 ?_⟩
  rintro R2 ⟨q2, t2, i2⟩
  rw [hR.pp]
  have r2 := hR.put R2
  have z2 : ri R2 0 = 0 := by rw [i2, z1]
  refine ⟨_, r2.n40, fun y => ?_, fun y => ?_⟩
  · refine b_X12_where_56 hg (by omega) k00 XX _ _ _ _ _ ?_
    rw [show (49 : Int32) + 43 + nI k = nI (92 + k) from ix3 49 43 k]
    exact ⟨_, r2.r14 (by omega), prM hI s1 q2 z2 (by rw [if_neg y, t2.th hu]) rfl⟩
  · refine b_X12_where_56 hg (by omega) k00 XX _ _ _ _ _ ?_
    rw [show (49 : Int32) + 37 + nI k = nI (86 + k) from ix3 49 37 k]
    exact ⟨_, r2.r14 (by omega), prM hI s1 q2 z2 (by rw [if_pos y, t2.at_ hu]) rfl⟩
theorem r_bare (hg : GOK g) (hd : 20 ≤ d) (hR : RA h B R) (hI : IV s) (hS : RS s R) (v : Int32) : CT g d yX12_bare (wsC yX12_bare cX12_bare 4 (some .int)) [.ref B, .int v] h 0 0 (PrM h B cd1 s (m_bare s v)) noT := by
  have o2 := hI.o2
  have o3 := hI.o3
  refine CT_ofB (by decide +kernel) (Nat.le_of_ble_eq_true rfl) rfl fun K XX => ?_
  have r1 := hR.put (sI R 0 0)
  have s1 := hS.s0 hI
  have z1 : ri (sI R 0 0) 0 = 0 := ri_sI
  refine b_X12_bare_0 hg (by omega) k00 XX _ _ _ ⟨_, hR.w0 0, ?_⟩
  generalize sI R 0 0 = R1 at *
  refine ⟨_, r1.o, use_ck (d_isDays (d := d - 1) hg (by omega) r1 z1 v 0 (w := 1) (by decide)) (by omega) k00 (fun c3 => ⟨fun _ => ?_, fun e => absurd e (by decide)⟩) (fun c3 => ⟨fun e => absurd rfl e, fun _ => ptM (b := false) hI s1 ((QF.refl R1).i rfl) ri_sI (by rw [m_bare, c3]; rfl) (hR.pp _ _)⟩)⟩
  obtain ⟨ev, _, hv⟩ := dyB_k (m := 0) (by omega) c3
  have em : m_bare s v = .inl (bitsF (fun k => lTh (daysT (sT s) (cl v) (sL s)) k == 0) (sW s), s) := by rw [m_bare, if_pos c3]
  rw [em]
  generalize hn : cl v = n at *
  rw [ev]
  refine ⟨_, r1.o, q_goesTo hg r1 hI s1 (m := n) (by omega) (by omega) k00 ?_⟩
  rintro R2 ⟨q2, t2, i2⟩
  rw [hR.pp]
  have r2 := hR.put R2
  have z2 : ri R2 0 = 0 := by rw [i2, z1]
  generalize hY : daysT (sT s) n (sL s) = Y at *
  refine upto (n := sW s) (P := fun k => VB g K 4 d 0 0 (PrM h B cd1 s (.inl (bitsF (fun k => lTh Y k == 0) (sW s), s))) noT 0 0 26 [some (.ref B), none, some (.int (bitsF (fun k => lTh Y k == 0) k)), some (.int (nI k))] [] (pR h B R2)) ?_ ?_ (sW s) 0 (by omega)
  · exact b_X12_bare_26 hg (by omega) k00 XX _ _ _ _ ⟨_, by rw [r2.i2, t2.w], fun _ => prM hI s1 q2 z2 rfl rfl, fun q => absurd (nle_nI (by show sW s < _; omega) (by omega) q) (by show ¬ _ < sW s; omega)⟩
  · intro k hk ih
    refine b_X12_bare_26 hg (by omega) k00 XX _ _ _ _ ⟨_, by rw [r2.i2, t2.w], fun q => absurd (le_nI (by show sW s < _; omega) (by omega) q) (by show ¬ sW s ≤ _; omega), fun _ => ⟨_, r2.n40, ?_⟩⟩
    rw [show (92 : Int32) + nI k = nI (92 + k) from nI_add 92 k]
    refine ⟨_, r2.r14 (by omega), fun q => ?_, fun q => ?_⟩
    · rw [t2.th hk] at q
      refine b_X12_bare_54 hg (by omega) k00 XX _ _ _ _ _ ?_
      rw [nI_s, Int32.or_zero]; simpa [bitsF, q] using ih
    · rw [t2.th hk] at q
      refine b_X12_bare_54 hg (by omega) k00 XX _ _ _ _ _ ?_
      rw [nI_s]; simpa [bitsF, q] using ih
/-- the first of the smallest -/
def lowF (f : AF) : Nat → Nat
  | 0 => 0
  | k + 1 => if f (lowF f k) ≤ f (k + 1) then lowF f k else k + 1
theorem lowF_le (f : AF) (k : Nat) : lowF f k ≤ k := by
  induction k with
  | zero => exact Nat.le_refl _
  | succ k ih => unfold lowF; split <;> omega
theorem lowF_v (f : AF) (k : Nat) : f (lowF f k) = leastF f k := by
  induction k with
  | zero => rfl
  | succ k ih =>
    unfold lowF leastF
    rw [← ih]
    by_cases e : f (lowF f k) ≤ f (k + 1)
    · rw [if_pos e, if_neg (Int32.not_lt.mpr e)]
    · rw [if_neg e, if_pos (Int32.not_le.mp e)]
theorem bestF_v (f : AF) (k : Nat) : f (bestF f k) = mostF f k := by
  induction k with
  | zero => rfl
  | succ k ih =>
    unfold bestF mostF
    rw [← ih]
    by_cases e : f (k + 1) ≤ f (bestF f k)
    · rw [if_pos e, if_neg (Int32.not_lt.mpr e)]
    · rw [if_neg e, if_pos (Int32.not_le.mp e)]
theorem d_extreme (hg : GOK g) (hd : 8 ≤ d) (hR : RA h B R) (hX : TX T b X R0 R) (c : Bool) : CT g d yX12_extreme (wsC yX12_extreme cX12_extreme 5 (some .int)) [.ref B, .int (nI b), .int (if c then 1 else 0)] h 0 0 (fun r h2 => r = some (.int (nI (if c then bestF (lStr X) (tN_ T - 1) else lowF (lStr X) (tN_ T - 1)))) ∧ h2 = h) noT := by
  obtain ⟨o1, o2, o3⟩ := hX.tok
  have hb := hX.b49
  refine CT_ofB (by decide +kernel) (Nat.le_of_ble_eq_true rfl) rfl fun K XX => ?_
  refine b_X12_extreme_0 hg (by omega) k00 XX _ _ _ _ ?_
  refine upto (n := tN_ T - 1) (P := fun k => ∀ m, m = (if c then bestF (lStr X) k else lowF (lStr X) k) → VB g K 5 d 0 0 (fun r h2 => r = some (.int (nI (if c then bestF (lStr X) (tN_ T - 1) else lowF (lStr X) (tN_ T - 1)))) ∧ h2 = h) noT 0 0 5 [some (.ref B), some (.int (nI b)), some (.int (if c then 1 else 0)), some (.int (nI m)), some (.int (nI (k + 1)))] [] h) ?_ ?_ (tN_ T - 1) 0 (by omega) 0 (by cases c <;> rfl)
  · intro m hm
    exact b_X12_extreme_5 hg (by omega) k00 XX _ _ _ _ _ _ ⟨_, by rw [hR.i1, hX.n], fun _ => ⟨by rw [hm], rfl⟩, fun q => absurd (nle_nI (by omega) (by omega) q) (by omega)⟩
  · intro k hk ih m0 hm0
    have hbe := bestF_le (lStr X) k
    have hlo := lowF_le (lStr X) k
    have nxt : ∀ m, m = (if c then bestF (lStr X) (k + 1) else lowF (lStr X) (k + 1)) → VB g K 5 d 0 0 (fun r h2 => r = some (.int (nI (if c then bestF (lStr X) (tN_ T - 1) else lowF (lStr X) (tN_ T - 1)))) ∧ h2 = h) noT 0 0 72 [some (.ref B), some (.int (nI b)), some (.int (if c then 1 else 0)), some (.int (nI m)), some (.int (nI (k + 1)))] [] h := by
      intro m hm
      refine b_X12_extreme_72 hg (by omega) k00 XX _ _ _ _ _ _ ?_
      rw [nI_s]; exact ih m hm
    subst hm0
    refine b_X12_extreme_5 hg (by omega) k00 XX _ _ _ _ _ _ ⟨_, by rw [hR.i1, hX.n], fun q => absurd (le_nI (by omega) (by omega) q) (by omega), fun _ => ⟨fun q => ?_, fun q => ?_⟩⟩
    · cases c with
      | true => exact absurd q (by decide)
      | false =>
        refine ⟨_, hR.n40, ?_⟩
        simp only [show (1 : Int32) = nI 1 from rfl, ix3]
        refine ⟨_, hR.r14 (by omega), _, hR.n40, _, hR.r14 (k := b + 1 + lowF (lStr X) k) (by omega), ?_⟩
        rw [hX.rw_.st (k := k + 1) (by omega), hX.rw_.st (k := lowF (lStr X) k) (by omega)]
        refine ⟨fun z => nxt (lowF (lStr X) k) ?_, fun z => b_X12_extreme_69 hg (by omega) k00 XX _ _ _ _ _ (nxt (k + 1) ?_)⟩
        · show _ = lowF (lStr X) (k + 1)
          rw [lowF, if_pos z]
        · show _ = lowF (lStr X) (k + 1)
          rw [lowF, if_neg z]
    · cases c with
      | false => exact absurd rfl q
      | true =>
        refine ⟨_, hR.n40, ?_⟩
        simp only [show (1 : Int32) = nI 1 from rfl, ix3]
        refine ⟨_, hR.r14 (by omega), _, hR.n40, _, hR.r14 (k := b + 1 + bestF (lStr X) k) (by omega), ?_⟩
        rw [hX.rw_.st (k := k + 1) (by omega), hX.rw_.st (k := bestF (lStr X) k) (by omega)]
        refine ⟨fun z => nxt (bestF (lStr X) k) ?_, fun z => b_X12_extreme_69 hg (by omega) k00 XX _ _ _ _ _ (nxt (k + 1) ?_)⟩
        · show _ = bestF (lStr X) (k + 1)
          rw [bestF, if_pos z]
        · show _ = bestF (lStr X) (k + 1)
          rw [bestF, if_neg z]
theorem r_later (hg : GOK g) (hd : 20 ≤ d) (hR : RA h B R) (hI : IV s) (hS : RS s R) (v w : Int32) : CT g d yX12_later (wsC yX12_later cX12_later 3 (some .int)) [.ref B, .int v, .int w] h 0 0 (PrM h B cd2 s (m_later s v w)) noT := by
  have o1 := hI.o1
  have o2 := hI.o2
  have o3 := hI.o3
  refine CT_ofB (by decide +kernel) (Nat.le_of_ble_eq_true rfl) rfl fun K XX => ?_
  have r1 := hR.put (sI R 0 0)
  have s1 := hS.s0 hI
  have z1 : ri (sI R 0 0) 0 = 0 := ri_sI
  refine b_X12_later_0 hg (by omega) k00 XX _ _ _ _ ⟨_, hR.w0 0, ?_⟩
  generalize sI R 0 0 = R1 at *
  refine ⟨_, r1.o, use_ck (d_isWhat (d := d - 1) hg (by omega) r1 z1 w 3) (by omega) k00 (fun c2 => ⟨fun e => absurd e (by decide), fun _ => ?_⟩) (fun c2 => ⟨fun _ => ptM (b := true) hI s1 ((QF.refl R1).i rfl) ri_sI (by rw [m_later, c2]; rfl) (hR.pp _ _), fun e => absurd rfl e⟩)⟩
  refine ⟨_, r1.o, use_ck (d_isDays (d := d - 1) hg (by omega) r1 z1 v 0 (w := 2) (by decide)) (by omega) k00 (fun c3 => ⟨fun _ => ?_, fun e => absurd e (by decide)⟩) (fun c3 => ⟨fun e => absurd rfl e, fun _ => ptM (b := false) hI s1 ((QF.refl R1).i rfl) ri_sI (by rw [m_later, c2, c3]; rfl) (hR.pp _ _)⟩)⟩
  obtain ⟨ev, _, hv⟩ := dyB_k (m := 0) (by omega) c3
  have em : m_later s v w = .inl (latV s (daysT (sT s) (cl v) (sL s)) w, s) := by rw [m_later, if_pos c2, if_pos c3]
  rw [em]
  generalize hn : cl v = n at *
  rw [ev]
  refine ⟨_, r1.o, q_goesTo hg r1 hI s1 (m := n) (by omega) (by omega) k00 ?_⟩
  rintro R2 ⟨q2, t2, i2⟩
  rw [hR.pp]
  have r2 := hR.put R2
  have z2 : ri R2 0 = 0 := by rw [i2, z1]
  have s2 := s1.qf hI q2
  generalize hY : daysT (sT s) n (sL s) = Y at *
  have fin : ∀ a, a = latV s Y w → PrM h B cd2 s (.inl (latV s Y w, s)) (some (.int a)) (pR h B R2) := fun a e => prM hI s1 q2 z2 (by rw [e]) rfl
  refine ⟨fun q => ?_, fun q => ?_, fun q => ?_, fun q => ?_⟩
  · obtain ⟨j, j1, j2⟩ := whB_v (n := 3) (by omega) c2
    have e3 : w = 3 := by
      have : w.toInt = j := by rw [j2]; exact nI_toInt (by omega)
      rw [j2, show j = 3 by omega]; rfl
    subst e3
    refine ⟨_, by rw [r2.i2, s2.w], _, r2.o, use_i (d_sumOf (b := 0) (o := 43) (d := d - 1) hg (by omega) r2 (by omega)) (by omega) k00 ⟨_, by rw [r2.i2, s2.w], _, r2.o, use_i (d_sumOf (b := 49) (o := 43) (d := d - 1) hg (by omega) r2 (by omega)) (by omega) k00 (fin _ ?_)⟩⟩
    rw [latV, if_neg (by decide), if_neg (by decide), if_neg (by decide)]
    have e1 : sumF (fun k => ra R2 14 (0 + 43 + k)) (sW s) = sumF (lTh (sL s)) (sW s) := sumF_congr fun k hk => s2.le.th hk
    have e2 : sumF (fun k => ra R2 14 (49 + 43 + k)) (sW s) = sumF (lTh Y) (sW s) := sumF_congr fun k hk => t2.rw_.th hk
    rw [e1, e2]
  · obtain rfl : w = 0 := tI_eq (by rw [q]; rfl)
    exact ⟨_, r2.o, use_i (d_openOnes (b := 49) (d := d - 1) hg (by omega) r2 t2) (by omega) k00 (fin _ rfl)⟩
  · obtain rfl : w = 1 := tI_eq (by rw [q]; rfl)
    exact ⟨_, r2.o, use_i (d_extreme (b := 49) (d := d - 1) hg (by omega) r2 t2 true) (by omega) k00 (fin _ rfl)⟩
  · obtain rfl : w = 2 := tI_eq (by rw [q]; rfl)
    have hbe := bestF_le (lStr Y) (sN s - 1)
    have hlo := lowF_le (lStr Y) (sN s - 1)
    refine ⟨_, r2.n40, _, r2.o, use_i (d_extreme (b := 49) (d := d - 1) hg (by omega) r2 t2 true) (by omega) k00 ?_⟩
    rw [show (50 : Int32) + nI (if true = true then bestF (lStr Y) (tN_ (sT s) - 1) else lowF (lStr Y) (tN_ (sT s) - 1)) = nI (50 + bestF (lStr Y) (sN s - 1)) from nI_add 50 _]
    refine ⟨_, r2.r14 (by omega), _, r2.n40, _, r2.o, use_i (d_extreme (b := 49) (d := d - 1) hg (by omega) r2 t2 false) (by omega) k00 ?_⟩
    rw [show (50 : Int32) + nI (if false = true then bestF (lStr Y) (tN_ (sT s) - 1) else lowF (lStr Y) (tN_ (sT s) - 1)) = nI (50 + lowF (lStr Y) (sN s - 1)) from nI_add 50 _]
    refine ⟨_, r2.r14 (by omega), fin _ ?_⟩
    rw [t2.st (k := bestF (lStr Y) (sN s - 1)) (by show _ < sN s; omega), t2.st (k := lowF (lStr Y) (sN s - 1)) (by show _ < sN s; omega), bestF_v (lStr Y), lowF_v (lStr Y)]
    rfl
/-- the day when it opens, or far -/
def opnD (T : ToldV) (a : Nat) : Nat → Nat → LandV → Option Nat
  | 0, _, _ => none
  | j + 1, k, X => if lSm X a = 0 then some k else opnD T a j (k + 1) (dayT T X)
theorem opnF_D (T : ToldV) (a : Nat) : ∀ (j k : Nat) (X : LandV), opnF T a j k X = (match opnD T a j k X with
    | some k => nI k
    | none => -1) := by
  intro j
  induction j with
  | zero => intro k X; rfl
  | succ j ih =>
    intro k X
    unfold opnF opnD
    by_cases e : lSm X a = 0
    · rw [if_pos e, if_pos e]
    · rw [if_neg e, if_neg e, ih]
theorem opnD_le (T : ToldV) (a : Nat) : ∀ (j k : Nat) (X : LandV) (m : Nat), opnD T a j k X = some m → k ≤ m ∧ m < k + j := by
  intro j
  induction j with
  | zero => intro k X m e; cases e
  | succ j ih =>
    intro k X m e
    unfold opnD at e
    split at e
    · cases e; omega
    · have := ih _ _ _ e; omega
def farE (o : Option Nat) : Int32 := match o with
  | some k => nI k
  | none => 99999
theorem c_opensIn (hg : GOK g) (hd : 17 ≤ d) (hR : RA h B R) (hI : IV s) (hS : RS s R) (hk : k < sN s) : CT g d yX12_opensIn (wsC yX12_opensIn cX12_opensIn 3 (some .int)) [.ref B, .int (nI k)] h 0 0 (fun r h2 => r = some (.int (farE (opnD (sT s) k 61 0 (sL s)))) ∧ ∃ R', h2 = pR h B R' ∧ (QF R R' ∧ ri R' = ri R)) noT := by
  have o1 := hI.o1
  have o2 := hI.o2
  refine CT_ofB (by decide +kernel) (Nat.le_of_ble_eq_true rfl) rfl fun K XX => ?_
  refine b_X12_opensIn_0 hg (by omega) k00 XX _ _ _ ⟨_, hR.o, q_try hg hR hI hS (by omega) k00 ?_⟩
  rintro R1 ⟨q1, t1, i1, _⟩
  have lp : ∀ (j i : Nat) (R2 : RefV) (Y : LandV), i + j = 61 → QF R R2 → ri R2 = ri R → TM (sT s) Y R2 → LOK (sN s) (sW s) Y → opnD (sT s) k j i Y = opnD (sT s) k 61 0 (sL s) → VB g K 3 d 0 0 (fun r h2 => r = some (.int (farE (opnD (sT s) k 61 0 (sL s)))) ∧ ∃ R', h2 = pR h B R' ∧ (QF R R' ∧ ri R' = ri R)) noT 0 0 6 [some (.ref B), some (.int (nI k)), some (.int (nI i))] [] (pR h B R2) := by
    intro j
    induction j with
    | zero =>
      intro i R2 Y hi q2 i2 t2 l2 he
      refine b_X12_opensIn_6 hg (by omega) k00 XX _ _ _ _ ⟨fun _ => ⟨by rw [← he]; rfl, R2, rfl, q2, i2⟩, fun q => absurd (nlt_nI (x := 60) (by omega) (by omega) q) (by omega)⟩
    | succ j ih =>
      intro i R2 Y hi q2 i2 t2 l2 he
      have r2 := hR.put R2
      refine b_X12_opensIn_6 hg (by omega) k00 XX _ _ _ _ ⟨fun q => absurd (lt_nI (x := 60) (by omega) (by omega) q) (by omega), fun _ => ⟨_, r2.o, use_i (d_isGap (b := 49) (d := d - 1) hg (by omega) r2 t2 hk) (by omega) k00 ⟨fun z => ⟨_, r2.o, q_day hg r2 t2 l2 hI.td (by omega) k00 ?_⟩, fun z => ⟨?_, R2, rfl, q2, i2⟩⟩⟩⟩
      · have z' := gp_n rfl z
        intro R3 x3
        rw [hR.pp, nI_s]
        refine ih (i + 1) R3 _ (by omega) (q2.trans x3.qf) (by rw [x3.df.1, i2]) x3.tm (l2.day o2 (by show 0 < sN s; omega) hI.sk) ?_
        rw [← he, opnD, if_neg z']
      · have z' := gp_y rfl z
        rw [← he, opnD, if_pos z']; rfl
  exact lp 61 0 R1 (sL s) (by omega) q1 i1 t1 hI.lok rfl
theorem farE_ne {o : Option Nat} (ho : ∀ k, o = some k → k < 61) : farE o = 99999 ↔ o = none := by
  cases o with
  | none => exact ⟨fun _ => rfl, fun _ => rfl⟩
  | some k =>
    have := ho k rfl
    refine ⟨fun e => ?_, fun e => by cases e⟩
    have e2 : nI k = nI 99999 := e
    rw [nI_eq (by omega) (by omega)] at e2
    omega
theorem r_opens (hg : GOK g) (hd : 20 ≤ d) (hR : RA h B R) (hI : IV s) (hS : RS s R) (u : Int32) : CT g d yX12_opens (wsC yX12_opens cX12_opens 3 (some .int)) [.ref B, .int u] h 0 0 (PrM h B cd2 s (m_opens s u)) noT := by
  have o2 := hI.o2
  refine CT_ofB (by decide +kernel) (Nat.le_of_ble_eq_true rfl) rfl fun K XX => ?_
  have r1 := hR.put (sI R 0 0)
  have s1 := hS.s0 hI
  have z1 : ri (sI R 0 0) 0 = 0 := ri_sI
  refine b_X12_opens_0 hg (by omega) k00 XX _ _ _ ⟨_, hR.w0 0, ?_⟩
  generalize sI R 0 0 = R1 at *
  refine ⟨_, r1.o, use_ck (d_isStretch (d := d - 1) hg (by omega) r1 z1 s1.n u) (by omega) k00 (fun c => ⟨fun _ => ?_, fun e => absurd e (by decide)⟩) (fun c => ⟨fun e => absurd rfl e, fun _ => ptM (b := true) hI s1 ((QF.refl R1).i rfl) ri_sI (by rw [m_opens, c]; rfl) (hR.pp _ _)⟩)⟩
  obtain ⟨eu, hu⟩ := inB_k (by omega) c
  have em : m_opens s u = .inl (opnF (sT s) (cl u) 61 0 (sL s), s) := by rw [m_opens, if_pos c]
  rw [em, opnF_D]
  generalize hk : cl u = k at *
  rw [eu]
  refine ⟨_, r1.o, use_iR (c_opensIn (d := d - 1) hg (by omega) r1 hI s1 hu) (by omega) k00 ?_⟩
  rintro R2 ⟨q2, i2⟩
  rw [hR.pp]
  have z2 : ri R2 0 = 0 := by rw [i2, z1]
  have ho : ∀ m, opnD (sT s) k 61 0 (sL s) = some m → m < 61 := fun m e => by have := opnD_le _ _ _ _ _ _ e; omega
  generalize opnD (sT s) k 61 0 (sL s) = o at *
  refine ⟨fun y => prM hI s1 q2 z2 ?_ rfl, fun y => prM hI s1 q2 z2 ?_ rfl⟩
  · cases o with
    | none => exact absurd rfl y
    | some m => rfl
  · rw [farE_ne ho] at y
    rw [y]
theorem r_spent (hg : GOK g) (hd : 20 ≤ d) (hR : RA h B R) (hI : IV s) (hS : RS s R) : CT g d yX12_spent (wsC yX12_spent cX12_spent 2 (some .int)) [.ref B] h 0 0 (PrM h B cd2 s (m_spent s)) noT := by
  have o1 := hI.o1
  have o2 := hI.o2
  have o3 := hI.o3
  refine CT_ofB (by decide +kernel) (Nat.le_of_ble_eq_true rfl) rfl fun K XX => ?_
  have r1 := hR.put (sI R 0 0)
  have s1 := hS.s0 hI
  have z1 : ri (sI R 0 0) 0 = 0 := ri_sI
  refine b_X12_spent_0 hg (by omega) k00 XX _ _ ⟨_, hR.w0 0, ?_⟩
  generalize sI R 0 0 = R1 at *
  refine ⟨_, r1.o, q_try hg r1 hI s1 (by omega) k00 ?_⟩
  rintro R2 ⟨q2, t2, i2, _⟩
  rw [hR.pp]
  have lp : ∀ (j i : Nat) (R2 : RefV) (Y : LandV), i + j = 61 → QF R1 R2 → ri R2 0 = 0 → TM (sT s) Y R2 → LOK (sN s) (sW s) Y → spnF (sT s) j i Y = spnF (sT s) 61 0 (sL s) → VB g K 2 d 0 0 (PrM h B cd2 s (m_spent s)) noT 0 0 11 [some (.ref B), some (.int (nI i))] [] (pR h B R2) := by
    intro j
    induction j with
    | zero =>
      intro i R2 Y hi q2 z2 t2 l2 he
      refine b_X12_spent_11 hg (by omega) k00 XX _ _ _ ⟨fun _ => prM hI s1 q2 z2 (by rw [m_spent, ← he]; rfl) rfl, fun q => absurd (nlt_nI (x := 60) (by omega) (by omega) q) (by omega)⟩
    | succ j ih =>
      intro i R2 Y hi q2 z2 t2 l2 he
      have r2 := hR.put R2
      have es : sumF (fun k => ra R2 14 (49 + 43 + k)) (sW s) = sumF (lTh Y) (sW s) := sumF_congr fun k hk => t2.rw_.th hk
      refine b_X12_spent_11 hg (by omega) k00 XX _ _ _ ⟨fun q => absurd (lt_nI (x := 60) (by omega) (by omega) q) (by omega), fun _ => ⟨_, by rw [r2.i2, t2.w], _, r2.o, use_i (d_sumOf (b := 49) (o := 43) (n := sW s) (d := d - 1) hg (by omega) r2 (by omega)) (by omega) k00 ⟨fun z => ⟨_, r2.o, q_day hg r2 t2 l2 hI.td (by omega) k00 ?_⟩, fun z => prM hI s1 q2 z2 ?_ rfl⟩⟩⟩
      · rw [es] at z
        intro R3 x3
        rw [hR.pp, nI_s]
        refine ih (i + 1) R3 _ (by omega) (q2.trans x3.qf) (by rw [x3.df.1, z2]) x3.tm (l2.day o2 (by show 0 < sN s; omega) hI.sk) ?_
        rw [← he, spnF, if_neg z]
      · rw [es] at z
        rw [m_spent, ← he, spnF, if_pos z]
  exact lp 61 0 R2 (sL s) (by omega) q2 (by rw [i2, z1]) t2 hI.lok rfl
end RH
