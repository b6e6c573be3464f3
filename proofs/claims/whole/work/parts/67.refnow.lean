/-! bits, one by one (the first four rows: the kit's BITS.to-paste) -/
def bt (x : Int32) (i : Nat) : Bool := x.toBitVec.getLsbD i
theorem b_ext {x y : Int32} (h : ∀ i, i < 32 → bt x i = bt y i) : x = y := Int32.toBitVec_inj.mp (BitVec.eq_of_getLsbD_eq (fun i hi => h i hi))
theorem b_or (x y : Int32) (i : Nat) : bt (x ||| y) i = (bt x i || bt y i) := by unfold bt; rw [Int32.toBitVec_or, BitVec.getLsbD_or]
theorem b_0 (i : Nat) : bt 0 i = false := BitVec.getLsbD_zero
theorem bt_one : ∀ k, k < 12 → ∀ i, i < 32 → bt ((1 : Int32) <<< (nI k &&& 31)) i = decide (i = k) := by decide +kernel
theorem bitsF_bt (p : Nat → Bool) (k : Nat) (hk : k ≤ 12) : ∀ i, i < 32 → bt (bitsF p k) i = (decide (i < k) && p i) := by
  induction k with
  | zero => intro i _; simp [bitsF, b_0]
  | succ k ih =>
    intro i hi
    unfold bitsF
    have one := bt_one k (by omega) i hi
    split
    · rename_i hp
      rw [b_or, ih (by omega) i hi, one]
      by_cases e : i = k
      · subst e; simp [hp]
      · by_cases e2 : i < k
        · simp [e, e2, show i < k + 1 by omega]
        · simp [e, e2, show ¬ i < k + 1 by omega]
    · rename_i hp
      rw [ih (by omega) i hi]
      by_cases e : i = k
      · subst e; simp [hp]
      · by_cases e2 : i < k
        · simp [e2, show i < k + 1 by omega]
        · simp [e2, show ¬ i < k + 1 by omega]
theorem RW.same {n w b : Nat} {X : LandV} {f f0 : AF} (q : RW n w b X f f0) (q0 : LE n w (ldR f0 b) X) (i : Nat) : f i = f0 i := by
  by_cases hi : InR n w b i
  · rcases hi with e | ⟨e1, e2⟩ | ⟨e1, e2⟩ | ⟨e1, e2⟩ | ⟨e1, e2⟩ | ⟨e1, e2⟩
    · rw [e]; exact q.day.trans q0.day.symm
    · obtain ⟨k, rfl⟩ : ∃ k, i = b + 1 + k := ⟨i - (b + 1), by omega⟩
      exact (q.st (by omega)).trans (q0.st (by omega)).symm
    · obtain ⟨k, rfl⟩ : ∃ k, i = b + 13 + k := ⟨i - (b + 13), by omega⟩
      exact (q.sm (by omega)).trans (q0.sm (by omega)).symm
    · obtain ⟨k, rfl⟩ : ∃ k, i = b + 25 + k := ⟨i - (b + 25), by omega⟩
      exact (q.ti (by omega)).trans (q0.ti (by omega)).symm
    · obtain ⟨k, rfl⟩ : ∃ k, i = b + 37 + k := ⟨i - (b + 37), by omega⟩
      exact (q.at_ (by omega)).trans (q0.at_ (by omega)).symm
    · obtain ⟨k, rfl⟩ : ∃ k, i = b + 43 + k := ⟨i - (b + 43), by omega⟩
      exact (q.th (by omega)).trans (q0.th (by omega)).symm
  · exact q.2 i hi
theorem TX.qf0 {T : ToldV} {b : Nat} {X : LandV} {R0 R : RefV} (q : TX T b X R0 R) (q0 : LE (tN_ T) (tW T) (ldR (ra R0 14) b) X) : QF R0 R := by
  obtain ⟨e1, e2, e3⟩ := q.df
  refine ⟨fun k _ => by rw [e1], fun c hc => ?_, fun i hi => q.rw_.same q0 i⟩
  refine e3 c ?_ ?_ ?_ ?_ <;> (intro z; rw [z] at hc; exact absurd hc (by decide))
/-! THE REFERENCE'S public methods: how it is now -/
section RN
variable {g : GG} {h h2 : Hp} {B b d k : Nat} {T : ToldV} {X : LandV} {R0 R R' : RefV} {s s' : CoreV} {m : Res} {cd : Bool → Int32} {a : Int32}
theorem prM (hI : IV s) (hS : RS s R) (q : QF R R') (h0 : ri R' 0 = 0) (e : m = .inl (a, s)) (hh : h2 = pR h B R') : PrM h B cd s m (some (.int a)) h2 := ⟨R', hh, by rw [e]; exact ⟨rfl, h0, hS.qf hI q⟩⟩
theorem prN (hS : RS s' R') (h0 : ri R' 0 = 0) (e : m = .inl (a, s')) (hh : h2 = pR h B R') : PrM h B cd s m (some (.int a)) h2 := ⟨R', hh, by rw [e]; exact ⟨rfl, h0, hS⟩⟩
theorem ptM {b : Bool} (hI : IV s) (hS : RS s R) (q : QF R R') (h0 : ri R' 0 = cd b) (e : m = .inr b) (hh : h2 = pR h B R') : PrM h B cd s m (some (.int a)) h2 := ⟨R', hh, by rw [e]; exact ⟨⟨a, rfl⟩, h0, hS.qf hI q⟩⟩
theorem q0 (R : RefV) : QF R (sI R 0 0) := (QF.refl R).i rfl
theorem d_openOnes (hg : GOK g) (hd : 9 ≤ d) (hR : RA h B R) (hX : TX T b X R0 R) : CT g d yX12_openOnes (wsC yX12_openOnes cX12_openOnes 4 (some .int)) [.ref B, .int (nI b)] h 0 0 (fun r h2 => r = some (.int (opnB (tN_ T) X)) ∧ h2 = h) noT := by
  obtain ⟨o1, o2, o3⟩ := hX.tok
  refine CT_ofB (by decide +kernel) (Nat.le_of_ble_eq_true rfl) rfl fun K XX => ?_
  refine b_X12_openOnes_0 hg (by omega) k00 XX _ _ _ ?_
  refine upto (n := tN_ T) (P := fun k => VB g K 4 d 0 0 (fun r h2 => r = some (.int (opnB (tN_ T) X)) ∧ h2 = h) noT 0 0 4 [some (.ref B), some (.int (nI b)), some (.int (bitsF (fun k => lSm X k == 0) k)), some (.int (nI k))] [] h) ?_ ?_ (tN_ T) 0 (by omega)
  · exact b_X12_openOnes_4 hg (by omega) k00 XX _ _ _ _ _ ⟨_, by rw [hR.i1, hX.n], fun _ => ⟨rfl, rfl⟩, fun q => absurd (nle_nI (by omega) (by omega) q) (by omega)⟩
  · intro k hk ih
    refine b_X12_openOnes_4 hg (by omega) k00 XX _ _ _ _ _ ⟨_, by rw [hR.i1, hX.n], fun q => absurd (le_nI (by omega) (by omega) q) (by omega), fun _ => ⟨_, hR.o, use_i (d_isGap (d := d - 1) hg (by omega) hR hX hk) (by omega) k00 ⟨fun q => ?_, fun q => ?_⟩⟩⟩
    · have q' := gp_n rfl q
      refine b_X12_openOnes_29 hg (by omega) k00 XX _ _ _ _ _ _ ?_
      rw [nI_s, Int32.or_zero]; simpa [bitsF, q'] using ih
    · have q' := gp_y rfl q
      refine b_X12_openOnes_29 hg (by omega) k00 XX _ _ _ _ _ _ ?_
      rw [nI_s]; simpa [bitsF, q'] using ih
theorem d_sumOf {o n : Nat} (hg : GOK g) (hd : 8 ≤ d) (hR : RA h B R) (hb : b + o + n ≤ 98) : CT g d yX12_sumOf (wsC yX12_sumOf cX12_sumOf 6 (some .int)) [.ref B, .int (nI b), .int (nI o), .int (nI n)] h 0 0 (fun r h2 => r = some (.int (sumF (fun k => ra R 14 (b + o + k)) n)) ∧ h2 = h) noT := by
  refine CT_ofB (by decide +kernel) (Nat.le_of_ble_eq_true rfl) rfl fun K XX => ?_
  refine b_X12_sumOf_0 hg (by omega) k00 XX _ _ _ _ _ ?_
  refine upto (n := n) (P := fun k => VB g K 6 d 0 0 (fun r h2 => r = some (.int (sumF (fun k => ra R 14 (b + o + k)) n)) ∧ h2 = h) noT 0 0 6 [some (.ref B), some (.int (nI b)), some (.int (nI o)), some (.int (nI n)), some (.int (sumF (fun k => ra R 14 (b + o + k)) k)), some (.int (nI k))] [] h) ?_ ?_ n 0 (by omega)
  · exact b_X12_sumOf_6 hg (by omega) k00 XX _ _ _ _ _ _ _ ⟨fun _ => ⟨rfl, rfl⟩, fun q => absurd (nle_nI (by omega) (by omega) q) (by omega)⟩
  · intro k hk ih
    refine b_X12_sumOf_6 hg (by omega) k00 XX _ _ _ _ _ _ _ ⟨fun q => absurd (le_nI (by omega) (by omega) q) (by omega), fun _ => ⟨_, hR.n40, ?_⟩⟩
    rw [ix3]
    refine ⟨_, hR.r14 (by omega), ?_⟩
    rw [nI_s]; exact ih
/-- the idle, as the reference reckons them -/
def idlB (L : LandV) (wm w : Nat) : Bool := lTh L w == 0 || !((bitsF (fun v => lAt L v == lAt L w) wm &&& ((1 : Int32) <<< (nI w &&& 31) - 1)) == 0)
theorem idle_eq {L : LandV} {wm : Nat} (hw : wm ≤ 6) : idleF L wm wm = bitsF (idlB L wm) wm := by
  have key : ∀ k, k ≤ wm → ∀ i, i < 32 → bt (idleF L wm k) i = ((decide (i < wm) && lTh L i == 0) || (decide (i < k) && !((bitsF (fun v => lAt L v == lAt L i) wm &&& ((1 : Int32) <<< (nI i &&& 31) - 1)) == 0))) := by
    intro k
    induction k with
    | zero =>
      intro _ i hi
      rw [idleF, bitsF_bt _ wm (by omega) i hi]
      simp
    | succ k ih =>
      intro hk i hi
      rw [idleF]
      have one := bt_one k (by omega) i hi
      by_cases z : (bitsF (fun v => lAt L v == lAt L k) wm &&& ((1 : Int32) <<< (nI k &&& 31) - 1)) = 0
      · rw [if_pos z, ih (by omega) i hi]
        by_cases e : i = k
        · subst e; simp [z]
        · by_cases e2 : i < k
          · simp [e2, show i < k + 1 by omega]
          · simp [e2, show ¬ i < k + 1 by omega]
      · rw [if_neg z, b_or, ih (by omega) i hi, one]
        by_cases e : i = k
        · subst e; simp [z]
        · by_cases e2 : i < k
          · simp [e, e2, show i < k + 1 by omega]
          · simp [e, e2, show ¬ i < k + 1 by omega]
  refine b_ext fun i hi => ?_
  rw [key wm (Nat.le_refl _) i hi, bitsF_bt _ wm (by omega) i hi, idlB]
  cases decide (i < wm) <;> simp
theorem d_idle (hg : GOK g) (hd : 9 ≤ d) (hR : RA h B R) (hX : TX T 0 X R0 R) : CT g d yX12_idle (wsC yX12_idle cX12_idle 3 (some .int)) [.ref B] h 0 0 (fun r h2 => r = some (.int (bitsF (idlB X (tW T)) (tW T))) ∧ h2 = h) noT := by
  obtain ⟨o1, o2, o3⟩ := hX.tok
  refine CT_ofB (by decide +kernel) (Nat.le_of_ble_eq_true rfl) rfl fun K XX => ?_
  refine b_X12_idle_0 hg (by omega) k00 XX _ _ ?_
  refine upto (n := tW T) (P := fun k => VB g K 3 d 0 0 (fun r h2 => r = some (.int (bitsF (idlB X (tW T)) (tW T))) ∧ h2 = h) noT 0 0 4 [some (.ref B), some (.int (bitsF (idlB X (tW T)) k)), some (.int (nI k))] [] h) ?_ ?_ (tW T) 0 (by omega)
  · exact b_X12_idle_4 hg (by omega) k00 XX _ _ _ _ ⟨_, by rw [hR.i2, hX.w], fun _ => ⟨rfl, rfl⟩, fun q => absurd (nle_nI (by omega) (by omega) q) (by omega)⟩
  · intro k hk ih
    have one : ∀ v : Int32, (idlB X (tW T) k = true → v = (1 : Int32) <<< (nI k &&& 31)) → (idlB X (tW T) k = false → v = 0) → VB g K 3 d 0 0 (fun r h2 => r = some (.int (bitsF (idlB X (tW T)) (tW T))) ∧ h2 = h) noT 0 0 55 [some (.ref B), none, some (.int (nI k))] [.int v, .int (bitsF (idlB X (tW T)) k)] h := by
      intro v hy hn
      refine b_X12_idle_55 hg (by omega) k00 XX _ _ _ _ _ ?_
      rw [nI_s]
      cases hb : idlB X (tW T) k with
      | true => rw [hy hb]; simpa [bitsF, hb] using ih
      | false => rw [hn hb, Int32.or_zero]; simpa [bitsF, hb] using ih
    refine b_X12_idle_4 hg (by omega) k00 XX _ _ _ _ ⟨_, by rw [hR.i2, hX.w], fun q => absurd (le_nI (by omega) (by omega) q) (by omega), fun _ => ⟨_, hR.n40, ?_⟩⟩
    rw [show (43 : Int32) + nI k = nI (43 + k) from nI_add 43 k, show (37 : Int32) + nI k = nI (37 + k) from nI_add 37 k]
    have eth : ra R 14 (43 + k) = lTh X k := by have := hX.rw_.th hk; rw [Nat.zero_add] at this; exact this
    have eat : ra R 14 (37 + k) = lAt X k := by have := hX.rw_.at_ hk; rw [Nat.zero_add] at this; exact this
    refine ⟨_, hR.r14 (by omega), fun q => b_X12_idle_48 hg (by omega) k00 XX _ _ _ _ (one _ (fun _ => rfl) (fun e => ?_)), fun q => ⟨_, hR.n40, _, hR.r14 (by omega), _, hR.o, use_i (d_womenAt (b := 0) (d := d - 1) hg (by omega) hR hX _) (by omega) k00 ⟨fun z => one _ (fun e => ?_) (fun _ => rfl), fun z => b_X12_idle_48 hg (by omega) k00 XX _ _ _ _ (one _ (fun _ => rfl) (fun e => ?_))⟩⟩⟩
    · rw [eth] at q; simp [idlB, q] at e
    · rw [eth] at q; rw [eat] at z; simp [idlB, q, z] at e
    · rw [eat] at z; simp [idlB, z] at e
theorem r_fault (hg : GOK g) (hd : 20 ≤ d) (hR : RA h B R) (hI : IV s) (hS : RS s R) : CT g d yX12_fault (wsC yX12_fault cX12_fault 1 (some .int)) [.ref B] h 0 0 (PrM h B cd s (m_fault s)) noT := by
  refine CT_ofB (by decide +kernel) (Nat.le_of_ble_eq_true rfl) rfl fun K XX => ?_
  have r1 := hR.put (sI R 0 0)
  refine b_X12_fault_0 hg (by omega) k00 XX _ _ ⟨_, hR.w0 0, _, r1.i14, prM hI hS (q0 R) ri_sI ?_ rfl⟩
  rw [m_fault]
  exact congrArg Sum.inl (Prod.ext hS.fp.symm rfl)
theorem r_thrown (hg : GOK g) (hd : 8 ≤ d) (hR : RA h B R) : CT g d yX12_thrown (wsC yX12_thrown cX12_thrown 1 (some .int)) [.ref B] h 0 0 (fun v h2 => v = some (.int (ri R 0)) ∧ h2 = h) noT := by
  refine CT_ofB (by decide +kernel) (Nat.le_of_ble_eq_true rfl) rfl fun K XX => ?_
  exact b_X12_thrown_0 hg (by omega) k00 XX _ _ ⟨_, hR.i0, rfl, rfl⟩
theorem RS.st0 {k : Nat} (q : RS s R) (hk : k < sN s) : ra R 14 (1 + k) = lStr (sL s) k := by have := q.le.st hk; rw [← this]; show _ = ra R 14 (0 + 1 + k); rw [Nat.zero_add]
theorem RS.sm0 {k : Nat} (q : RS s R) (hk : k < sN s) : ra R 14 (13 + k) = lSm (sL s) k := by have := q.le.sm hk; rw [← this]; show _ = ra R 14 (0 + 13 + k); rw [Nat.zero_add]
theorem RS.ti0 {k : Nat} (q : RS s R) (hk : k < sN s) : ra R 14 (25 + k) = lSt (sL s) k := by have := q.le.ti hk; rw [← this]; show _ = ra R 14 (0 + 25 + k); rw [Nat.zero_add]
theorem RS.at0 {k : Nat} (q : RS s R) (hk : k < sW s) : ra R 14 (37 + k) = lAt (sL s) k := by have := q.le.at_ hk; rw [← this]; show _ = ra R 14 (0 + 37 + k); rw [Nat.zero_add]
theorem RS.th0 {k : Nat} (q : RS s R) (hk : k < sW s) : ra R 14 (43 + k) = lTh (sL s) k := by have := q.le.th hk; rw [← this]; show _ = ra R 14 (0 + 43 + k); rw [Nat.zero_add]
theorem RS.s0 (hI : IV s) (hS : RS s R) : RS s (sI R 0 0) := hS.qf hI (q0 R)
theorem wnB_14 {v : Int32} : wnB v 0 14 = whB v 14 := wnB_wh v 14
theorem r_count (hg : GOK g) (hd : 20 ≤ d) (hR : RA h B R) (hI : IV s) (hS : RS s R) (v : Int32) : CT g d yX12_count (wsC yX12_count cX12_count 2 (some .int)) [.ref B, .int v] h 0 0 (PrM h B cd2 s (m_count s v)) noT := by
  have o2 := hI.o2
  have o3 := hI.o3
  refine CT_ofB (by decide +kernel) (Nat.le_of_ble_eq_true rfl) rfl fun K XX => ?_
  have r1 := hR.put (sI R 0 0)
  have s1 := hS.s0 hI
  have z1 : ri (sI R 0 0) 0 = 0 := ri_sI
  have qq := q0 R
  refine b_X12_count_0 hg (by omega) k00 XX _ _ _ ⟨_, hR.w0 0, use_i (d_within (d := d - 1) hg (by omega) v 0 14) (by omega) k00 ?_⟩
  rw [wnB_wh]
  generalize sI R 0 0 = R1 at *
  have x1 := s1.tx hI
  refine ⟨_, r1.o, use_ck (d_right (d := d - 1) hg (by omega) r1 z1 (whB v 14) (by decide)) (by omega) k00 (fun c => ⟨fun _ => ?_, fun e => absurd e (by decide)⟩) (fun c => ⟨fun e => absurd rfl e, fun _ => ptM (b := true) hI s1 ((QF.refl R1).i rfl) ri_sI (by rw [m_count, c]; rfl) (hR.pp _ _)⟩)⟩
  have fin : ∀ a, a = cntV s v → PrM h B cd2 s (m_count s v) (some (.int a)) (pR h B R1) := fun a e => prM hI s1 (QF.refl _) z1 (by rw [m_count, if_pos c, e]) rfl
  refine ⟨fun q => ?_, fun q => ?_, fun q => ?_, fun q => ?_, fun q => ?_, fun q => ?_, fun q => ?_, fun q => ?_, fun q => ?_, fun q => ?_, fun q => ?_, fun q => ?_, fun q => ?_⟩
  · have hv : v = 12 ∨ v = 13 ∨ v = 14 := by
      simp only [whB, Bool.and_eq_true, Bool.not_eq_true', decide_eq_false_iff_not, decide_eq_true_eq] at c
      have c1 : ¬ v.toInt < 0 := fun z => c.1 (Int32.lt_iff_toInt_lt.mpr z)
      have c2 := Int32.le_iff_toInt_le.mp c.2
      have e14 : (14 : Int32).toInt = 14 := rfl
      have : v.toInt = 12 ∨ v.toInt = 13 ∨ v.toInt = 14 := by omega
      rcases this with e | e | e
      · exact Or.inl (tI_eq (by rw [e]; rfl))
      · exact Or.inr (Or.inl (tI_eq (by rw [e]; rfl)))
      · exact Or.inr (Or.inr (tI_eq (by rw [e]; rfl)))
    rcases hv with rfl | rfl | rfl
    · exact ⟨_, r1.n15, _, r1.r6 (k := 0) (by omega), fin _ s1.rf.1⟩
    · exact ⟨_, r1.n15, _, r1.r6 (k := 1) (by omega), fin _ s1.rf.2.1⟩
    · exact ⟨_, r1.n15, _, r1.r6 (k := 2) (by omega), fin _ s1.rf.2.2⟩
  · obtain rfl : v = 0 := tI_eq (by rw [q]; rfl)
    exact ⟨_, r1.i1, fin _ s1.n⟩
  · obtain rfl : v = 1 := tI_eq (by rw [q]; rfl)
    exact ⟨_, r1.i2, fin _ s1.w⟩
  · obtain rfl : v = 2 := tI_eq (by rw [q]; rfl)
    exact ⟨_, r1.i3, fin _ s1.kn.1⟩
  · obtain rfl : v = 3 := tI_eq (by rw [q]; rfl)
    exact ⟨_, r1.i4, fin _ s1.tr.2.2.1⟩
  · obtain rfl : v = 4 := tI_eq (by rw [q]; rfl)
    exact ⟨_, r1.n40, _, r1.r14 (k := 0) (by omega), fin _ s1.le.day⟩
  · obtain rfl : v = 5 := tI_eq (by rw [q]; rfl)
    exact ⟨_, r1.o, use_i (d_openOnes (b := 0) (d := d - 1) hg (by omega) r1 x1) (by omega) k00 (fin _ rfl)⟩
  · obtain rfl : v = 6 := tI_eq (by rw [q]; rfl)
    refine ⟨_, by rw [r1.i1, s1.n], _, r1.o, use_i (d_sumOf (b := 0) (o := 13) (d := d - 1) hg (by omega) r1 (by omega)) (by omega) k00 (fin _ ?_)⟩
    show sumF _ _ = sumF (lSm (sL s)) (sN s)
    exact sumF_congr fun k hk => s1.le.sm hk
  · obtain rfl : v = 7 := tI_eq (by rw [q]; rfl)
    refine ⟨_, by rw [r1.i2, s1.w], _, r1.o, use_i (d_sumOf (b := 0) (o := 43) (d := d - 1) hg (by omega) r1 (by omega)) (by omega) k00 (fin _ ?_)⟩
    show sumF _ _ = sumF (lTh (sL s)) (sW s)
    exact sumF_congr fun k hk => s1.le.th hk
  · obtain rfl : v = 8 := tI_eq (by rw [q]; rfl)
    refine ⟨_, r1.o, use_i (d_idle (d := d - 1) hg (by omega) r1 x1) (by omega) k00 (fin _ ?_)⟩
    show _ = idleF (sL s) (sW s) (sW s)
    rw [idle_eq o3]
  · obtain rfl : v = 9 := tI_eq (by rw [q]; rfl)
    exact ⟨_, r1.i42, fin _ s1.pa.1⟩
  · obtain rfl : v = 10 := tI_eq (by rw [q]; rfl)
    exact ⟨_, r1.i51, fin _ s1.se.1⟩
  · obtain rfl : v = 11 := tI_eq (by rw [q]; rfl)
    exact ⟨_, r1.i12, fin _ s1.tp.1⟩
theorem whB_v {v : Int32} {n : Nat} (hn : n < 2 ^ 31) (c : whB v (nI n) = true) : ∃ j, j ≤ n ∧ v = nI j := by
  simp only [whB, Bool.and_eq_true, Bool.not_eq_true', decide_eq_false_iff_not, decide_eq_true_eq] at c
  exact nI_of2 (nI_toInt hn) c.1 c.2
theorem r_stretch (hg : GOK g) (hd : 20 ≤ d) (hR : RA h B R) (hI : IV s) (hS : RS s R) (u v : Int32) : CT g d yX12_stretch (wsC yX12_stretch cX12_stretch 3 (some .int)) [.ref B, .int u, .int v] h 0 0 (PrM h B cd2 s (m_stretch s u v)) noT := by
  have o2 := hI.o2
  have o3 := hI.o3
  refine CT_ofB (by decide +kernel) (Nat.le_of_ble_eq_true rfl) rfl fun K XX => ?_
  have r1 := hR.put (sI R 0 0)
  have s1 := hS.s0 hI
  have z1 : ri (sI R 0 0) 0 = 0 := ri_sI
  refine b_X12_stretch_0 hg (by omega) k00 XX _ _ _ _ ⟨_, hR.w0 0, ?_⟩
  generalize sI R 0 0 = R1 at *
  have x1 := s1.tx hI
  refine ⟨_, r1.o, use_ck (d_isStretch (d := d - 1) hg (by omega) r1 z1 s1.n u) (by omega) k00 (fun c => ⟨fun e => absurd e (by decide), fun _ => ?_⟩) (fun c => ⟨fun _ => ptM (b := true) hI s1 ((QF.refl R1).i rfl) ri_sI (by rw [m_stretch, c]; rfl) (hR.pp _ _), fun e => absurd rfl e⟩)⟩
  obtain ⟨eu, hu⟩ := inB_k (by omega) c
  refine ⟨_, r1.o, use_ck (d_isWhat (d := d - 1) hg (by omega) r1 z1 v 5) (by omega) k00 (fun c2 => ⟨fun _ => ?_, fun e => absurd e (by decide)⟩) (fun c2 => ⟨fun e => absurd rfl e, fun _ => ptM (b := true) hI s1 ((QF.refl R1).i rfl) ri_sI (by rw [m_stretch, c, c2]; rfl) (hR.pp _ _)⟩)⟩
  have em : m_stretch s u v = .inl (strV s (cl u) v, s) := by rw [m_stretch, if_pos c, if_pos c2]
  rw [em]
  have fin : ∀ (a : Int32) (R2 : RefV), QF R1 R2 → ri R2 0 = 0 → a = strV s (cl u) v → PrM h B cd2 s (.inl (strV s (cl u) v, s)) (some (.int a)) (pR h B R2) := fun a R2 q z e => prM hI s1 q z (by rw [e]) rfl
  obtain ⟨j, j1, j2⟩ := whB_v (n := 5) (by omega) c2
  generalize hk : cl u = k at *
  rw [eu]
  refine ⟨fun q => ?_, fun q => ?_, fun q => ?_, fun q => ?_, fun q => ?_, fun q => ?_⟩
  · have e5 : v = 5 := by
      have : v.toInt = j := by rw [j2]; exact nI_toInt (by omega)
      rw [j2, show j = 5 by omega]; rfl
    subst e5
    refine ⟨_, r1.o, use_iR (d_pullsOf (b := 0) (d := d - 1) hg (by omega) r1 x1 hu) (by omega) k00 ?_⟩
    rintro R2 ⟨x2, _⟩
    rw [hR.pp]
    exact fin _ R2 (x2.qf0 s1.le) (by rw [x2.df.1]; exact z1) rfl
  · obtain rfl : v = 0 := tI_eq (by rw [q]; rfl)
    rw [show (1 : Int32) + nI k = nI (1 + k) from nI_add 1 k]
    exact ⟨_, r1.n40, _, r1.r14 (by omega), fin _ R1 (QF.refl _) z1 (s1.st0 hu)⟩
  · obtain rfl : v = 1 := tI_eq (by rw [q]; rfl)
    rw [show (13 : Int32) + nI k = nI (13 + k) from nI_add 13 k]
    exact ⟨_, r1.n40, _, r1.r14 (by omega), fin _ R1 (QF.refl _) z1 (s1.sm0 hu)⟩
  · obtain rfl : v = 2 := tI_eq (by rw [q]; rfl)
    rw [show (25 : Int32) + nI k = nI (25 + k) from nI_add 25 k]
    exact ⟨_, r1.n40, _, r1.r14 (by omega), fin _ R1 (QF.refl _) z1 (s1.ti0 hu)⟩
  · obtain rfl : v = 3 := tI_eq (by rw [q]; rfl)
    exact ⟨_, r1.o, use_i (d_womenAt (b := 0) (d := d - 1) hg (by omega) r1 x1 (nI k)) (by omega) k00 (fin _ R1 (QF.refl _) z1 rfl)⟩
  · obtain rfl : v = 4 := tI_eq (by rw [q]; rfl)
    refine ⟨_, r1.o, use_iR (d_fraysOf (b := 0) (d := d - 1) hg (by omega) r1 x1 hI.lok hu) (by omega) k00 ?_⟩
    intro R2 x2
    rw [hR.pp]
    exact fin _ R2 (x2.qf0 s1.le) (by rw [x2.df.1]; exact z1) rfl
theorem r_woman (hg : GOK g) (hd : 20 ≤ d) (hR : RA h B R) (hI : IV s) (hS : RS s R) (u v : Int32) : CT g d yX12_woman (wsC yX12_woman cX12_woman 3 (some .int)) [.ref B, .int u, .int v] h 0 0 (PrM h B cd2 s (m_woman s u v)) noT := by
  have o2 := hI.o2
  have o3 := hI.o3
  refine CT_ofB (by decide +kernel) (Nat.le_of_ble_eq_true rfl) rfl fun K XX => ?_
  have r1 := hR.put (sI R 0 0)
  have s1 := hS.s0 hI
  have z1 : ri (sI R 0 0) 0 = 0 := ri_sI
  refine b_X12_woman_0 hg (by omega) k00 XX _ _ _ _ ⟨_, hR.w0 0, ?_⟩
  generalize sI R 0 0 = R1 at *
  refine ⟨_, r1.o, use_ck (d_isWoman (d := d - 1) hg (by omega) r1 z1 s1.w u) (by omega) k00 (fun c => ⟨fun e => absurd e (by decide), fun _ => ?_⟩) (fun c => ⟨fun _ => ptM (b := true) hI s1 ((QF.refl R1).i rfl) ri_sI (by rw [m_woman, c]; rfl) (hR.pp _ _), fun e => absurd rfl e⟩)⟩
  obtain ⟨eu, hu⟩ := inB_k (by omega) c
  refine ⟨_, r1.o, use_ck (d_isWhat (d := d - 1) hg (by omega) r1 z1 v 2) (by omega) k00 (fun c2 => ⟨fun _ => ?_, fun e => absurd e (by decide)⟩) (fun c2 => ⟨fun e => absurd rfl e, fun _ => ptM (b := true) hI s1 ((QF.refl R1).i rfl) ri_sI (by rw [m_woman, c, c2]; rfl) (hR.pp _ _)⟩)⟩
  have em : m_woman s u v = .inl (womV s (cl u) v, s) := by rw [m_woman, if_pos c, if_pos c2]
  rw [em]
  have fin : ∀ (a : Int32), a = womV s (cl u) v → PrM h B cd2 s (.inl (womV s (cl u) v, s)) (some (.int a)) (pR h B R1) := fun a e => prM hI s1 (QF.refl _) z1 (by rw [e]) rfl
  generalize hk : cl u = k at *
  rw [eu, show (43 : Int32) + nI k = nI (43 + k) from nI_add 43 k, show (37 : Int32) + nI k = nI (37 + k) from nI_add 37 k]
  refine ⟨fun q => ⟨fun q2 => ⟨_, r1.n40, _, r1.r14 (by omega), fin _ ?_⟩, fun q2 => ⟨_, r1.n40, _, r1.r14 (by omega), fin _ ?_⟩⟩, fun q => ⟨_, r1.n7, _, r1.r1 (by omega), fin _ ?_⟩⟩
  · rw [womV, if_neg q, if_neg q2]; exact s1.th0 hu
  · rw [womV, if_neg q, if_pos q2]; exact s1.at0 hu
  · rw [womV, if_pos q]; exact s1.tr.2.2.2.1 k hu
end RN
