/-! THE REFERENCE: operands -/
def MS (f : AF) (len : Nat) (R0 : RefV) (S : MaS) (R : RefV) : Prop := XF R0 R ∧ TpR f len R ∧ TkR f len (mSt S) R ∧ ri R 13 = 0 ∧ ri R 14 = ri R0 14 ∧ SKR (mOut S) (mWs S) R ∧ ri R 32 = nI (mDp S) ∧ (∀ i, 0 < i → i ≤ mDp S → ra R 13 i = if mTe S i then 1 else 0) ∧ ((mOut S).length + (mWs S).length + 1 ≤ 2 * mSt S ∧ (mWs S).length ≤ mSt S ∧ (1 ≤ mDp S ∧ mDp S ≤ 6))
/-- a fault has been found -/
def MF (R0 : RefV) (e : Int32 × Nat) (R : RefV) : Prop := XF R0 R ∧ ri R 13 = e.1 ∧ ¬ e.1 = 0 ∧ ri R 14 = nI e.2 ∧ ∃ a b : Nat, ri R 30 = nI a ∧ ri R 31 = nI b ∧ a + b ≤ 1399 ∧ b ≤ 900
def PsR (f : AF) (len : Nat) (R0 : RefV) (h : Hp) (B : Nat) (r : MaS ⊕ (Int32 × Nat)) (v : Option Value) (h2 : Hp) : Prop := v = none ∧ ∃ R', h2 = pR h B R' ∧ match r with
  | .inl S' => MS f len R0 S' R'
  | .inr e => MF R0 e R'
/-! numbers -/
theorem kd_dig {f : AF} {len k : Nat} (h : kdE f len k = 2) : ∃ m, m < 10 ∧ f k = nI (48 + m) := by
  unfold kdE at h
  by_cases y : k < len
  · rw [if_pos y] at h
    unfold kdB at h
    by_cases z : ¬ f k < 97 ∧ ¬ 122 < f k
    · rw [if_pos z] at h; exact absurd h (by decide)
    · rw [if_neg z] at h
      by_cases z2 : ¬ f k < 48 ∧ ¬ 57 < f k
      · have a1 := Int32.le_iff_toInt_le.mp (Int32.not_lt.mp z2.1)
        have a2 := Int32.le_iff_toInt_le.mp (Int32.not_lt.mp z2.2)
        have e1 : (48 : Int32).toInt = 48 := rfl
        have e2 : (57 : Int32).toInt = 57 := rfl
        refine ⟨((f k).toInt - 48).toNat, by omega, ?_⟩
        apply Int32.toInt_inj.mp
        rw [nI_toInt (by omega)]
        omega
      · rw [if_neg z2] at h
        split at h
        · exact absurd h (by decide)
        · split at h <;> exact absurd h (by decide)
  · rw [if_neg y] at h; exact absurd h (by decide)
theorem wv_step {a m : Nat} : 10 * nI a + nI (48 + m) - 48 = nI (10 * a + m) := by
  have e1 : (10 : Int32) * nI a = nI (10 * a) := by
    show Int32.ofNat 10 * Int32.ofNat a = Int32.ofNat (10 * a)
    rw [Int32.ofNat_mul]
  rw [e1, nI_add, show 10 * a + (48 + m) = (10 * a + m) + 48 by omega]
  show nI (10 * a + m + 48) - nI 48 = _
  rw [pk_sub (by omega), show 10 * a + m + 48 - 48 = 10 * a + m by omega]
theorem wv_r {f : AF} {len : Nat} : ∀ (j k a : Nat), (∀ i, k ≤ i → i < k + j → kdE f len i = 2) → ∃ b, b + 1 ≤ (a + 1) * 10 ^ j ∧ wvF f j k (nI a) = nI b := by
  intro j
  induction j with
  | zero => intro k a _; exact ⟨a, by omega, rfl⟩
  | succ j ih =>
    intro k a hk
    obtain ⟨m, m1, m2⟩ := kd_dig (hk k (Nat.le_refl _) (by omega))
    obtain ⟨b, b1, b2⟩ := ih (k + 1) (10 * a + m) (fun i i1 i2 => hk i (by omega) (by omega))
    refine ⟨b, ?_, ?_⟩
    · have h1 : (10 * a + m + 1) * 10 ^ j ≤ (a + 1) * 10 ^ (j + 1) := by
        rw [Nat.pow_succ, show (a + 1) * (10 ^ j * 10) = ((a + 1) * 10) * 10 ^ j by rw [Nat.mul_comm (10 ^ j) 10, Nat.mul_assoc]]
        exact Nat.mul_le_mul_right _ (by omega)
      omega
    · unfold wvF
      rw [m2, wv_step]
      exact b2
/-- a number's digits -/
theorem nm_all {f : AF} {len st : Nat} (h : kdE f len st = 2) : ∀ i, st ≤ i → i < nxF f len st → kdE f len i = 2 := by
  intro i h1 h2
  by_cases y : i = st
  · rw [y]; exact h
  · unfold nxF at h2
    rw [if_pos (Or.inr h), h] at h2
    exact rnB_all _ _ i (by omega) h2
theorem nmb_r {f : AF} {len st : Nat} (h : kdE f len st = 2) : ∃ b, b ≤ 9999 ∧ wvF f (min (nxF f len st - st) 4) st 0 = nI b := by
  obtain ⟨b, b1, b2⟩ := wv_r (f := f) (len := len) (min (nxF f len st - st) 4) st 0 (fun i i1 i2 => nm_all h i i1 (by omega))
  refine ⟨b, ?_, b2⟩
  have h1 : (10 : Nat) ^ (min (nxF f len st - st) 4) ≤ 10 ^ 4 := Nat.pow_le_pow_right (by decide) (by omega)
  omega
/-! words that are values -/
theorem ofL_is {f : AF} {st nx j : Nat} (hj : j < 16) (hs : spB f j st nx = true) : ∀ (i k : Nat), k + i ≤ 16 → k ≤ j → j < k + i → ofL f st nx i k = j := by
  intro i
  induction i with
  | zero => intro k _ h1 h2; omega
  | succ i ih =>
    intro k h0 h1 h2
    unfold ofL
    by_cases y : spB f k st nx = true
    · rw [if_pos y]; exact spB_one (by omega) hj y hs
    · rw [if_neg y]
      by_cases e : k = j
      · rw [e] at y; exact absurd hs y
      · exact ih (k + 1) (by omega) (by omega) (by omega)
theorem ofL_no {f : AF} {st nx : Nat} (hs : ∀ j, j < 15 → spB f j st nx = false) : ∀ (i k : Nat), k + i = 16 → ofL f st nx i k = 15 := by
  intro i
  induction i with
  | zero => intro k _; rfl
  | succ i ih =>
    intro k h0
    unfold ofL
    by_cases y : spB f k st nx = true
    · rw [if_pos y]
      by_cases e : k < 15
      · rw [hs k e] at y; cases y
      · omega
    · rw [if_neg y]; exact ih (k + 1) (by omega)
theorem rkW_sur : ∀ j, j < 15 → ∃ k, k < 15 ∧ rkW k = j := by decide
theorem wcd_rk : ∀ k, k < 15 → (k ≤ 5 → wcd (rkW k) = -1 - nI k ∧ ¬ wcd (rkW k) = 0 ∧ ¬ wcd (rkW k) ≤ -7 ∧ wcd (rkW k) < 0 ∧ -1 - wcd (rkW k) = nI k) ∧ (¬ k ≤ 5 → wcd (rkW k) = 0) := by decide
theorem kw_of {f : AF} {len st : Nat} (h : kdE f len st = 1) : (kwP f len st ≤ 5 → wcd (ofW f st (nxF f len st)) = wcd (rkW (kwP f len st))) ∧ (¬ kwP f len st ≤ 5 → wcd (ofW f st (nxF f len st)) = 0) := by
  have hw : ∀ k, wdP f len st k = spB f k st (nxF f len st) := fun k => by rw [wdP, decide_eq_true h, Bool.true_and]
  by_cases y : kwP f len st < 15
  · have h1 := (kw_iff (f := f) (len := len) (st := st) y).mp rfl
    rw [hw] at h1
    have hr := rkW_lt _ y
    have e : ofW f st (nxF f len st) = rkW (kwP f len st) := ofL_is (by omega) h1 16 0 (by omega) (by omega) (by omega)
    rw [e]
    exact ⟨fun _ => rfl, fun z => (wcd_rk _ y).2 z⟩
  · have e15 : kwP f len st = 15 := by have := kw_le (f := f) (len := len) (st := st); omega
    refine ⟨fun z => by omega, fun _ => ?_⟩
    have : ofW f st (nxF f len st) = 15 := ofL_no (fun j hj => by
      obtain ⟨k, k1, k2⟩ := rkW_sur j hj
      cases e : spB f j st (nxF f len st) with
      | false => rfl
      | true =>
        rw [← k2, ← hw] at e
        have := (kw_iff (f := f) (len := len) (st := st) k1).mpr e
        omega) 16 0 rfl
    rw [this]
    rfl
theorem kwI_eq {k j : Nat} (hk : k ≤ 15) (hj : j < 15) : kwI k = nI j ↔ k = j := by
  unfold kwI
  by_cases y : k < 15
  · rw [if_pos y]; exact nI_eq (by omega) (by omega)
  · rw [if_neg y]
    constructor
    · intro e
      have := congrArg Int32.toInt e
      rw [nI_toInt (by omega)] at this
      have e1 : (-1 : Int32).toInt = -1 := rfl
      omega
    · intro e; omega
theorem ptR_31 (R : RefV) (n : Nat) (v : Int32) : ri (ptR R n v) 31 = ri R 31 := by unfold ptR; rw [ri_sIn (by decide)]; rfl
section ROP
variable {g : GG} {h : Hp} {B d len : Nat} {R R0 : RefV} {f : AF} {S : MaS}
theorem MS.xf (q : MS f len R0 S R) : XF R0 R := q.1
theorem MS.tp (q : MS f len R0 S R) : TpR f len R := q.2.1
theorem MS.tk (q : MS f len R0 S R) : TkR f len (mSt S) R := q.2.2.1
theorem MS.gd (q : MS f len R0 S R) : ri R 13 = 0 := q.2.2.2.1
theorem MS.p (q : MS f len R0 S R) : ri R 14 = ri R0 14 := q.2.2.2.2.1
theorem MS.sk (q : MS f len R0 S R) : SKR (mOut S) (mWs S) R := q.2.2.2.2.2.1
theorem MS.dp (q : MS f len R0 S R) : ri R 32 = nI (mDp S) := q.2.2.2.2.2.2.1
theorem MS.te (q : MS f len R0 S R) : ∀ i, 0 < i → i ≤ mDp S → ra R 13 i = if mTe S i then 1 else 0 := q.2.2.2.2.2.2.2.1
theorem MS.bd (q : MS f len R0 S R) : (mOut S).length + (mWs S).length + 1 ≤ 2 * mSt S ∧ (mWs S).length ≤ mSt S ∧ (1 ≤ mDp S ∧ mDp S ≤ 6) := q.2.2.2.2.2.2.2.2
theorem MS.l7 (q : MS f len R0 S R) : mSt S ≤ len ∧ len ≤ 700 := ⟨q.tk.1, q.tp.1⟩
/-- a fault, as things stand -/
theorem MS.mf (q : MS f len R0 S R) {e : Int32} (he : ¬ e = 0) : MF R0 (e, mSt S) (sI (sI R 13 e) 14 (ri R 19)) := by
  obtain ⟨b1, b2, b3⟩ := q.bd
  obtain ⟨l1, l2⟩ := q.l7
  refine ⟨(q.xf.i rfl).i rfl, by rw [ri_sIn (by decide), ri_sI], he, by rw [ri_sI]; exact q.tk.2.2.2.1, (mOut S).length, (mWs S).length, ?_, ?_, by omega, by omega⟩
  · rw [ri_sIn (by decide), ri_sIn (by decide)]; exact q.sk.1
  · rw [ri_sIn (by decide), ri_sIn (by decide)]; exact q.sk.2.2.1
theorem d_partN (hg : GOK g) (hd : 9 ≤ d) {e : Int32 × Nat} (hR : RA h B R) (q : MF R0 e R) : CT g d yX12_part (wsC yX12_part cX12_part 2 none) [.ref B] h 0 0 (fun v h2 => v = none ∧ h2 = h) noT := by
  refine CT_ofB (by decide +kernel) (Nat.le_of_ble_eq_true rfl) rfl fun K XX => ?_
  refine b_X12_part_0 hg (by omega) k00 XX _ _ ⟨_, hR.o, u_good hg hR (by omega) k00 (fun z => absurd z (by rw [q.2.1]; exact q.2.2.1)) (fun z => ⟨fun y => absurd rfl y, fun _ => ⟨rfl, rfl⟩⟩)⟩
theorem d_part (hg : GOK g) (hd : 12 ≤ d) (hR : RA h B R) (q : MS f len R0 S R) : CT g d yX12_part (wsC yX12_part cX12_part 2 none) [.ref B] h 0 0 (PsR f len R0 h B (prS f len S)) noT := by
  obtain ⟨b1, b2, b3⟩ := q.bd
  obtain ⟨l1, l2⟩ := q.l7
  have hk := q.tk
  refine CT_ofB (by decide +kernel) (Nat.le_of_ble_eq_true rfl) rfl fun K XX => ?_
  -- the end, good
  have fin : ∀ (a b : Int32) (R2 : RefV), XS R R2 → SKR (b :: a :: mOut S) (mWs S) R2 → mSt S < len → prS f len S = .inl (adv f len (mSt S), b :: a :: mOut S, mWs S, mDp S, mTe S) → VB g K 2 d 0 0 (PsR f len R0 h B (prS f len S)) noT 0 0 90 [some (.ref B), none] [] (pR h B R2) := by
    intro a b R2 xs sk hlt he
    have r2 := hR.put R2
    have hal := adv_lt (f := f) hlt
    have tp2 := q.tp.xf xs.xf
    refine b_X12_part_90 hg (by omega) k00 XX _ _ ⟨_, r2.o, u_good hg r2 (by omega) k00 (fun _ => ⟨fun y => absurd y (by decide), fun _ => ⟨_, r2.o, use_vR (d_go (d := d - 1) hg (by omega) r2 tp2 (xs.tk hk)) (by omega) k00 ?_⟩⟩) (fun y => absurd (by rw [xs.1 13 (by decide) (by decide)]; exact q.gd) y)⟩
    rintro R3 ⟨gf, tk⟩
    rw [hR.pp]
    refine ⟨rfl, R3, rfl, ?_⟩
    rw [he]
    have x3 := xs.xf.trans gf.xf
    refine ⟨q.xf.trans x3, q.tp.xf x3, tk, ?_, ?_, sk.of (gf.1 30 (by omega)) (gf.1 31 (by omega)) (gf.2 11) (gf.2 12), ?_, fun i h0 hi => ?_, ?_, ?_, b3⟩
    · rw [gf.1 13 (by omega), xs.1 13 (by decide) (by decide)]; exact q.gd
    · rw [gf.1 14 (by omega), xs.1 14 (by decide) (by decide)]; exact q.p
    · rw [gf.1 32 (by omega), xs.1 32 (by decide) (by decide)]; exact q.dp
    · rw [gf.2, xs.2.2 13 (by decide) (by decide)]; exact q.te i h0 hi
    · show (b :: a :: mOut S).length + (mWs S).length + 1 ≤ 2 * adv f len (mSt S)
      simp only [List.length_cons]; omega
    · show (mWs S).length ≤ adv f len (mSt S); omega
  -- the end, a fault
  have bad : ∀ (e : Int32 × Nat) (R2 : RefV), MF R0 e R2 → prS f len S = .inr e → VB g K 2 d 0 0 (PsR f len R0 h B (prS f len S)) noT 0 0 90 [some (.ref B), none] [] (pR h B R2) := by
    intro e R2 mf he
    have r2 := hR.put R2
    refine b_X12_part_90 hg (by omega) k00 XX _ _ ⟨_, r2.o, u_good hg r2 (by omega) k00 (fun z => absurd z (by rw [mf.2.1]; exact mf.2.2.1)) (fun _ => ⟨fun _ => ⟨rfl, R2, rfl, ?_⟩, fun y => absurd rfl y⟩)⟩
    rw [he]
    exact mf
  -- two put after a fault
  have put2 : ∀ (e : Int32) (a b : Int32), ¬ e = 0 → mSt S < len → MF R0 (e, mSt S) (ptR (ptR (sI (sI R 13 e) 14 (ri R 19)) (mOut S).length a) ((mOut S).length + 1) b) := by
    intro e a b he hlt
    have m1 := q.mf he
    refine ⟨(m1.1.trans (ptR_xs _ _ _).xf).trans (ptR_xs _ _ _).xf, ?_, he, ?_, (mOut S).length + 2, (mWs S).length, ?_, ?_, by omega, by omega⟩
    · rw [(ptR_xs _ _ _).1 13 (by decide) (by decide), (ptR_xs _ _ _).1 13 (by decide) (by decide)]; exact m1.2.1
    · rw [(ptR_xs _ _ _).1 14 (by decide) (by decide), (ptR_xs _ _ _).1 14 (by decide) (by decide)]; exact m1.2.2.2.1
    · unfold ptR; rw [ri_sI]
    · rw [ptR_31, ptR_31, ri_sIn (by decide), ri_sIn (by decide)]
      exact q.sk.2.2.1
  refine b_X12_part_0 hg (by omega) k00 XX _ _ ⟨_, hR.o, u_good hg hR (by omega) k00 (fun _ => ⟨fun _ => ⟨_, by rw [hR.i18, hk.2.2.1], fun y => ⟨_, by rw [hR.i18, hk.2.2.1], fun y1 => ?_, fun y1 => ?_⟩, fun y => ?_⟩, fun y => absurd y (by decide)⟩) (fun y => absurd q.gd y)⟩
  · -- neither
    rw [srt (by decide)] at y y1
    have he : prS f len S = .inr (1, mSt S) := by unfold prS vlP; rw [if_neg y, if_neg y1]
    refine ⟨_, hR.o, use_v (d_wrong (d := d - 1) hg (by omega) hR q.gd 1) (by omega) k00 ?_⟩
    intro h1 e1
    rw [e1]
    exact bad _ _ (q.mf (by decide)) he
  · -- a word
    rw [srt (by decide)] at y y1
    have hlt : mSt S < len := kdE_lt (f := f) (by rw [y1]; decide)
    have kl := kw_le (f := f) (len := len) (st := mSt S)
    obtain ⟨ko1, ko2⟩ := kw_of (f := f) (len := len) (st := mSt S) y1
    have bad3 : ¬ kwP f len (mSt S) ≤ 5 → VB g K 2 d 0 0 (PsR f len R0 h B (prS f len S)) noT 0 0 67 [some (.ref B), some (.int (kwI (kwP f len (mSt S))))] [] h := by
      intro n5
      have he : prS f len S = .inr (3, mSt S) := by unfold prS vlP; rw [if_neg y, if_pos y1, if_pos (ko2 n5)]
      refine b_X12_part_67 hg (by omega) k00 XX _ _ _ ⟨_, hR.o, use_v (d_wrong (d := d - 1) hg (by omega) hR q.gd 3) (by omega) k00 ?_⟩
      intro h1 e1
      rw [e1]
      have r1 := hR.put (sI (sI R 13 3) 14 (ri R 19))
      have e30 : ri (sI (sI R 13 3) 14 (ri R 19)) 30 = nI (mOut S).length := by rw [ri_sIn (by decide), ri_sIn (by decide)]; exact q.sk.1
      refine b_X12_part_72 hg (by omega) k00 XX _ _ _ ⟨_, r1.o, use_v (d_puts (d := d - 1) hg (by omega) r1 e30 (by omega) 2) (by omega) k00 ?_⟩
      intro h2 e2
      rw [e2, hR.pp]
      have r2 := hR.put (ptR (sI (sI R 13 3) 14 (ri R 19)) (mOut S).length 2)
      refine ⟨_, r2.o, use_v (d_puts (d := d - 1) (n := (mOut S).length + 1) hg (by omega) r2 (by unfold ptR; rw [ri_sI]) (by omega) _) (by omega) k00 ?_⟩
      intro h3 e3
      rw [e3, hR.pp]
      exact bad _ _ (put2 3 2 _ (by decide) hlt) he
    refine ⟨_, hR.o, use_i (d_knownWord (d := d - 1) hg (by omega) hR hk l2) (by omega) k00 ⟨fun z => bad3 ?_, fun z => ⟨fun z2 => ?_, fun z2 => bad3 ?_⟩⟩⟩
    · intro e
      unfold kwI at z
      rw [if_pos (by omega)] at z
      exact absurd z (nI_pos (by omega))
    · -- a value
      have k5 : kwP f len (mSt S) ≤ 5 := by
        unfold kwI at z2 z
        by_cases e : kwP f len (mSt S) < 15
        · rw [if_pos e] at z2; exact le_nI (y := 5) (by omega) (by omega) z2
        · rw [if_neg e] at z; exact absurd (by decide) z
      obtain ⟨c1, c2, c3, c4, c5⟩ := (wcd_rk _ (by omega)).1 k5
      have ek : kwI (kwP f len (mSt S)) = nI (kwP f len (mSt S)) := by unfold kwI; rw [if_pos (by omega)]
      have he : prS f len S = .inl (adv f len (mSt S), nI (kwP f len (mSt S)) :: 2 :: mOut S, mWs S, mDp S, mTe S) := by
        unfold prS vlP
        rw [if_neg y, if_pos y1, ko1 k5, if_neg c2]
        show Sum.inl (adv f len (mSt S), enR [wcd (rkW (kwP f len (mSt S)))] ++ mOut S, mWs S, mDp S, mTe S) = _
        rw [show enR [wcd (rkW (kwP f len (mSt S)))] = en1 (wcd (rkW (kwP f len (mSt S)))) from rfl, en1, if_neg c3, if_pos c4, c5]
        rfl
      refine b_X12_part_72 hg (by omega) k00 XX _ _ _ ⟨_, hR.o, use_v (d_puts (d := d - 1) hg (by omega) hR q.sk.1 (by omega) 2) (by omega) k00 ?_⟩
      intro h1 e1
      rw [e1]
      have r1 := hR.put (ptR R (mOut S).length 2)
      have s1 := q.sk.pt 2
      refine ⟨_, r1.o, use_v (d_puts (d := d - 1) (n := (mOut S).length + 1) hg (by omega) r1 s1.1 (by omega) _) (by omega) k00 ?_⟩
      intro h2 e2
      rw [e2, hR.pp, ek]
      exact fin 2 _ _ ((ptR_xs _ _ _).trans (ptR_xs _ _ _)) (s1.pt _) hlt he
    · intro e
      unfold kwI at z2
      rw [if_pos (by omega)] at z2
      exact absurd (nI_le (b := 5) e (by omega)) z2
  · -- a number
    rw [srt (by decide)] at y
    have hlt : mSt S < len := kdE_lt (f := f) (by rw [y]; decide)
    have hn := nxF_le (f := f) hk.1
    have e21 := hk.2.2.2.2.2.1 y
    refine ⟨_, by rw [hR.i20, hk.2.2.2.2.1], fun z => ?_, fun z => ⟨_, hR.o, use_v (d_wrong (d := d - 1) hg (by omega) hR q.gd 2) (by omega) k00 ?_⟩⟩
    · have z' := le_nI (y := 4) (by omega) (by omega) z
      obtain ⟨b, bb1, bb2⟩ := nmb_r y
      have he : prS f len S = .inl (adv f len (mSt S), wvF f (min (nxF f len (mSt S) - mSt S) 4) (mSt S) 0 :: 1 :: mOut S, mWs S, mDp S, mTe S) := by
        unfold prS vlP
        rw [if_pos y, if_pos z']
        show Sum.inl (adv f len (mSt S), enR [wvF f (min (nxF f len (mSt S) - mSt S) 4) (mSt S) 0] ++ mOut S, mWs S, mDp S, mTe S) = _
        rw [show enR [wvF f (min (nxF f len (mSt S) - mSt S) 4) (mSt S) 0] = en1 (wvF f (min (nxF f len (mSt S) - mSt S) 4) (mSt S) 0) from rfl, bb2, en1, if_neg ?_, if_neg (nI_pos (by omega))]
        · rfl
        · intro e
          have := Int32.le_iff_toInt_le.mp e
          rw [nI_toInt (by omega)] at this
          have e7 : (-7 : Int32).toInt = -7 := rfl
          omega
      refine b_X12_part_29 hg (by omega) k00 XX _ _ ⟨_, hR.o, use_v (d_puts (d := d - 1) hg (by omega) hR q.sk.1 (by omega) 1) (by omega) k00 ?_⟩
      intro h1 e1
      rw [e1]
      have r1 := hR.put (ptR R (mOut S).length 1)
      have s1 := q.sk.pt 1
      refine ⟨_, by rw [r1.i21, (ptR_xs _ _ _).1 21 (by decide) (by decide), e21], _, r1.o, use_v (d_puts (d := d - 1) (n := (mOut S).length + 1) hg (by omega) r1 s1.1 (by omega) _) (by omega) k00 ?_⟩
      intro h2 e2
      rw [e2, hR.pp]
      exact fin 1 _ _ ((ptR_xs _ _ _).trans (ptR_xs _ _ _)) (s1.pt _) hlt he
    · intro h1 e1
      rw [e1]
      have z' := nle_nI (y := 4) (by omega) (by omega) z
      have he : prS f len S = .inr (2, mSt S) := by unfold prS vlP; rw [if_pos y, if_neg (by omega)]
      have r1 := hR.put (sI (sI R 13 2) 14 (ri R 19))
      have e30 : ri (sI (sI R 13 2) 14 (ri R 19)) 30 = nI (mOut S).length := by rw [ri_sIn (by decide), ri_sIn (by decide)]; exact q.sk.1
      refine b_X12_part_29 hg (by omega) k00 XX _ _ ⟨_, r1.o, use_v (d_puts (d := d - 1) hg (by omega) r1 e30 (by omega) 1) (by omega) k00 ?_⟩
      intro h2 e2
      rw [e2, hR.pp]
      have r2 := hR.put (ptR (sI (sI R 13 2) 14 (ri R 19)) (mOut S).length 1)
      refine ⟨_, r2.i21, _, r2.o, use_v (d_puts (d := d - 1) (n := (mOut S).length + 1) hg (by omega) r2 (by unfold ptR; rw [ri_sI]) (by omega) _) (by omega) k00 ?_⟩
      intro h3 e3
      rw [e3, hR.pp]
      exact bad _ _ (put2 2 1 _ (by decide) hlt) he
end ROP
