/-! THE REFERENCE: brackets, NOTs, an operand -/
section ROQ
variable {g : GG} {h : Hp} {B d len st : Nat} {R R0 : RefV} {f : AF} {S : MaS}
def dpR (R : RefV) (n : Nat) : RefV := sA (sI R 32 (nI (n + 1))) 13 (upd (ra R 13) (n + 1) 0)
theorem dpR_i {k n : Nat} (hk : k ≠ 32) : ri (dpR R n) k = ri R k := ri_sIn hk
theorem dpR_d {n : Nat} : ri (dpR R n) 32 = nI (n + 1) := by
  show ri (sI R 32 (nI (n + 1))) 32 = _
  exact ri_sI
theorem d_deeper (hg : GOK g) (hd : 9 ≤ d) (hR : RA h B R) (hT : TpR f len R) (hk : TkR f len st R) (h13 : ri R 13 = 0) {n : Nat} (e32 : ri R 32 = nI n) (hn : n ≤ 6) : CT g d yX12_deeper (wsC yX12_deeper cX12_deeper 1 none) [.ref B] h 0 0 (fun v h2 => v = none ∧ h2 = pR h B (if n < 6 then dpR R n else sI (sI R 13 (dpP f len st)) 14 (ri R 19))) noT := by
  refine CT_ofB (by decide +kernel) (Nat.le_of_ble_eq_true rfl) rfl fun K XX => ?_
  have wr : ∀ v, v = dpP f len st → ¬ n < 6 → VB g K 1 d 0 0 (fun v h2 => v = none ∧ h2 = pR h B (if n < 6 then dpR R n else sI (sI R 13 (dpP f len st)) 14 (ri R 19))) noT 0 0 61 [none] [.int v, .ref B] h := by
    intro v hv n6
    refine b_X12_deeper_61 hg (by omega) k00 XX _ _ _ ⟨_, hR.o, use_v (d_wrong (d := d - 1) hg (by omega) hR h13 v) (by omega) k00 ?_⟩
    intro h1 e1
    rw [e1, if_neg n6, hv]
    exact ⟨rfl, rfl⟩
  have w2 : (kdE f len st = 2 ∨ kdE f len st = 1 ∨ sgP f len st 40 = true) → ¬ n < 6 → VB g K 1 d 0 0 (fun v h2 => v = none ∧ h2 = pR h B (if n < 6 then dpR R n else sI (sI R 13 (dpP f len st)) 14 (ri R 19))) noT 0 0 56 [none] [.ref B] h := by
    intro z n6
    exact b_X12_deeper_56 hg (by omega) k00 XX _ _ (wr 2 (by rw [dpP, if_pos z]) n6)
  refine b_X12_deeper_0 hg (by omega) k00 XX _ _ ⟨_, by rw [hR.i32, e32], fun y => ⟨_, by rw [hR.i18, hk.2.2.1], fun z => ?_, fun z => ⟨_, by rw [hR.i18, hk.2.2.1], fun z1 => ?_, fun z1 => ⟨_, hR.o, u_rSign hg hR hT hk 40 (by omega) k00 (fun z2 => ⟨fun e => absurd e (by decide), fun _ => ?_⟩) (fun z2 => ⟨fun _ => ?_, fun e => absurd rfl e⟩)⟩⟩⟩, fun y => ?_⟩
  · rw [srt (by decide)] at z
    exact w2 (Or.inl z) (by have := le_nI (x := 6) (by omega) (by omega) y; omega)
  · rw [srt (by decide)] at z1
    exact w2 (Or.inr (Or.inl z1)) (by have := le_nI (x := 6) (by omega) (by omega) y; omega)
  · exact w2 (Or.inr (Or.inr z2)) (by have := le_nI (x := 6) (by omega) (by omega) y; omega)
  · rw [srt (by decide)] at z z1
    refine wr 1 ?_ (by have := le_nI (x := 6) (by omega) (by omega) y; omega)
    rw [dpP, if_neg (fun e => e.elim z (fun e => e.elim z1 (fun e => by rw [z2] at e; exact absurd e (by decide))))]
  · have y' := nle_nI (x := 6) (by omega) (by omega) y
    have r1 := hR.put (sI R 32 (nI (n + 1)))
    refine ⟨_, by rw [hR.i32, e32], ?_⟩
    rw [nI_s]
    refine ⟨_, hR.w32 _, _, r1.n39, _, by rw [r1.i32, ri_sI], _, r1.u13 (by omega), rfl, ?_⟩
    rw [hR.pp, if_pos y']
    rfl
theorem updB_s {f : Nat → Bool} {k : Nat} {v : Bool} : updB f k v k = v := if_pos rfl
theorem updB_n {f : Nat → Bool} {k j : Nat} {v : Bool} (h : j ≠ k) : updB f k v j = f j := if_neg h
/-- something waits, the token taken -/
theorem MS.push {o w : List Int32} {a : Int32} {R2 R3 : RefV} (q : MS f len R0 S R) (xs : XS R R2) (sk : SKR o (a :: w) R2) (gf : GF R2 R3) (tk : TkR f len (adv f len (mSt S)) R3) (hlt : mSt S < len) (hb : o.length + w.length ≤ (mOut S).length + (mWs S).length) (hw : w.length ≤ (mWs S).length) : MS f len R0 (adv f len (mSt S), o, a :: w, mDp S, mTe S) R3 := by
  obtain ⟨b1, b2, b3⟩ := q.bd
  have hal := adv_lt (f := f) hlt
  have x3 := xs.xf.trans gf.xf
  refine ⟨q.xf.trans x3, q.tp.xf x3, tk, ?_, ?_, sk.of (gf.1 30 (by omega)) (gf.1 31 (by omega)) (gf.2 11) (gf.2 12), ?_, fun i h0 hi => ?_, ?_, ?_, b3⟩
  · rw [gf.1 13 (by omega), xs.1 13 (by decide) (by decide)]; exact q.gd
  · rw [gf.1 14 (by omega), xs.1 14 (by decide) (by decide)]; exact q.p
  · rw [gf.1 32 (by omega), xs.1 32 (by decide) (by decide)]; exact q.dp
  · rw [gf.2, xs.2.2 13 (by decide) (by decide)]; exact q.te i h0 hi
  · show o.length + (a :: w).length + 1 ≤ 2 * adv f len (mSt S)
    simp only [List.length_cons]; omega
  · show (a :: w).length ≤ adv f len (mSt S)
    simp only [List.length_cons]; omega
theorem XF.ofXS {R2 : RefV} (a : XF R0 R) (b : XS R R2) : XF R0 R2 := a.trans b.xf
set_option maxHeartbeats 4000000 in
theorem d_operand (hg : GOK g) (hd : 14 ≤ d) (hR : RA h B R) (q : MS f len R0 S R) (b : Bool) : CT g d yX12_operand (wsC yX12_operand cX12_operand 5 none) [.ref B, .int (if b then 1 else 0)] h 0 0 (PsR f len R0 h B (opb f len b S)) noT := by
  refine CT_ofB (by decide +kernel) (Nat.le_of_ble_eq_true rfl) rfl fun K XX => ?_
  -- a part, good
  have b120 : ∀ (X : MaS ⊕ (Int32 × Nat)) (S2 : MaS) (R2 : RefV), MS f len R0 S2 R2 → X = prS f len S2 → VB g K 5 d 0 0 (PsR f len R0 h B X) noT 0 0 120 [some (.ref B), none, none, none, none] [] (pR h B R2) := by
    intro X S2 R2 q2 hX
    have r2 := hR.put R2
    refine b_X12_operand_120 hg (by omega) k00 XX _ _ ⟨_, r2.o, d - 1, _, _, 0, 0, d_part (d := d - 1) hg (by omega) r2 q2, ⟨by omega, Nat.le_refl _, Nat.le_refl _⟩, fun _ _ z => z.elim, ?_⟩
    rintro v h1 ⟨e1, R3, e2, e3⟩
    refine ⟨e1, rfl, R3, ?_, ?_⟩
    · rw [e2, hR.pp]
    · rw [hX]; exact e3
  -- a fault runs through
  have n120 : ∀ (e : Int32 × Nat) (R2 : RefV), MF R0 e R2 → VB g K 5 d 0 0 (PsR f len R0 h B (.inr e)) noT 0 0 120 [some (.ref B), none, none, none, none] [] (pR h B R2) := by
    intro e R2 mf
    have r2 := hR.put R2
    refine b_X12_operand_120 hg (by omega) k00 XX _ _ ⟨_, r2.o, use_v (d_partN (d := d - 1) hg (by omega) r2 mf) (by omega) k00 ?_⟩
    intro h1 e1
    rw [e1]
    exact ⟨rfl, R2, rfl, mf⟩
  have n4 : ∀ (e : Int32 × Nat) (R2 : RefV) (x y : Int32), MF R0 e R2 → VB g K 5 d 0 0 (PsR f len R0 h B (.inr e)) noT 0 0 4 [some (.ref B), none, some (.int x), some (.int y), none] [] (pR h B R2) := by
    intro e R2 x y mf
    have r2 := hR.put R2
    exact b_X12_operand_4 hg (by omega) k00 XX _ _ _ _ ⟨fun _ => n120 e R2 mf, fun _ => ⟨_, r2.o, u_good hg r2 (by omega) k00 (fun z => absurd z (by rw [mf.2.1]; exact mf.2.2.1)) (fun _ => ⟨fun _ => n120 e R2 mf, fun z => absurd rfl z⟩)⟩⟩
  have n75 : ∀ (e : Int32 × Nat) (R2 : RefV) (x : Int32), MF R0 e R2 → VB g K 5 d 0 0 (PsR f len R0 h B (.inr e)) noT 0 0 75 [some (.ref B), none, some (.int x), none, none] [] (pR h B R2) := by
    intro e R2 x mf
    have r2 := hR.put R2
    refine b_X12_operand_75 hg (by omega) k00 XX _ _ _ ⟨_, r2.o, u_good hg r2 (by omega) k00 (fun z => absurd z (by rw [mf.2.1]; exact mf.2.2.1)) (fun _ => ⟨fun _ => ?_, fun z => absurd rfl z⟩)⟩
    refine b_X12_operand_95 hg (by omega) k00 XX _ _ _ (b_X12_operand_96 hg (by omega) k00 XX _ _ _ _ ⟨fun _ => ?_, fun z => absurd rfl z⟩)
    exact b_X12_operand_117 hg (by omega) k00 XX _ _ _ _ (n4 e R2 _ _ mf)
  have n18 : ∀ (e : Int32 × Nat) (R2 : RefV) (x y : Int32), MF R0 e R2 → VB g K 5 d 0 0 (PsR f len R0 h B (.inr e)) noT 0 0 18 [some (.ref B), none, some (.int x), none, some (.int y)] [] (pR h B R2) := by
    intro e R2 x y mf
    have r2 := hR.put R2
    exact b_X12_operand_18 hg (by omega) k00 XX _ _ _ _ ⟨_, r2.o, u_good hg r2 (by omega) k00 (fun z => absurd z (by rw [mf.2.1]; exact mf.2.2.1)) (fun _ => ⟨fun _ => n75 e R2 x mf, fun z => absurd rfl z⟩)⟩
  have n50 : ∀ (e : Int32 × Nat) (R2 : RefV) (x y : Int32), MF R0 e R2 → VB g K 5 d 0 0 (PsR f len R0 h B (.inr e)) noT 0 0 50 [some (.ref B), none, some (.int x), none, some (.int y)] [] (pR h B R2) := by
    intro e R2 x y mf
    have r2 := hR.put R2
    exact b_X12_operand_50 hg (by omega) k00 XX _ _ _ _ ⟨_, r2.o, u_good hg r2 (by omega) k00 (fun z => absurd z (by rw [mf.2.1]; exact mf.2.2.1)) (fun _ => ⟨fun z => absurd rfl z, fun _ => n18 e R2 x _ mf⟩)⟩
  -- the NOTs
  have nots : ∀ (X : MaS ⊕ (Int32 × Nat)) (S1 : MaS) (z : Nat × Nat), (z.1 = 6 ∧ wdP f len z.2 8 = true → X = .inr (2, z.2)) → (¬ (z.1 = 6 ∧ wdP f len z.2 8 = true) → ∀ R2, MS f len R0 (z.2, mOut S1, List.replicate z.1 3 ++ mWs S1, mDp S1, mTe S1) R2 → VB g K 5 d 0 0 (PsR f len R0 h B X) noT 0 0 75 [some (.ref B), none, some (.int 1), none, none] [] (pR h B R2)) →
      ∀ (j i s : Nat) (R2 : RefV), i + j = 6 → MS f len R0 (s, mOut S1, List.replicate i 3 ++ mWs S1, mDp S1, mTe S1) R2 → i + (ntP f len j s).1 = z.1 → (ntP f len j s).2 = z.2 → VB g K 5 d 0 0 (PsR f len R0 h B X) noT 0 0 18 [some (.ref B), none, some (.int 1), none, some (.int (nI i))] [] (pR h B R2) := by
    intro X S1 z hX hN j
    induction j with
    | zero =>
      intro i s R2 hij q2 e1 e2
      have r2 := hR.put R2
      have e1' : i = z.1 := e1
      have e2' : s = z.2 := e2
      have kl := kw_le (f := f) (len := len) (st := s)
      refine b_X12_operand_18 hg (by omega) k00 XX _ _ _ _ ⟨_, r2.o, u_good hg r2 (by omega) k00 (fun _ => ⟨fun y => absurd y (by decide), fun _ => ⟨fun y => absurd y (by decide), fun _ => ⟨_, r2.o, use_i (d_knownWord (d := d - 1) hg (by omega) r2 q2.tk q2.l7.2) (by omega) k00 ⟨fun y => ?_, fun y => ⟨fun y2 => absurd (by rw [show i = 6 by omega]; rfl) y2, fun _ => ?_⟩⟩⟩⟩⟩) (fun y => absurd q2.gd y)⟩
      · have y' : ¬ kwP f len s = 14 := fun e => y ((kwI_eq kl (by decide)).mpr e)
        have yw : ¬ wdP f len s 8 = true := fun e => y' ((kw_iff (k := 14) (by decide)).mpr e)
        refine hN (fun e => yw (by rw [e2']; exact e.2)) R2 ?_
        rw [← e1', ← e2']
        exact q2
      · have y' : kwP f len s = 14 := (kwI_eq kl (by decide)).mp y
        have yw : wdP f len s 8 = true := (kw_iff (k := 14) (by decide)).mp y'
        rw [hX ⟨by omega, by rw [← e2']; exact yw⟩]
        refine ⟨_, r2.o, use_v (d_wrong (d := d - 1) hg (by omega) r2 q2.gd 2) (by omega) k00 ?_⟩
        intro h1 e
        rw [e, hR.pp, ← e2']
        exact n50 _ _ _ _ (q2.mf (by decide))
    | succ j ih =>
      intro i s R2 hij q2 e1 e2
      have r2 := hR.put R2
      unfold ntP at e1 e2
      have kl := kw_le (f := f) (len := len) (st := s)
      obtain ⟨c1, c2, c3⟩ := q2.bd
      obtain ⟨l1, l2⟩ := q2.l7
      refine b_X12_operand_18 hg (by omega) k00 XX _ _ _ _ ⟨_, r2.o, u_good hg r2 (by omega) k00 (fun _ => ⟨fun y => absurd y (by decide), fun _ => ⟨fun y => absurd y (by decide), fun _ => ⟨_, r2.o, use_i (d_knownWord (d := d - 1) hg (by omega) r2 q2.tk q2.l7.2) (by omega) k00 ⟨fun y => ?_, fun y => ⟨fun _ => ?_, fun y2 => absurd ((nI_eq (b := 6) (by omega) (by omega)).mp y2) (by omega)⟩⟩⟩⟩⟩) (fun y => absurd q2.gd y)⟩
      · have y' : ¬ kwP f len s = 14 := fun e => y ((kwI_eq kl (by decide)).mpr e)
        have yw : ¬ wdP f len s 8 = true := fun e => y' ((kw_iff (k := 14) (by decide)).mpr e)
        rw [if_neg yw] at e1 e2
        have e1' : i = z.1 := e1
        have e2' : s = z.2 := e2
        refine hN (fun e => yw (by rw [e2']; exact e.2)) R2 ?_
        rw [← e1', ← e2']
        exact q2
      · have y' : kwP f len s = 14 := (kwI_eq kl (by decide)).mp y
        have yw : wdP f len s 8 = true := (kw_iff (k := 14) (by decide)).mp y'
        rw [if_pos yw] at e1 e2
        have hlt := wdP_lt yw
        refine b_X12_operand_50 hg (by omega) k00 XX _ _ _ _ ⟨_, r2.o, u_good hg r2 (by omega) k00 (fun _ => ⟨fun _ => ⟨_, r2.o, use_v (d_waitsFor (d := d - 1) hg (by omega) r2 q2.sk.2.2.1 (by have c2' : (List.replicate i (3 : Int32) ++ mWs S1).length ≤ s := c2; have l1' : s ≤ len := l1; exact Nat.lt_of_le_of_lt c2' (by omega)) 3) (by omega) k00 ?_⟩, fun y => absurd y (by decide)⟩) (fun y => absurd q2.gd y)⟩
        intro h1 e
        rw [e, hR.pp]
        have xs := wtR_xs R2 (List.replicate i 3 ++ mWs S1).length 3
        have sk3 := q2.sk.wt 3
        have r3 := hR.put (wtR R2 (List.replicate i 3 ++ mWs S1).length 3)
        refine ⟨_, r3.o, use_vR (d_go (d := d - 1) hg (by omega) r3 (q2.tp.xf xs.xf) (xs.tk q2.tk)) (by omega) k00 ?_⟩
        rintro R4 ⟨gf, tk⟩
        rw [hR.pp, nI_s]
        have q4 := q2.push xs sk3 gf tk hlt (Nat.le_refl _) (Nat.le_refl _)
        refine ih (i + 1) (adv f len s) R4 (by omega) ?_ (by dsimp only at e1; omega) e2
        rw [List.replicate_succ, List.cons_append]
        exact q4
  -- behind NOTs
  have opn : ∀ (m : Nat) (S2 : MaS) (R2 : RefV) (x : Int32), m = 6 - mDp S2 → MS f len R0 S2 R2 → VB g K 5 d 0 0 (PsR f len R0 h B (opd f len m S2)) noT 0 0 75 [some (.ref B), none, some (.int x), none, none] [] (pR h B R2) := by
    intro m
    induction m with
    | zero =>
      intro S2 R2 x hm q2
      have r2 := hR.put R2
      obtain ⟨c1, c2, c3⟩ := q2.bd
      obtain ⟨l1, l2⟩ := q2.l7
      rw [opd]
      refine b_X12_operand_75 hg (by omega) k00 XX _ _ _ ⟨_, r2.o, u_good hg r2 (by omega) k00 (fun _ => ⟨fun y => absurd y (by decide), fun _ => ⟨_, r2.o, u_rSign hg r2 q2.tp q2.tk 40 (by omega) k00 (fun y => ⟨fun e => absurd e (by decide), fun _ => ?_⟩) (fun y => ⟨fun _ => ?_, fun e => absurd rfl e⟩)⟩⟩) (fun y => absurd q2.gd y)⟩
      · rw [if_pos y]
        refine b_X12_operand_96 hg (by omega) k00 XX _ _ _ _ ⟨fun e => absurd e (by decide), fun _ => ⟨_, r2.o, use_v (d_waitsFor (d := d - 1) hg (by omega) r2 q2.sk.2.2.1 (by omega) 14) (by omega) k00 ?_⟩⟩
        intro h1 e
        rw [e, hR.pp]
        have xs := wtR_xs R2 (mWs S2).length 14
        have sk3 := q2.sk.wt 14
        have r3 := hR.put (wtR R2 (mWs S2).length 14)
        refine ⟨_, r3.o, use_vR (d_go (d := d - 1) hg (by omega) r3 (q2.tp.xf xs.xf) (xs.tk q2.tk)) (by omega) k00 ?_⟩
        rintro R4 ⟨gf, tk⟩
        rw [hR.pp]
        have q4 := q2.push xs sk3 gf tk (sgP_k y).2.1 (Nat.le_refl _) (Nat.le_refl _)
        have r4 := hR.put R4
        have h6 : mDp S2 = 6 := by omega
        refine ⟨_, r4.o, use_v (d_deeper (d := d - 1) (n := mDp S2) (st := adv f len (mSt S2)) hg (by omega) r4 q4.tp q4.tk q4.gd q4.dp c3.2) (by omega) k00 ?_⟩
        intro h2 e2
        rw [e2, hR.pp, if_neg (show ¬ mDp S2 < 6 by omega)]
        have hne : ¬ dpP f len (adv f len (mSt S2)) = 0 := by unfold dpP; split <;> decide
        exact b_X12_operand_117 hg (by omega) k00 XX _ _ _ _ (n4 _ _ _ _ (q4.mf hne))
      · rw [if_neg (by rw [y]; decide)]
        exact b_X12_operand_95 hg (by omega) k00 XX _ _ _ (b_X12_operand_96 hg (by omega) k00 XX _ _ _ _ ⟨fun _ => b_X12_operand_117 hg (by omega) k00 XX _ _ _ _ (b_X12_operand_4 hg (by omega) k00 XX _ _ _ _ ⟨fun _ => b120 _ S2 R2 q2 rfl, fun z => absurd rfl z⟩), fun z => absurd rfl z⟩)
    | succ m ih =>
      intro S2 R2 x hm q2
      have r2 := hR.put R2
      obtain ⟨c1, c2, c3⟩ := q2.bd
      obtain ⟨l1, l2⟩ := q2.l7
      rw [opd]
      refine b_X12_operand_75 hg (by omega) k00 XX _ _ _ ⟨_, r2.o, u_good hg r2 (by omega) k00 (fun _ => ⟨fun y => absurd y (by decide), fun _ => ⟨_, r2.o, u_rSign hg r2 q2.tp q2.tk 40 (by omega) k00 (fun y => ⟨fun e => absurd e (by decide), fun _ => ?_⟩) (fun y => ⟨fun _ => ?_, fun e => absurd rfl e⟩)⟩⟩) (fun y => absurd q2.gd y)⟩
      · rw [if_pos y]
        refine b_X12_operand_96 hg (by omega) k00 XX _ _ _ _ ⟨fun e => absurd e (by decide), fun _ => ⟨_, r2.o, use_v (d_waitsFor (d := d - 1) hg (by omega) r2 q2.sk.2.2.1 (by omega) 14) (by omega) k00 ?_⟩⟩
        intro h1 e
        rw [e, hR.pp]
        have xs := wtR_xs R2 (mWs S2).length 14
        have sk3 := q2.sk.wt 14
        have r3 := hR.put (wtR R2 (mWs S2).length 14)
        refine ⟨_, r3.o, use_vR (d_go (d := d - 1) hg (by omega) r3 (q2.tp.xf xs.xf) (xs.tk q2.tk)) (by omega) k00 ?_⟩
        rintro R4 ⟨gf, tk⟩
        rw [hR.pp]
        have q4 := q2.push xs sk3 gf tk (sgP_k y).2.1 (Nat.le_refl _) (Nat.le_refl _)
        have r4 := hR.put R4
        have h6 : mDp S2 < 6 := by omega
        refine ⟨_, r4.o, use_v (d_deeper (d := d - 1) (n := mDp S2) (st := adv f len (mSt S2)) hg (by omega) r4 q4.tp q4.tk q4.gd q4.dp c3.2) (by omega) k00 ?_⟩
        intro h2 e2
        rw [e2, hR.pp, if_pos h6]
        have q5 : MS f len R0 (opnS f len S2) (dpR R4 (mDp S2)) := by
          obtain ⟨a1, a2, a3, a4, a5, a6, a7, a8, a9, a10, a11⟩ := q4
          have x5 : XF R4 (dpR R4 (mDp S2)) := ((XF.refl R4).i rfl).a (Or.inr (Or.inr rfl))
          refine ⟨a1.trans x5, a2.xf x5, (a3.i (by omega)).a, ?_, ?_, ?_, ?_, fun i h0 hi => ?_, a9, a10, by show 1 ≤ mDp S2 + 1 ∧ mDp S2 + 1 ≤ 6; omega⟩
          · rw [dpR_i (by decide)]; exact a4
          · rw [dpR_i (by decide)]; exact a5
          · exact a6.of (dpR_i (by decide)) (dpR_i (by decide)) (ra_sAn (by decide)) (ra_sAn (by decide))
          · exact dpR_d
          · show ra (sA (sI R4 32 _) 13 (upd (ra R4 13) (mDp S2 + 1) 0)) 13 i = if updB (mTe S2) (mDp S2 + 1) false i then 1 else 0
            rw [ra_sA]
            by_cases ei : i = mDp S2 + 1
            · rw [ei, pk_us, updB_s]; rfl
            · rw [pk_un ei, updB_n ei]
              exact a8 i h0 (by have hi' : i ≤ mDp S2 + 1 := hi; show i ≤ mDp S2; omega)
        generalize dpR R4 (mDp S2) = R5 at q5 ⊢
        have r5 := hR.put R5
        refine b_X12_operand_117 hg (by omega) k00 XX _ _ _ _ (b_X12_operand_4 hg (by omega) k00 XX _ _ _ _ ⟨fun z => absurd z (by decide), fun _ => ⟨_, r5.o, u_good hg r5 (by omega) k00 (fun _ => ⟨fun z => absurd z (by decide), fun _ => ?_⟩) (fun z => absurd q5.gd z)⟩⟩)
        refine nots _ (opnS f len S2) (ntP f len 6 (mSt (opnS f len S2))) (fun z => by rw [if_pos z]) (fun z R6 q6 => ?_) 6 0 (mSt (opnS f len S2)) _ (by omega) q5 (by omega) rfl
        rw [if_neg z]
        exact ih (ntS f len (opnS f len S2)) R6 1 (by show m = 6 - (mDp S2 + 1); omega) q6
      · rw [if_neg (by rw [y]; decide)]
        exact b_X12_operand_95 hg (by omega) k00 XX _ _ _ (b_X12_operand_96 hg (by omega) k00 XX _ _ _ _ ⟨fun _ => b_X12_operand_117 hg (by omega) k00 XX _ _ _ _ (b_X12_operand_4 hg (by omega) k00 XX _ _ _ _ ⟨fun _ => b120 _ S2 R2 q2 rfl, fun z => absurd rfl z⟩), fun z => absurd rfl z⟩)
  refine b_X12_operand_0 hg (by omega) k00 XX _ _ _ ?_
  have hid := hR.id
  cases b with
  | false =>
    rw [← hid]
    have r2 := hR.put R
    refine b_X12_operand_4 hg (by omega) k00 XX _ _ _ _ ⟨fun z => absurd z (by decide), fun _ => ⟨_, r2.o, u_good hg r2 (by omega) k00 (fun _ => ⟨fun z => absurd z (by decide), fun _ => b_X12_operand_18 hg (by omega) k00 XX _ _ _ _ ⟨_, r2.o, u_good hg r2 (by omega) k00 (fun _ => ⟨fun z => absurd z (by decide), fun _ => ⟨fun _ => ?_, fun z => absurd rfl z⟩⟩) (fun z => absurd q.gd z)⟩⟩) (fun z => absurd q.gd z)⟩⟩
    rw [hid]
    have := opn (6 - mDp S) S R 0 rfl q
    rw [hid] at this
    exact this
  | true =>
    rw [← hid]
    have r2 := hR.put R
    refine b_X12_operand_4 hg (by omega) k00 XX _ _ _ _ ⟨fun z => absurd z (by decide), fun _ => ⟨_, r2.o, u_good hg r2 (by omega) k00 (fun _ => ⟨fun z => absurd z (by decide), fun _ => ?_⟩) (fun z => absurd q.gd z)⟩⟩
    rw [hid]
    have := nots (opb f len true S) S (ntP f len 6 (mSt S)) (fun z => by unfold opb; rw [if_pos rfl, if_pos z]) (fun z R6 q6 => by
      unfold opb
      rw [if_pos rfl, if_neg z]
      exact opn (6 - mDp S) (ntS f len S) R6 1 rfl q6) 6 0 (mSt S) R (by omega) q (by omega) rfl
    rw [hid] at this
    exact this
end ROQ
