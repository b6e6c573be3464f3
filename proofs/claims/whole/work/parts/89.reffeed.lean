/-! THE REFERENCE: FEED -/
theorem b_i8 (x : Int32) {i : Nat} (hi : i < 8) : bt (Int8.toInt32 (Int32.toInt8 x)) i = bt x i := by
  show (Int8.toInt32 (Int32.toInt8 x)).toBitVec.getLsbD i = x.toBitVec.getLsbD i
  rw [Int8.toBitVec_toInt32, Int32.toBitVec_toInt8, BitVec.getLsbD_signExtend, BitVec.signExtend_eq_setWidth_of_le _ (by decide)]
  simp [hi, show i < 32 by omega]
theorem b_255 : ∀ i, i < 32 → bt 255 i = decide (i < 8) := by decide +kernel
theorem by_rel {v : Int32} {n : Nat} (hn : n ≤ 24) : byE v n &&& 255 = (v >>> (nI n &&& 31)) &&& 255 := by
  apply b_ext
  intro i hi
  rw [b_and, b_and, b_255 i hi]
  by_cases y : i < 8
  · have e : bt (byE v n) i = bt v (n + i) := by
      unfold byE
      rw [show narT 1 (Int8.toInt32 (Int32.toInt8 ((Int32.toUInt32 v >>> (Int32.toUInt32 (nI n) &&& Int32.toUInt32 31)).toInt32))) = Int8.toInt32 (Int32.toInt8 (Int8.toInt32 (Int32.toInt8 ((Int32.toUInt32 v >>> (Int32.toUInt32 (nI n) &&& Int32.toUInt32 31)).toInt32)))) from rfl, b_i8 _ y, b_i8 _ y, b_ushr n (by omega)]
    rw [e, b_sshr n (by omega) v hi, if_pos (by omega)]
  · rw [decide_eq_false y, Bool.and_false, Bool.and_false]
section RFE
variable {g : GG} {h : Hp} {B d : Nat} {R : RefV} {s : CoreV}
/-- a byte laid -/
def ly1 (R : RefV) (v : Int32) (n t : Nat) : RefV := sI (sA R 5 (upd (ra R 5) t ((v >>> (nI n &&& 31)) &&& 255))) 12 (nI (t + 1))
theorem RS.ly {v : Int32} {n : Nat} (hn : n ≤ 24) (q : RS s R) : RS (pb1 s v n) (ly1 R v n (oTl (sO s))) := by
  refine ⟨q.tr, q.kn, ⟨?_, ?_⟩, q.fp, q.rf, q.le, q.pa, q.se, q.hi, q.im⟩
  · rw [ly1, ri_sI]; rfl
  · intro k hk
    show ra (sA R 5 (upd (ra R 5) (oTl (sO s)) ((v >>> (nI n &&& 31)) &&& 255))) 5 k = upd (sTp s) (oTl (sO s)) (byE v n) k &&& 255
    rw [ra_sA]
    by_cases y : k = oTl (sO s)
    · rw [y, pk_us, pk_us, by_rel hn]
    · rw [pk_un y, pk_un y]; exact q.tp.2 k hk
/-- what lays keeps -/
def LyQ (s : CoreV) (v : Int32) (R R' : RefV) : Prop := RS (pbS s v) R' ∧ ri R' 0 = ri R 0
theorem d_lay1 {K : KX} (XX : CB g K cX12_lays 3 yX12_lays none []) {Pr : Option Value → Hp → Prop} {v : Int32} {n : Nat} {R1 : RefV} (hg : GOK g) (hd : 8 ≤ d) (hR : RA h B R) (hn : n ≤ 24) (hS : RS s R1) (ht : oTl (sO s) < 700) (fin : ∀ R2, RS (pb1 s v n) R2 → ri R2 0 = ri R1 0 → VB g K 3 d 0 0 Pr noT 0 0 3 [some (.ref B), some (.int v), some (.int (nI n + -8))] [] (pR h B R2)) : VB g K 3 d 0 0 Pr noT 0 0 3 [some (.ref B), some (.int v), some (.int (nI n))] [] (pR h B R1) := by
  have r1 := hR.put R1
  have r2 := hR.put (sA R1 5 (upd (ra R1 5) (oTl (sO s)) ((v >>> (nI n &&& 31)) &&& 255)))
  have e12 : ri R1 12 = nI (oTl (sO s)) := hS.tp.1
  refine b_X12_lays_3 hg (by omega) k00 XX _ _ _ _ ⟨fun q => absurd q (nI_pos (by omega)), fun _ => ⟨_, r1.n11, _, by rw [r1.i12, e12], _, r1.u5 ht, ?_⟩⟩
  rw [hR.pp]
  have e12' : ri (sA R1 5 (upd (ra R1 5) (oTl (sO s)) ((v >>> (nI n &&& 31)) &&& 255))) 12 = nI (oTl (sO s)) := e12
  refine ⟨_, by rw [r2.i12, e12'], _, r2.w12 _, ?_⟩
  rw [hR.pp, nI_s]
  exact fin _ (hS.ly hn) (by rw [ri_sIn (by decide)]; rfl)
theorem d_lays {v : Int32} (hg : GOK g) (hd : 8 ≤ d) (hR : RA h B R) (hS : RS s R) (ht : oTl (sO s) + 4 ≤ 700) : CT g d yX12_lays (wsC yX12_lays cX12_lays 3 none) [.ref B, .int v] h 0 0 (fun r h2 => r = none ∧ ∃ R', h2 = pR h B R' ∧ LyQ s v R R') noT := by
  refine CT_ofB (by decide +kernel) (Nat.le_of_ble_eq_true rfl) rfl fun K XX => ?_
  refine b_X12_lays_0 hg (by omega) k00 XX _ _ _ ?_
  have := d_lay1 (Pr := fun r h2 => r = none ∧ ∃ R', h2 = pR h B R' ∧ LyQ s v R R') (v := v) (n := 24) (R1 := R) XX hg hd hR (by omega) hS (by omega) (fun R2 s2 z2 => ?_)
  · rw [hR.id] at this
    exact this
  refine d_lay1 (n := 16) XX hg hd hR (by omega) s2 (by show oTl (sO s) + 1 < 700; omega) (fun R3 s3 z3 => ?_)
  refine d_lay1 (n := 8) XX hg hd hR (by omega) s3 (by show oTl (sO s) + 1 + 1 < 700; omega) (fun R4 s4 z4 => ?_)
  refine d_lay1 (n := 0) XX hg hd hR (by omega) s4 (by show oTl (sO s) + 1 + 1 + 1 < 700; omega) (fun R5 s5 z5 => ?_)
  exact b_X12_lays_3 hg (by omega) k00 XX _ _ _ _ ⟨fun _ => ⟨rfl, R5, rfl, s5, by rw [z5, z4, z3, z2]⟩, fun q => absurd (by decide) q⟩
theorem r_feed (hg : GOK g) (hd : 20 ≤ d) (hR : RA h B R) (hI : IV s) (hS : RS s R) (a b c e f : Int32) : CT g d yX12_feed (wsC yX12_feed cX12_feed 6 (some .int)) [.ref B, .int a, .int b, .int c, .int e, .int f] h 0 0 (PrM h B cd2 s (m_feed s a b c e f)) noT := by
  have ht := hI.tl
  refine CT_ofB (by decide +kernel) (Nat.le_of_ble_eq_true rfl) rfl fun K XX => ?_
  have r1 := hR.put (sI R 0 0)
  have s1 := hS.s0 hI
  have z1 : ri (sI R 0 0) 0 = 0 := ri_sI
  refine b_X12_feed_0 hg (by omega) k00 XX _ _ _ _ _ _ _ ⟨_, hR.w0 0, ?_⟩
  generalize sI R 0 0 = R1 at *
  refine ⟨_, by rw [r1.i12, s1.tp.1], ?_⟩
  rw [show nI (oTl (sO s)) + 20 = nI (oTl (sO s) + 20) from nI_add _ 20]
  refine ⟨fun q => ?_, fun q => prM hI s1 (QF.refl _) z1 ?_ rfl⟩
  · have q' : oTl (sO s) + 20 ≤ 700 := le_nI (y := 700) (by omega) (by omega) q
    refine ⟨_, r1.o, use_vR (d_lays (v := a) (d := d - 1) hg (by omega) r1 s1 (by omega)) (by omega) k00 ?_⟩
    rintro R2 ⟨s2, z2⟩
    rw [hR.pp]
    have r2 := hR.put R2
    refine ⟨_, r2.o, use_vR (d_lays (v := b) (d := d - 1) hg (by omega) r2 s2 (by rw [pbS_l]; omega)) (by omega) k00 ?_⟩
    rintro R3 ⟨s3, z3⟩
    rw [hR.pp]
    have r3 := hR.put R3
    refine ⟨_, r3.o, use_vR (d_lays (v := c) (d := d - 1) hg (by omega) r3 s3 (by rw [pbS_l, pbS_l]; omega)) (by omega) k00 ?_⟩
    rintro R4 ⟨s4, z4⟩
    rw [hR.pp]
    have r4 := hR.put R4
    refine ⟨_, r4.o, use_vR (d_lays (v := e) (d := d - 1) hg (by omega) r4 s4 (by rw [pbS_l, pbS_l, pbS_l]; omega)) (by omega) k00 ?_⟩
    rintro R5 ⟨s5, z5⟩
    rw [hR.pp]
    have r5 := hR.put R5
    refine ⟨_, r5.o, use_vR (d_lays (v := f) (d := d - 1) hg (by omega) r5 s5 (by rw [pbS_l, pbS_l, pbS_l, pbS_l]; omega)) (by omega) k00 ?_⟩
    rintro R6 ⟨s6, z6⟩
    rw [hR.pp]
    have r6 := hR.put R6
    refine ⟨_, by rw [r6.i12, s6.tp.1], prN s6 (by rw [z6, z5, z4, z3, z2, z1]) ?_ rfl⟩
    rw [m_feed, if_pos q', pbS_l, pbS_l, pbS_l, pbS_l, pbS_l]
  · have q' : ¬ oTl (sO s) + 20 ≤ 700 := fun e => q (nI_le (b := 700) e (by omega))
    rw [m_feed, if_neg q']
end RFE
