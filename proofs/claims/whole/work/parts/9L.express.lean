/-! THE REFERENCE: a rule read -/
theorem drS_len : ∀ (w o : List Int32) (lv : Nat), (drS lv w o).1.length + (drS lv w o).2.length = w.length + o.length ∧ (drS lv w o).1.length ≤ w.length := by
  intro w
  induction w with
  | nil => intro o lv; exact ⟨rfl, Nat.le_refl _⟩
  | cons a w ih =>
    intro o lv
    unfold drS
    split
    · exact ⟨rfl, Nat.le_refl _⟩
    · have := ih (a :: o) lv
      simp only [List.length_cons] at this ⊢
      omega
theorem drS_open : ∀ (w o : List Int32), OpS w → ∃ a t, (drS 0 w o).1 = a :: t := by
  intro w
  induction w with
  | nil => rintro o ⟨a, ha, _⟩; exact absurd ha List.not_mem_nil
  | cons a w ih =>
    intro o ho
    unfold drS
    by_cases y : ¬ a < 14 ∨ sgV a < 0
    · rw [if_pos y]; exact ⟨a, w, rfl⟩
    · rw [if_neg y]
      obtain ⟨b, hb, hb2⟩ := ho
      rcases List.mem_cons.mp hb with e | e
      · rw [e] at hb2; exact absurd (Or.inl hb2) y
      · exact ih (a :: o) ⟨b, e, hb2⟩
theorem sg_no {f : AF} {len st : Nat} {v w : Int32} (h : sgP f len st v = true) (hn : ¬ v = w) : sgP f len st w = false := by
  obtain ⟨_, _, e⟩ := sgP_k h
  rw [sgP, decide_eq_false (show ¬ f st = w from fun z => hn (by rw [← e, z])), Bool.and_false, Bool.and_false]
theorem sg_kw {f : AF} {len st : Nat} {v : Int32} (h : sgP f len st v = true) : kwP f len st = 15 := kw_none (fun k _ => by
  obtain ⟨e, _, _⟩ := sgP_k h
  rw [wdP, e]; rfl)
theorem kw_sg {f : AF} {len st k : Nat} (h : wdP f len st k = true) (v : Int32) : sgP f len st v = false := by
  rw [sgP, wdP_k h]; rfl
section REX
variable {g : GG} {h : Hp} {B d len st : Nat} {R R0 : RefV} {f : AF} {S : MaS}
theorem d_isOpened (hg : GOK g) (hd : 9 ≤ d) (hR : RA h B R) {w : List Int32} (e31 : ri R 31 = nI w.length) (hs : Stk (ra R 12) w) (hw : w.length ≤ 900) (c : Bool) (hc : c = true ↔ OpS w) : CT g d yX12_isOpened (wsC yX12_isOpened cX12_isOpened 2 (some .boolean)) [.ref B] h 0 0 (fun r h2 => r = some (.int (if c then 1 else 0)) ∧ h2 = h) noT := by
  refine CT_ofB (by decide +kernel) (Nat.le_of_ble_eq_true rfl) rfl fun K XX => ?_
  have m1 : nI 0 - 1 = -1 := by decide
  have loop : ∀ (w : List Int32), Stk (ra R 12) w → w.length ≤ 900 → (c = true ↔ OpS w) → VB g K 2 d 0 0 (fun r h2 => r = some (.int (if c then 1 else 0)) ∧ h2 = h) noT 0 0 7 [some (.ref B), some (.int (nI w.length - 1))] [] h := by
    intro w
    induction w with
    | nil =>
      intro _ _ hc
      have c0 : c = false := by
        cases c with
        | false => rfl
        | true => obtain ⟨a, ha, _⟩ := hc.mp rfl; exact absurd ha List.not_mem_nil
      refine b_X12_isOpened_7 hg (by omega) k00 XX _ _ _ ⟨fun _ => b_X12_isOpened_29 hg (by omega) k00 XX _ _ ⟨fun _ => ⟨Or.inl rfl, by rw [c0]; rfl, rfl⟩, fun y => absurd (by show nI 0 - 1 < 0; rw [m1]; decide) y⟩, fun y => absurd (by show nI 0 - 1 < 0; rw [m1]; decide) y⟩
    | cons a w ih =>
      intro hs hl hc
      simp only [List.length_cons] at hl ⊢
      rw [nI_pred]
      have ea : ra R 12 w.length = a := hs.1
      refine b_X12_isOpened_7 hg (by omega) k00 XX _ _ _ ⟨fun y => absurd y (nI_pos (by omega)), fun _ => ⟨_, hR.n38, _, hR.r12 (by omega), ?_⟩⟩
      rw [ea]
      refine use_i (d_isOpen (d := d - 1) hg (by omega) a) (by omega) k00 ⟨fun y => ?_, fun y => ?_⟩
      · have z : ¬ a < 14 := fun z => by rw [if_pos z] at y; exact absurd rfl y
        have c1 : c = true := hc.mpr ⟨a, List.mem_cons_self, z⟩
        exact b_X12_isOpened_29 hg (by omega) k00 XX _ _ ⟨fun y => absurd y (nI_pos (by omega)), fun _ => ⟨Or.inr rfl, by rw [c1]; rfl, rfl⟩⟩
      · have z : a < 14 := Classical.byContradiction fun z => by rw [if_neg z] at y; exact absurd y (by decide)
        have em : nI w.length + (-1) = nI w.length - 1 := by rw [Int32.sub_eq_add_neg]
        rw [em]
        refine ih hs.2 (by omega) (hc.trans ⟨?_, ?_⟩)
        · rintro ⟨b, hb, hb2⟩
          rcases List.mem_cons.mp hb with e | e
          · rw [e] at hb2; exact absurd z hb2
          · exact ⟨b, e, hb2⟩
        · rintro ⟨b, hb, hb2⟩; exact ⟨b, List.mem_cons_of_mem _ hb, hb2⟩
  exact b_X12_isOpened_0 hg (by omega) k00 XX _ _ ⟨_, by rw [hR.i31, e31], loop w hs hw hc⟩
theorem d_closes (hg : GOK g) (hd : 11 ≤ d) (hR : RA h B R) (q : MS f len R0 S R) (ho : OpS (mWs S)) (hc : sgP f len (mSt S) 41 = true) (h2 : 2 ≤ mDp S) : CT g d yX12_closes (wsC yX12_closes cX12_closes 1 none) [.ref B] h 0 0 (fun v h2 => v = none ∧ ∃ R', h2 = pR h B R' ∧ MS f len R0 (clS f len S) R') noT := by
  obtain ⟨b1, b2, b3⟩ := q.bd
  obtain ⟨l1, l2⟩ := q.l7
  have hal := adv_lt (f := f) (sgP_k hc).2.1
  refine CT_ofB (by decide +kernel) (Nat.le_of_ble_eq_true rfl) rfl fun K XX => ?_
  have dr := d_drops (d := d - 1) (lv := 0) hg (by omega) hR (by decide) (mWs S) (mOut S) q.sk (by omega) (by omega)
  refine b_X12_closes_0 hg (by omega) k00 XX _ _ ⟨_, hR.o, use_vR dr (by omega) k00 ?_⟩
  rintro R2 ⟨xs, sk⟩
  have r2 := hR.put R2
  obtain ⟨n1, n2⟩ := drS_len (mWs S) (mOut S) 0
  obtain ⟨a, t, et⟩ := drS_open (mWs S) (mOut S) ho
  have ecl : clS f len S = (adv f len (mSt S), (drS 0 (mWs S) (mOut S)).2, t, mDp S - 1, mTe S) := by unfold clS; rw [et]; rfl
  rw [ecl]
  rw [et] at sk n1 n2
  simp only [List.length_cons] at n1 n2
  generalize (drS 0 (mWs S) (mOut S)).2 = o at *
  refine ⟨_, by rw [r2.i31, sk.2.2.1], ?_⟩
  rw [List.length_cons, nI_pred]
  refine ⟨_, r2.w31 _, ?_⟩
  rw [hR.pp]
  have r3 := hR.put (sI R2 31 (nI t.length))
  have e32 : ri (sI R2 31 (nI t.length)) 32 = nI (mDp S) := by rw [ri_sIn (by decide), xs.1 32 (by decide) (by decide)]; exact q.dp
  refine ⟨_, by rw [r3.i32, e32], ?_⟩
  rw [show nI (mDp S) - 1 = nI (mDp S - 1) by rw [show (1 : Int32) = nI 1 from rfl, pk_sub (by omega)]]
  refine ⟨_, r3.w32 _, ?_⟩
  rw [hR.pp]
  have r4 := hR.put (sI (sI R2 31 (nI t.length)) 32 (nI (mDp S - 1)))
  have x4 : XF R (sI (sI R2 31 (nI t.length)) 32 (nI (mDp S - 1))) := (xs.xf.i rfl).i rfl
  have tk4 : TkR f len (mSt S) (sI (sI R2 31 (nI t.length)) 32 (nI (mDp S - 1))) := ((xs.tk q.tk).i (by omega)).i (by omega)
  refine ⟨_, r4.o, use_vR (d_go (d := d - 1) hg (by omega) r4 (q.tp.xf x4) tk4) (by omega) k00 ?_⟩
  rintro R5 ⟨gf, tk⟩
  rw [hR.pp]
  have x5 := x4.trans gf.xf
  refine ⟨rfl, R5, rfl, q.xf.trans x5, q.tp.xf x5, tk, ?_, ?_, ⟨?_, ?_, ?_, ?_⟩, ?_, fun i h0 hi => ?_, ?_, ?_, ?_⟩
  · rw [gf.1 13 (by omega), ri_sIn (by decide), ri_sIn (by decide), xs.1 13 (by decide) (by decide)]; exact q.gd
  · rw [gf.1 14 (by omega), ri_sIn (by decide), ri_sIn (by decide), xs.1 14 (by decide) (by decide)]; exact q.p
  · rw [gf.1 30 (by omega), ri_sIn (by decide), ri_sIn (by decide)]; exact sk.1
  · rw [gf.2]; exact sk.2.1
  · rw [gf.1 31 (by omega), ri_sIn (by decide), ri_sI]
  · rw [gf.2]; exact sk.2.2.2.2
  · rw [gf.1 32 (by omega), ri_sI]
  · have hi' : i ≤ mDp S - 1 := hi
    rw [gf.2]
    show ra R2 13 i = _
    rw [xs.2.2 13 (by decide) (by decide)]
    exact q.te i h0 (by omega)
  · show o.length + t.length + 1 ≤ 2 * adv f len (mSt S); omega
  · show t.length ≤ adv f len (mSt S); omega
  · show 1 ≤ mDp S - 1 ∧ mDp S - 1 ≤ 6; omega
/-- what a rule read leaves -/
def EpR (f : AF) (len : Nat) (R0 : RefV) (out0 : List Int32) (h : Hp) (B : Nat) (X : PR) (v : Option Value) (h2 : Hp) : Prop := v = none ∧ ∃ R', h2 = pR h B R' ∧ XF R0 R' ∧ match X with
  | .inl r => TkR f len r.1 R' ∧ ri R' 13 = 0 ∧ ri R' 14 = ri R0 14 ∧ ri R' 30 = nI (0 :: enR r.2 ++ out0).length ∧ Stk (ra R' 11) (0 :: enR r.2 ++ out0) ∧ (0 :: enR r.2 ++ out0).length ≤ 2 * r.1
  | .inr e => ri R' 13 = e.1 ∧ ¬ e.1 = 0 ∧ ri R' 14 = nI e.2
section LOOPX
variable {K : KX} {X : PR} {out0 : List Int32}
theorem ex_345 (XX : CB g K cX12_expression 3 yX12_expression none []) (hg : GOK g) (hd : 16 ≤ d) (hR : RA h B R0) : ∀ (e : Int32 × Nat) (R2 : RefV), MF R0 e R2 → X = .inr e → VB g K 3 d 0 0 (EpR f len R0 out0 h B X) noT 0 0 345 [some (.ref B), none, none] [] (pR h B R2) := by
  intro e R2 mf hX
  obtain ⟨m1, m2, m3, m4, a, b, m5, m6, m7, m8⟩ := mf
  have r2 := hR.put R2
  obtain ⟨lo, lo1, lo2⟩ := Stk_any (ra R2 11) a
  obtain ⟨lw, lw1, lw2⟩ := Stk_any (ra R2 12) b
  have sk : SKR lo lw R2 := ⟨by rw [m5, lo1], lo2, by rw [m6, lw1], lw2⟩
  obtain ⟨n1, n2⟩ := drS_len lw lo 0
  refine b_X12_expression_345 hg (by omega) k00 XX _ _ ⟨_, r2.o, use_vR (d_drops (d := d - 1) (lv := 0) hg (by omega) r2 (by decide) lw lo sk (by omega) (by omega)) (by omega) k00 ?_⟩
  rintro R3 ⟨xs, sk3⟩
  rw [hR.pp]
  have r3 := hR.put R3
  refine ⟨_, r3.o, use_v (d_puts (d := d - 1) hg (by omega) r3 sk3.1 (by omega) 0) (by omega) k00 ?_⟩
  intro h4 e4
  rw [e4, hR.pp]
  have xs4 := xs.trans (ptR_xs R3 (drS 0 lw lo).2.length 0)
  refine ⟨rfl, _, rfl, m1.trans xs4.xf, ?_⟩
  rw [hX]
  refine ⟨?_, m3, ?_⟩
  · rw [xs4.1 13 (by decide) (by decide)]; exact m2
  · rw [xs4.1 14 (by decide) (by decide)]; exact m4
theorem ex_29N (XX : CB g K cX12_expression 3 yX12_expression none []) (hg : GOK g) (hd : 16 ≤ d) (hR : RA h B R0) (e : Int32 × Nat) (R2 : RefV) (x : Int32) (mf : MF R0 e R2) (hX : X = .inr e) : VB g K 3 d 0 0 (EpR f len R0 out0 h B X) noT 0 0 29 [some (.ref B), some (.int x), none] [] (pR h B R2) := by
  have r2 := hR.put R2
  have n325 : VB g K 3 d 0 0 (EpR f len R0 out0 h B X) noT 0 0 325 [some (.ref B), none, none] [] (pR h B R2) :=
    b_X12_expression_325 hg (by omega) k00 XX _ _ ⟨_, r2.o, u_good hg r2 (by omega) k00 (fun z => absurd z (by rw [mf.2.1]; exact mf.2.2.1)) (fun _ => ⟨fun _ => ex_345 XX hg hd hR e R2 mf hX, fun z => absurd rfl z⟩)⟩
  exact b_X12_expression_29 hg (by omega) k00 XX _ _ _ ⟨fun _ => n325, fun _ => ⟨_, r2.o, u_good hg r2 (by omega) k00 (fun z => absurd z (by rw [mf.2.1]; exact mf.2.2.1)) (fun _ => ⟨fun _ => n325, fun z => absurd rfl z⟩)⟩⟩
/-- the loop's head at a state -/
def exG (g : GG) (K : KX) (d : Nat) (f : AF) (len : Nat) (R0 : RefV) (out0 : List Int32) (h : Hp) (B : Nat) (X : PR) (S : MaS) : Prop := ∀ R, MS f len R0 S R → VB g K 3 d 0 0 (EpR f len R0 out0 h B X) noT 0 0 29 [some (.ref B), some (.int 1), none] [] (pR h B R)
def exF (X : PR) (e : Int32 × Nat) : Prop := X = .inr e
/-- an operand, then the loop's head -/
theorem ex_opd (XX : CB g K cX12_expression 3 yX12_expression none []) (hg : GOK g) (hd : 16 ≤ d) (hR : RA h B R0) {b : Bool} {S2 : MaS} {R2 : RefV} {Z : Nat → Nat → Hp → Prop} (q2 : MS f len R0 S2 R2) (hO : OG f len (exG g K d f len R0 out0 h B X) (exF X) b S2)
    (hz : ∀ h1, VB g K 3 d 0 0 (EpR f len R0 out0 h B X) noT 0 0 29 [some (.ref B), some (.int 1), none] [] h1 → Z 0 0 h1) :
    ∃ d1 P1 E1 m1 n1, CT g d1 yX12_operand (wsC yX12_operand cX12_operand 5 none) [.ref B, .int (if b then 1 else 0)] (pR h B R2) m1 n1 P1 E1 ∧ (d1 + 1 ≤ d ∧ 0 + m1 ≤ 0 ∧ 0 + n1 ≤ 0) ∧ (∀ E h', E1 E h' → noT E h') ∧ (∀ v h1, P1 v h1 → v = none ∧ Z m1 n1 h1) := by
  have r2 := hR.put R2
  refine ⟨d - 1, _, _, 0, 0, d_operand (d := d - 1) hg (by omega) r2 q2 b, ⟨by omega, Nat.le_refl _, Nat.le_refl _⟩, fun _ _ z => z, ?_⟩
  rintro v h1 ⟨e1, R3, e2, e3⟩
  refine ⟨e1, hz _ ?_⟩
  rw [e2, hR.pp]
  unfold OG at hO
  cases ho : opb f len b S2 with
  | inl S3 =>
    rw [ho] at hO e3
    exact hO R3 e3
  | inr e =>
    rw [ho] at hO e3
    exact ex_29N XX hg hd hR e R3 1 e3 hO
/-- a joint taken: the state -/
theorem ex_jn {r : Nat} (hr : r ≤ 4) (q : MS f len R0 S R) (hj : ¬ jtP f len r (mSt S) = 0) {R2 : RefV} (xs : XS R R2) (sk : SKR (drS (lvR r) (mWs S) (mOut S)).2 (drS (lvR r) (mWs S) (mOut S)).1 R2) :
    ∀ (R4 R5 : RefV), (R4 = (if r ≤ 1 then sA (wtR R2 (drS (lvR r) (mWs S) (mOut S)).1.length (opR (jtP f len r (mSt S)))) 13 (upd (ra R2 13) (mDp S) 0) else if r = 2 then sA (wtR R2 (drS (lvR r) (mWs S) (mOut S)).1.length (opR (jtP f len r (mSt S)))) 13 (upd (ra R2 13) (mDp S) 1) else wtR R2 (drS (lvR r) (mWs S) (mOut S)).1.length (opR (jtP f len r (mSt S))))) → GF R4 R5 → TkR f len (adv f len (mSt S)) R5 → MS f len R0 (jnS f len r S) R5 := by
  intro R4 R5 e4 gf tk
  obtain ⟨b1, b2, b3⟩ := q.bd
  obtain ⟨n1, n2⟩ := drS_len (mWs S) (mOut S) (lvR r)
  have hlt := jtP_lt hj
  have hal := adv_lt (f := f) hlt
  have w3 := wtR_xs R2 (drS (lvR r) (mWs S) (mOut S)).1.length (opR (jtP f len r (mSt S)))
  have xs3 := xs.trans w3
  have sk3 := sk.wt (opR (jtP f len r (mSt S)))
  unfold jnS
  generalize drS (lvR r) (mWs S) (mOut S) = dr at *
  generalize wtR R2 dr.1.length (opR (jtP f len r (mSt S))) = R3 at *
  -- R4: as R3 but for the row 13
  have f4 : (∀ k, ri R4 k = ri R3 k) ∧ (∀ c, c ≠ 13 → ra R4 c = ra R3 c) ∧ ∀ i, 0 < i → i ≤ mDp S → ra R4 13 i = if (if r ≤ 1 then updB (mTe S) (mDp S) false else if r = 2 then updB (mTe S) (mDp S) true else mTe S) i then 1 else 0 := by
    have t13 : ∀ i, 0 < i → i ≤ mDp S → ra R2 13 i = if mTe S i then 1 else 0 := fun i h0 hi => by rw [xs.2.2 13 (by decide) (by decide)]; exact q.te i h0 hi
    rw [e4]
    by_cases y1 : r ≤ 1
    · simp only [if_pos y1]
      refine ⟨fun _ => rfl, fun c hc => ra_sAn hc, fun i h0 hi => ?_⟩
      rw [ra_sA]
      by_cases ei : i = mDp S
      · rw [ei, pk_us, updB_s]; rfl
      · rw [pk_un ei, updB_n ei]; exact t13 i h0 hi
    · simp only [if_neg y1]
      by_cases y2 : r = 2
      · simp only [if_pos y2]
        refine ⟨fun _ => rfl, fun c hc => ra_sAn hc, fun i h0 hi => ?_⟩
        rw [ra_sA]
        by_cases ei : i = mDp S
        · rw [ei, pk_us, updB_s]; rfl
        · rw [pk_un ei, updB_n ei]; exact t13 i h0 hi
      · simp only [if_neg y2]
        refine ⟨fun _ => trivial, fun c hc => trivial, fun i h0 hi => ?_⟩
        rw [w3.2.2 13 (by decide) (by decide)]; exact t13 i h0 hi
  obtain ⟨i4, a4, t4⟩ := f4
  have x4 : XF R R4 := ⟨fun k hk => by rw [i4]; exact xs3.xf.1 k hk, fun c c1 c2 c3 => by rw [a4 c c3]; exact xs3.2.2 c c1 c2⟩
  have x5 := x4.trans gf.xf
  refine ⟨q.xf.trans x5, q.tp.xf x5, tk, ?_, ?_, sk3.of ?_ ?_ ?_ ?_, ?_, fun i h0 hi => ?_, ?_, ?_, b3⟩
  · rw [gf.1 13 (by omega), i4, xs3.1 13 (by decide) (by decide)]; exact q.gd
  · rw [gf.1 14 (by omega), i4, xs3.1 14 (by decide) (by decide)]; exact q.p
  · rw [gf.1 30 (by omega), i4]
  · rw [gf.1 31 (by omega), i4]
  · rw [gf.2, a4 11 (by decide)]
  · rw [gf.2, a4 12 (by decide)]
  · rw [gf.1 32 (by omega), i4, xs3.1 32 (by decide) (by decide)]; exact q.dp
  · rw [gf.2]; exact t4 i h0 hi
  · show dr.2.length + (opR (jtP f len r (mSt S)) :: dr.1).length + 1 ≤ 2 * adv f len (mSt S)
    simp only [List.length_cons]; omega
  · show (opR (jtP f len r (mSt S)) :: dr.1).length ≤ adv f len (mSt S)
    simp only [List.length_cons]; omega
end LOOPX
end REX
