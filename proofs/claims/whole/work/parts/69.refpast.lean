/-! THE REFERENCE'S public methods: undo, see, forget, image, restore -/
section RP
variable {g : GG} {h h2 : Hp} {B b d D k kc ks mc ms : Nat} {T : ToldV} {X Y : LandV} {R0 R R' : RefV} {s s' : CoreV} {a : Int32}
theorem rdL_le {n w p : Nat} {L : LandV} {st : AF} (hn : n ≤ 12) (hw : w ≤ 6) : LE n w (ldR st p) (rdL L st p) := by
  have cp : ∀ (f1 : AF) (sp m j : Nat), sp ≠ 0 → j < m → cpyF st f1 sp 0 m m j = st (sp + j) := by
    intro f1 sp m j h0 hj
    unfold cpyF
    rw [if_neg (fun e => h0 e.1), pk_cpy_in (by omega) (by omega), Nat.sub_zero]
  refine ⟨rfl, fun k hk => ⟨?_, ?_, ?_⟩, fun k hk => ⟨?_, ?_⟩⟩
  · exact (cp (lStr L) (p + 1) 12 k (by omega) (by omega)).symm
  · exact (cp (lSm L) (p + 13) 12 k (by omega) (by omega)).symm
  · exact (cp (lSt L) (p + 25) 12 k (by omega) (by omega)).symm
  · exact (cp (lAt L) (p + 37) 6 k (by omega) (by omega)).symm
  · exact (cp (lTh L) (p + 43) 6 k (by omega) (by omega)).symm
theorem r_undo (hg : GOK g) (hd : 20 ≤ d) (hR : RA h B R) (hI : IV s) (hS : RS s R) : CT g d yX12_undo (wsC yX12_undo cX12_undo 2 (some .int)) [.ref B] h 0 0 (PrM h B cd2 s (m_undo s)) noT := by
  have o2 := hI.o2
  have o3 := hI.o3
  obtain ⟨p1, p2⟩ := hI.pa.1
  refine CT_ofB (by decide +kernel) (Nat.le_of_ble_eq_true rfl) rfl fun K XX => ?_
  have r1 := hR.put (sI R 0 0)
  have s1 := hS.s0 hI
  have z1 : ri (sI R 0 0) 0 = 0 := ri_sI
  refine b_X12_undo_0 hg (by omega) k00 XX _ _ ⟨_, hR.w0 0, ?_⟩
  generalize sI R 0 0 = R1 at *
  refine ⟨_, by rw [r1.i42, s1.pa.1], fun y => ⟨_, by rw [r1.i42, s1.pa.1], ?_⟩, fun y => ?_⟩
  · have y' : (sP s).1 ≠ 0 := fun e => y (by rw [e]; rfl)
    have em : m_undo s = .inl (nI ((sP s).1 - 1), undoS s) := by rw [m_undo, if_neg y']
    rw [em, nI_o, pk_sub (by omega)]
    refine ⟨_, r1.w42 _, ?_⟩
    rw [hR.pp]
    generalize hm : (sP s).1 - 1 = m at *
    have lp : ∀ (j i : Nat) (f : AF), i + j = 49 → (∀ k, k < i → f k = ra R1 15 (49 * m + k)) → VB g K 2 d 0 0 (PrM h B cd2 s (.inl (nI m, undoS s))) noT 0 0 26 [some (.ref B), some (.int (nI i))] [] (pR h B (sA (sI R1 42 (nI m)) 14 f)) := by
      intro j
      induction j with
      | zero =>
        intro i f hi h1
        have r2 := hR.put (sA (sI R1 42 (nI m)) 14 f)
        refine b_X12_undo_26 hg (by omega) k00 XX _ _ _ ⟨fun _ => ⟨_, r2.i42, prN (R' := sA (sI R1 42 (nI m)) 14 f) ?_ z1 (by rw [show ri (sA (sI R1 42 (nI m)) 14 f) 42 = nI m from (ri_sI : ri (sI R1 42 (nI m)) 42 = nI m)]) rfl⟩, fun q => absurd (nle_nI (x := 49) (by omega) (by omega) q) (by omega)⟩
        refine ⟨s1.tr, s1.kn, s1.tp, s1.fp, s1.rf, ?_, ⟨?_, ?_⟩, s1.se, s1.hi, s1.im⟩
        · have h2 : LE (sN s) (sW s) (ldR f 0) (ldR (ra R1 15) (49 * m)) := ld_congr o2 o3 (fun j hj => by rw [Nat.zero_add]; exact h1 j (by omega))
          have h3 := s1.pa.2 m (by omega)
          rw [← hm]
          rw [← hm] at h2 h3
          exact (h2.trans h3).trans (rdL_le o2 o3)
        · show nI m = nI ((sP s).1 - 1)
          rw [hm]
        · intro i hi
          exact s1.pa.2 i (by have : i < (sP s).1 - 1 := hi; omega)
      | succ j ih =>
        intro i f hi h1
        have r2 := hR.put (sA (sI R1 42 (nI m)) 14 f)
        refine b_X12_undo_26 hg (by omega) k00 XX _ _ _ ⟨fun q => absurd (le_nI (x := 49) (by omega) (by omega) q) (by omega), fun _ => ⟨_, r2.n40, _, r2.n41, _, r2.i42, ?_⟩⟩
        rw [show ri (sA (sI R1 42 (nI m)) 14 f) 42 = nI m from (ri_sI : ri (sI R1 42 (nI m)) 42 = nI m), show (49 : Int32) * nI m = nI (49 * m) from pk_mul 49 m, nI_add]
        refine ⟨_, r2.r15 (by omega), _, r2.u14 (by omega), ?_⟩
        rw [hR.pp, nI_s, sA_sA, ra_sA]
        refine ih (i + 1) _ (by omega) (fun k hk => ?_)
        by_cases e : k = i
        · subst e; rw [pk_us]; rfl
        · rw [pk_un e]; exact h1 k (by omega)
    have := lp 49 0 (ra (sI R1 42 (nI m)) 14) (by omega) (fun k hk => by omega)
    rw [sA_id] at this
    exact this
  · have y' : (sP s).1 = 0 := by rw [nI_z, nI_eq (by omega) (by omega)] at y; exact y
    exact prN s1 z1 (by rw [m_undo, if_pos y']) rfl
theorem RS.ref2 (q : RS s R) : RS (usO s (uoRs (sO s) (oRs (sO s) + 1))) (sA R 6 (upd (ra R 6) 2 (ra R 6 2 + 1))) := by
  refine ⟨q.tr, q.kn, q.tp, q.fp, ⟨?_, ?_, ?_⟩, q.le, q.pa, q.se, q.hi, q.im⟩
  · rw [ra_sA, pk_un (by decide)]; exact q.rf.1
  · rw [ra_sA, pk_un (by decide)]; exact q.rf.2.1
  · rw [ra_sA, pk_us, q.rf.2.2]; rfl
theorem r_see (hg : GOK g) (hd : 20 ≤ d) (hR : RA h B R) (hI : IV s) (hS : RS s R) (u v w : Int32) : CT g d yX12_see (wsC yX12_see cX12_see 4 (some .int)) [.ref B, .int u, .int v, .int w] h 0 0 (PrM h B cd2 s (m_see s u v w)) noT := by
  have o2 := hI.o2
  obtain ⟨⟨S1, S2⟩, S3⟩ := hI.se
  refine CT_ofB (by decide +kernel) (Nat.le_of_ble_eq_true rfl) rfl fun K XX => ?_
  have r1 := hR.put (sI R 0 0)
  have s1 := hS.s0 hI
  have z1 : ri (sI R 0 0) 0 = 0 := ri_sI
  refine b_X12_see_0 hg (by omega) k00 XX _ _ _ _ _ ⟨_, hR.w0 0, ?_⟩
  generalize sI R 0 0 = R1 at *
  refine ⟨_, r1.o, use_ck (d_isStretch (d := d - 1) hg (by omega) r1 z1 s1.n u) (by omega) k00 (fun c => ⟨fun _ => ?_, fun e => absurd e (by decide)⟩) (fun c => ⟨fun e => absurd rfl e, fun _ => ptM (b := true) hI s1 ((QF.refl R1).i rfl) ri_sI (by rw [m_see, c]; rfl) (hR.pp _ _)⟩)⟩
  have no : m_see s u v w = refG s → VB g K 4 d 0 0 (PrM h B cd2 s (m_see s u v w)) noT 0 0 44 [some (.ref B), none, none, none] [] (pR h B R1) := by
    intro e
    refine b_X12_see_44 hg (by omega) k00 XX _ _ ⟨_, r1.o, use_i (d_refuses (w := 2) (d := d - 1) hg (by omega) r1 (by omega)) (by omega) k00 ?_⟩
    exact prN s1.ref2 z1 e (hR.pp _ _)
  refine ⟨_, by rw [r1.i51, s1.se.1], fun y => no ?_, fun y => ?_⟩
  · have y' : (sS s).1 = 8 := (nI_eq (by omega) (by omega)).mp y
    rw [m_see, if_pos c, if_pos (by omega)]
  · have y' : ¬ 8 ≤ (sS s).1 := fun e => y (by rw [show (sS s).1 = 8 by omega]; rfl)
    refine use_i (d_within (d := d - 1) hg (by omega) v 0 20) (by omega) k00 ⟨fun q => no ?_, fun q => ?_⟩
    · rcases wnB_f (by simpa using gp_n rfl q) with e | e
      · rw [m_see, if_pos c, if_neg y', if_pos e]
      · by_cases e2 : v < 0
        · rw [m_see, if_pos c, if_neg y', if_pos e2]
        · rw [m_see, if_pos c, if_neg y', if_neg e2, if_pos e]
    · have c2 := wnB_t (gp_y rfl q)
      refine use_i (d_within (d := d - 1) hg (by omega) w 0 99) (by omega) k00 ⟨fun q => ?_, fun q => no ?_⟩
      · have c3 := wnB_t (gp_y rfl q)
        have em : m_see s u v w = .inl (nI ((sS s).1 + 1), usS s ((sS s).1 + 1, upd (sS s).2.1 (sS s).1 u, upd (sS s).2.2.1 (sS s).1 v, upd (sS s).2.2.2 (sS s).1 w)) := by
          rw [m_see, if_pos c, if_neg y', if_neg c2.1, if_neg c2.2, if_neg c3.1, if_neg c3.2]
        rw [em]
        generalize hm : (sS s).1 = m at *
        refine ⟨_, r1.n52, _, by rw [r1.i51, s1.se.1, hm], ?_⟩
        rw [show (3 : Int32) * nI m = nI (3 * m) from pk_mul 3 m]
        refine ⟨_, r1.u24 (by omega), ?_⟩
        rw [hR.pp]
        have r2 := hR.put (sA R1 24 (upd (ra R1 24) (3 * m) u))
        have e51 : ri (sA R1 24 (upd (ra R1 24) (3 * m) u)) 51 = nI m := by rw [show ri (sA R1 24 (upd (ra R1 24) (3 * m) u)) 51 = ri R1 51 from rfl, s1.se.1, hm]
        refine ⟨_, r2.n52, _, by rw [r2.i51, e51], ?_⟩
        rw [show (3 : Int32) * nI m = nI (3 * m) from pk_mul 3 m, nI_s]
        refine ⟨_, r2.u24 (by omega), ?_⟩
        rw [hR.pp, sA_sA, ra_sA]
        have r3 := hR.put (sA R1 24 (upd (upd (ra R1 24) (3 * m) u) (3 * m + 1) v))
        have e52 : ri (sA R1 24 (upd (upd (ra R1 24) (3 * m) u) (3 * m + 1) v)) 51 = nI m := e51
        refine ⟨_, r3.n52, _, by rw [r3.i51, e52], ?_⟩
        rw [show (3 : Int32) * nI m = nI (3 * m) from pk_mul 3 m, show (2 : Int32) = nI 2 from rfl, nI_add]
        refine ⟨_, r3.u24 (by omega), ?_⟩
        rw [hR.pp, sA_sA, ra_sA]
        have r4 := hR.put (sA R1 24 (upd (upd (upd (ra R1 24) (3 * m) u) (3 * m + 1) v) (3 * m + 2) w))
        have e53 : ri (sA R1 24 (upd (upd (upd (ra R1 24) (3 * m) u) (3 * m + 1) v) (3 * m + 2) w)) 51 = nI m := e51
        refine ⟨_, by rw [r4.i51, e53], _, r4.w51 _, ?_⟩
        rw [hR.pp, nI_s]
        have r5 := hR.put (sI (sA R1 24 (upd (upd (upd (ra R1 24) (3 * m) u) (3 * m + 1) v) (3 * m + 2) w)) 51 (nI (m + 1)))
        refine ⟨_, r5.i51, prN (R' := sI (sA R1 24 (upd (upd (upd (ra R1 24) (3 * m) u) (3 * m + 1) v) (3 * m + 2) w)) 51 (nI (m + 1))) ?_ z1 (by rw [ri_sI]) rfl⟩
        refine ⟨s1.tr, s1.kn, s1.tp, s1.fp, s1.rf, s1.le, s1.pa, ⟨rfl, ?_⟩, s1.hi, s1.im⟩
        intro i hi
        have hi' : i < m + 1 := hi
        show upd (upd (upd (ra R1 24) (3 * m) u) (3 * m + 1) v) (3 * m + 2) w (3 * i) = upd (sS s).2.1 m u i ∧ upd (upd (upd (ra R1 24) (3 * m) u) (3 * m + 1) v) (3 * m + 2) w (3 * i + 1) = upd (sS s).2.2.1 m v i ∧ upd (upd (upd (ra R1 24) (3 * m) u) (3 * m + 1) v) (3 * m + 2) w (3 * i + 2) = upd (sS s).2.2.2 m w i
        by_cases e : i = m
        · subst e
          rw [pk_un (show 3 * i ≠ 3 * i + 2 by omega), pk_un (show 3 * i ≠ 3 * i + 1 by omega), pk_us, pk_un (show 3 * i + 1 ≠ 3 * i + 2 by omega), pk_us, pk_us, pk_us, pk_us, pk_us]
          exact ⟨rfl, rfl, rfl⟩
        · have := s1.se.2 i (by omega)
          rw [pk_un (show 3 * i ≠ 3 * m + 2 by omega), pk_un (show 3 * i ≠ 3 * m + 1 by omega), pk_un (show 3 * i ≠ 3 * m by omega), pk_un (show 3 * i + 1 ≠ 3 * m + 2 by omega), pk_un (show 3 * i + 1 ≠ 3 * m + 1 by omega), pk_un (show 3 * i + 1 ≠ 3 * m by omega), pk_un (show 3 * i + 2 ≠ 3 * m + 2 by omega), pk_un (show 3 * i + 2 ≠ 3 * m + 1 by omega), pk_un (show 3 * i + 2 ≠ 3 * m by omega), pk_un e, pk_un e, pk_un e]
          exact this
      · have y2 := y'
        rcases wnB_f (by simpa using gp_n rfl q) with e | e
        · rw [m_see, if_pos c, if_neg y', if_neg c2.1, if_neg c2.2, if_pos e]
        · by_cases e2 : w < 0
          · rw [m_see, if_pos c, if_neg y', if_neg c2.1, if_neg c2.2, if_pos e2]
          · rw [m_see, if_pos c, if_neg y', if_neg c2.1, if_neg c2.2, if_neg e2, if_pos e]
/-- a method without an answer -/
def PvM (h : Hp) (B : Nat) (s' : CoreV) (v : Option Value) (h2 : Hp) : Prop := v = none ∧ ∃ R', h2 = pR h B R' ∧ RS s' R'
theorem r_forget (hg : GOK g) (hd : 20 ≤ d) (hR : RA h B R) (hI : IV s) (hS : RS s R) : CT g d yX12_forget (wsC yX12_forget cX12_forget 1 none) [.ref B] h 0 0 (PvM h B (m_forget s)) noT := by
  refine CT_ofB (by decide +kernel) (Nat.le_of_ble_eq_true rfl) rfl fun K XX => ?_
  have r1 := hR.put (sI R 0 0)
  have s1 := hS.s0 hI
  refine b_X12_forget_0 hg (by omega) k00 XX _ _ ⟨_, hR.w0 0, ?_⟩
  generalize sI R 0 0 = R1 at *
  refine ⟨_, r1.w51 0, rfl, sI R1 51 0, hR.pp _ _, ?_⟩
  exact ⟨s1.tr, s1.kn, s1.tp, s1.fp, s1.rf, s1.le, s1.pa, ⟨rfl, fun i hi => absurd hi (Nat.not_lt_zero _)⟩, s1.hi, s1.im⟩
theorem RA.len (q : RA h B R) {c n : Nat} (hc : c < 30) (e : rLs[c]? = some (0, n)) : lenA h (B + (c + 1)) = some (nI n) := by
  unfold lenA; rw [q.c hc e]; rfl
theorem d_copies {c1 c2 n : Nat} (hg : GOK g) (hd : 8 ≤ d) (hR : RA h B R) (h1 : c1 < 30) (e1 : rLs[c1]? = some (0, n)) (h2 : c2 < 30) (e2 : rLs[c2]? = some (0, n)) (hne : c1 ≠ c2) (hn : n < 2 ^ 30) : CT g d yX12_copies (wsC yX12_copies cX12_copies 4 none) [.ref B, .ref (B + (c1 + 1)), .ref (B + (c2 + 1))] h 0 0 (fun v h2 => v = none ∧ ∃ f, h2 = pR h B (sA R (c2 + 1) f) ∧ ∀ k, k < n → f k = ra R (c1 + 1) k) noT := by
  refine CT_ofB (by decide +kernel) (Nat.le_of_ble_eq_true rfl) rfl fun K XX => ?_
  refine b_X12_copies_0 hg (by omega) k00 XX _ _ _ _ ?_
  have lp : ∀ (j i : Nat) (f : AF), i + j = n → (∀ k, k < i → f k = ra R (c1 + 1) k) → VB g K 4 d 0 0 (fun v h2 => v = none ∧ ∃ f, h2 = pR h B (sA R (c2 + 1) f) ∧ ∀ k, k < n → f k = ra R (c1 + 1) k) noT 0 0 2 [none, some (.ref (B + (c1 + 1))), some (.ref (B + (c2 + 1))), some (.int (nI i))] [] (pR h B (sA R (c2 + 1) f)) := by
    intro j
    induction j with
    | zero =>
      intro i f hi hf
      have r1 := hR.put (sA R (c2 + 1) f)
      exact b_X12_copies_2 hg (by omega) k00 XX _ _ _ _ ⟨_, r1.len h1 e1, fun _ => ⟨rfl, f, rfl, fun k hk => hf k (by omega)⟩, fun q => absurd (nle_nI (by omega) (by omega) q) (by omega)⟩
    | succ j ih =>
      intro i f hi hf
      have r1 := hR.put (sA R (c2 + 1) f)
      refine b_X12_copies_2 hg (by omega) k00 XX _ _ _ _ ⟨_, r1.len h1 e1, fun q => absurd (le_nI (by omega) (by omega) q) (by omega), fun _ => ⟨_, r1.ra_ h1 e1 (k := i) (by omega) (by omega), _, r1.wa h2 e2 (k := i) (by omega) (by omega), ?_⟩⟩
      rw [hR.pp, nI_s, sA_sA, ra_sA, ra_sAn (show c1 + 1 ≠ c2 + 1 by omega)]
      refine ih (i + 1) _ (by omega) (fun k hk => ?_)
      by_cases e : k = i
      · subst e; rw [pk_us]; rfl
      · rw [pk_un e]; exact hf k (by omega)
  have := lp n 0 (ra R (c2 + 1)) (by omega) (fun k hk => by omega)
  rw [sA_id, hR.id] at this
  exact this
theorem PaR.cg {n w : Nat} {P : PastV} {f f' : AF} (hn : n ≤ 12) (hw : w ≤ 6) (hP : P.1 ≤ 40) (q : PaR n w P f) (e : ∀ k, k < 1960 → f' k = f k) : PaR n w P f' := fun i hi => (ld_congr hn hw (fun j hj => e (49 * i + j) (by omega))).trans (q i hi)
theorem SeR.cg {S : SeenV} {f f' : AF} (hS : S.1 ≤ 8) (q : SeR S f) (e : ∀ k, k < 24 → f' k = f k) : SeR S f' := fun i hi => by
  rw [e _ (by omega), e _ (by omega), e _ (by omega)]; exact q i hi
theorem r_image (hg : GOK g) (hd : 20 ≤ d) (hR : RA h B R) (hI : IV s) (hS : RS s R) : CT g d yX12_image (wsC yX12_image cX12_image 2 none) [.ref B] h 0 0 (PvM h B (m_image s)) noT := by
  have o2 := hI.o2
  have o3 := hI.o3
  refine CT_ofB (by decide +kernel) (Nat.le_of_ble_eq_true rfl) rfl fun K XX => ?_
  have r1 := hR.put (sI R 0 0)
  have s1 := hS.s0 hI
  refine b_X12_image_0 hg (by omega) k00 XX _ _ ⟨_, hR.w0 0, ?_⟩
  generalize sI R 0 0 = R1 at *
  have r2 := hR.put (sI R1 57 1)
  have r3 := hR.put (sI (sI R1 57 1) 58 (ri R1 42))
  have r4 := hR.put (sI (sI (sI R1 57 1) 58 (ri R1 42)) 59 (ri R1 51))
  have w2 := r1.w57 1
  have w3 := r2.w58 (ri R1 42)
  have w4 := r3.w59 (ri R1 51)
  rw [hR.pp] at w2 w3 w4
  refine ⟨Or.inr rfl, _, w2, _, r2.i42, _, w3, _, r3.i51, _, w4, ?_⟩
  generalize hR4 : sI (sI (sI R1 57 1) 58 (ri R1 42)) 59 (ri R1 51) = R4 at *
  have lp : ∀ (j i : Nat) (f : AF), i + j = 49 → (∀ k, k < i → f k = ra R4 14 k) → VB g K 2 d 0 0 (PvM h B (m_image s)) noT 0 0 28 [some (.ref B), some (.int (nI i))] [] (pR h B (sA R4 28 f)) := by
    intro j
    induction j with
    | zero =>
      intro i f hi hf
      have r5 := hR.put (sA R4 28 f)
      refine b_X12_image_28 hg (by omega) k00 XX _ _ _ ⟨fun _ => ⟨_, r5.n41, _, r5.n61, _, r5.o, use_v (d_copies (c1 := 14) (c2 := 28) (n := 1960) (d := d - 1) hg (by omega) r5 (by decide) rfl (by decide) rfl (by decide) (by decide)) (by omega) k00 ?_⟩, fun q => absurd (nle_nI (x := 49) (by omega) (by omega) q) (by omega)⟩
      rintro h6 ⟨f6, e6, q6⟩
      rw [e6, hR.pp]
      have r6 := hR.put (sA (sA R4 28 f) 29 f6)
      refine ⟨_, r6.n52, _, r6.n62, _, r6.o, use_v (d_copies (c1 := 23) (c2 := 29) (n := 24) (d := d - 1) hg (by omega) r6 (by decide) rfl (by decide) rfl (by decide) (by decide)) (by omega) k00 ?_⟩
      rintro h7 ⟨f7, e7, q7⟩
      rw [e7, hR.pp]
      refine ⟨rfl, sA (sA (sA R4 28 f) 29 f6) 30 f7, rfl, ?_⟩
      subst hR4
      refine ⟨s1.tr, s1.kn, s1.tp, s1.fp, s1.rf, s1.le, s1.pa, s1.se, rfl, fun _ => ⟨?_, ?_, ?_, ?_, ?_⟩⟩
      · refine LE.trans (M := ldR (ra R1 14) 0) (ld_congr o2 o3 (fun j hj => ?_)) (s1.le.trans (LE.cpy _ _ _ _).symm)
        rw [Nat.zero_add]; exact hf j (by omega)
      · exact s1.pa.1
      · exact s1.pa.2.cg o2 o3 hI.pa.1.1 q6
      · exact s1.se.1
      · exact s1.se.2.cg hI.se.1.1 q7
    | succ j ih =>
      intro i f hi hf
      have r5 := hR.put (sA R4 28 f)
      refine b_X12_image_28 hg (by omega) k00 XX _ _ _ ⟨fun q => absurd (le_nI (x := 49) (by omega) (by omega) q) (by omega), fun _ => ⟨_, r5.n60, _, r5.n40, _, r5.r14 (by omega), _, r5.u28 (by omega), ?_⟩⟩
      rw [hR.pp, nI_s, sA_sA, ra_sA]
      refine ih (i + 1) _ (by omega) (fun k hk => ?_)
      by_cases e : k = i
      · subst e; rw [pk_us]; rfl
      · rw [pk_un e]; exact hf k (by omega)
  have := lp 49 0 (ra R4 28) (by omega) (fun k hk => by omega)
  rw [sA_id] at this
  exact this
theorem r_restore (hg : GOK g) (hd : 20 ≤ d) (hR : RA h B R) (hI : IV s) (hS : RS s R) : CT g d yX12_restore (wsC yX12_restore cX12_restore 2 (some .boolean)) [.ref B] h 0 0 (PrM h B cd2 s (m_restore s)) noT := by
  have o2 := hI.o2
  have o3 := hI.o3
  refine CT_ofB (by decide +kernel) (Nat.le_of_ble_eq_true rfl) rfl fun K XX => ?_
  have r1 := hR.put (sI R 0 0)
  have s1 := hS.s0 hI
  have z1 : ri (sI R 0 0) 0 = 0 := ri_sI
  refine b_X12_restore_0 hg (by omega) k00 XX _ _ ⟨_, hR.w0 0, ?_⟩
  generalize sI R 0 0 = R1 at *
  refine ⟨_, by rw [r1.i57, s1.hi], fun y => ?_, fun y => ⟨Or.inl rfl, prN s1 z1 (by rw [m_restore, if_pos y]) rfl⟩⟩
  have em : m_restore s = .inl (1, rstS s) := by rw [m_restore, if_neg y]
  rw [em]
  have hi1 : oHi (sO s) = 1 ∧ LOK (sN s) (sW s) (sL2 s) ∧ PaOK (sN s) (sW s) (sP2 s) ∧ SeA (sN s) (sS2 s) := hI.im.resolve_left y
  have im := s1.im hi1.1
  obtain ⟨i1, i2, i3, i4, i5⟩ := id im
  have r2 := hR.put (sI R1 42 (ri R1 58))
  have r3 := hR.put (sI (sI R1 42 (ri R1 58)) 51 (ri R1 59))
  have w2 := r1.w42 (ri R1 58)
  have w3 := r2.w51 (ri R1 59)
  rw [hR.pp] at w2 w3
  refine ⟨_, r1.i58, _, w2, _, r2.i59, _, w3, ?_⟩
  generalize hR4 : sI (sI R1 42 (ri R1 58)) 51 (ri R1 59) = R4 at *
  have lp : ∀ (j i : Nat) (f : AF), i + j = 49 → (∀ k, k < i → f k = ra R4 28 k) → VB g K 2 d 0 0 (PrM h B cd2 s (.inl (1, rstS s))) noT 0 0 32 [some (.ref B), some (.int (nI i))] [] (pR h B (sA R4 14 f)) := by
    intro j
    induction j with
    | zero =>
      intro i f hi hf
      have r5 := hR.put (sA R4 14 f)
      refine b_X12_restore_32 hg (by omega) k00 XX _ _ _ ⟨fun _ => ⟨_, r5.n61, _, r5.n41, _, r5.o, use_v (d_copies (c1 := 28) (c2 := 14) (n := 1960) (d := d - 1) hg (by omega) r5 (by decide) rfl (by decide) rfl (by decide) (by decide)) (by omega) k00 ?_⟩, fun q => absurd (nle_nI (x := 49) (by omega) (by omega) q) (by omega)⟩
      rintro h6 ⟨f6, e6, q6⟩
      rw [e6, hR.pp]
      have r6 := hR.put (sA (sA R4 14 f) 15 f6)
      refine ⟨_, r6.n62, _, r6.n52, _, r6.o, use_v (d_copies (c1 := 29) (c2 := 23) (n := 24) (d := d - 1) hg (by omega) r6 (by decide) rfl (by decide) rfl (by decide) (by decide)) (by omega) k00 ?_⟩
      rintro h7 ⟨f7, e7, q7⟩
      rw [e7, hR.pp]
      refine ⟨Or.inr rfl, ?_⟩
      subst hR4
      refine prN (R' := sA (sA (sA (sI (sI R1 42 (ri R1 58)) 51 (ri R1 59)) 14 f) 15 f6) 24 f7) ?_ z1 rfl rfl
      refine ⟨s1.tr, s1.kn, s1.tp, s1.fp, s1.rf, ?_, ⟨i2, i3.cg o2 o3 hi1.2.2.1.1.1 q6⟩, ⟨i4, i5.cg hi1.2.2.2.1.1 q7⟩, s1.hi, fun _ => im⟩
      refine LE.trans (M := ldR (ra R1 28) 0) (ld_congr o2 o3 (fun j hj => ?_)) (i1.trans (LE.cpy _ _ _ _).symm)
      rw [Nat.zero_add]; exact hf j (by omega)
    | succ j ih =>
      intro i f hi hf
      have r5 := hR.put (sA R4 14 f)
      refine b_X12_restore_32 hg (by omega) k00 XX _ _ _ ⟨fun q => absurd (le_nI (x := 49) (by omega) (by omega) q) (by omega), fun _ => ⟨_, r5.n40, _, r5.n60, _, r5.r28 (by omega), _, r5.u14 (by omega), ?_⟩⟩
      rw [hR.pp, nI_s, sA_sA, ra_sA]
      refine ih (i + 1) _ (by omega) (fun k hk => ?_)
      by_cases e : k = i
      · subst e; rw [pk_us]; rfl
      · rw [pk_un e]; exact hf k (by omega)
  have := lp 49 0 (ra R4 14) (by omega) (fun k hk => by omega)
  rw [sA_id] at this
  exact this
end RP
