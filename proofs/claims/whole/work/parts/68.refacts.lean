/-! THE REFERENCE'S public methods: acts -/
theorem sA_sA (R : RefV) (c : Nat) (f f' : AF) : sA (sA R c f) c f' = sA R c f' := by
  unfold sA
  refine Prod.ext rfl (Prod.ext rfl (funext fun j => ?_))
  show updA (updA R.2.2 c f) c f' j = updA R.2.2 c f' j
  unfold updA
  by_cases e : j = c
  · rw [if_pos e, if_pos e]
  · rw [if_neg e, if_neg e, if_neg e]
theorem sA_id (R : RefV) (c : Nat) : sA R c (ra R c) = R := by
  unfold sA
  refine Prod.ext rfl (Prod.ext rfl (funext fun j => ?_))
  show updA R.2.2 c (R.2.2 c) j = R.2.2 j
  unfold updA
  by_cases e : j = c
  · rw [if_pos e, e]
  · rw [if_neg e]
theorem cpO {f f1 : AF} {dp n N j : Nat} (h0 : dp ≠ 0) (hj : j < dp ∨ dp + n ≤ j) : cpyF f f1 0 dp n N j = f1 j := by
  unfold cpyF
  rw [if_neg (fun e => h0 e.2.1)]
  exact pk_cpy_out hj
theorem cpI {f f1 : AF} {dp n N j : Nat} (h0 : dp ≠ 0) (h1 : dp ≤ j) (h2 : j < dp + n) : cpyF f f1 0 dp n N j = f (j - dp) := by
  unfold cpyF
  rw [if_neg (fun e => h0 e.2.1), pk_cpy_in h1 h2, Nat.zero_add]
theorem wrP_out {st : AF} {p : Nat} {L : LandV} {i : Nat} (h : i < p ∨ p + 49 ≤ i) : wrP st p L i = st i := by
  unfold wrP
  rw [cpO (by omega) (by omega), cpO (by omega) (by omega), cpO (by omega) (by omega), cpO (by omega) (by omega), cpO (by omega) (by omega), pk_un (by omega)]
theorem wrP_in {st : AF} {p n w : Nat} {L : LandV} (hn : n ≤ 12) (hw : w ≤ 6) : LE n w (ldR (wrP st p L) p) L := by
  refine ⟨?_, fun k hk => ⟨?_, ?_, ?_⟩, fun k hk => ⟨?_, ?_⟩⟩
  · show wrP st p L p = _
    unfold wrP
    rw [cpO (by omega) (by omega), cpO (by omega) (by omega), cpO (by omega) (by omega), cpO (by omega) (by omega), cpO (by omega) (by omega), pk_us]
  · show wrP st p L (p + 1 + k) = _
    unfold wrP
    rw [cpO (by omega) (by omega), cpO (by omega) (by omega), cpO (by omega) (by omega), cpO (by omega) (by omega), cpI (by omega) (by omega) (by omega), show p + 1 + k - (p + 1) = k by omega]
  · show wrP st p L (p + 13 + k) = _
    unfold wrP
    rw [cpO (by omega) (by omega), cpO (by omega) (by omega), cpO (by omega) (by omega), cpI (by omega) (by omega) (by omega), show p + 13 + k - (p + 13) = k by omega]
  · show wrP st p L (p + 25 + k) = _
    unfold wrP
    rw [cpO (by omega) (by omega), cpO (by omega) (by omega), cpI (by omega) (by omega) (by omega), show p + 25 + k - (p + 25) = k by omega]
  · show wrP st p L (p + 37 + k) = _
    unfold wrP
    rw [cpO (by omega) (by omega), cpI (by omega) (by omega) (by omega), show p + 37 + k - (p + 37) = k by omega]
  · show wrP st p L (p + 43 + k) = _
    unfold wrP
    rw [cpI (by omega) (by omega) (by omega), show p + 43 + k - (p + 43) = k by omega]
theorem ld_congr {f f' : AF} {b b' n w : Nat} (hn : n ≤ 12) (hw : w ≤ 6) (e : ∀ i, i < 49 → f (b + i) = f' (b' + i)) : LE n w (ldR f b) (ldR f' b') := by
  refine ⟨e 0 (by omega), fun k hk => ⟨?_, ?_, ?_⟩, fun k hk => ⟨?_, ?_⟩⟩
  · show f (b + 1 + k) = f' (b' + 1 + k); rw [Nat.add_assoc, Nat.add_assoc]; exact e (1 + k) (by omega)
  · show f (b + 13 + k) = f' (b' + 13 + k); rw [Nat.add_assoc, Nat.add_assoc]; exact e (13 + k) (by omega)
  · show f (b + 25 + k) = f' (b' + 25 + k); rw [Nat.add_assoc, Nat.add_assoc]; exact e (25 + k) (by omega)
  · show f (b + 37 + k) = f' (b' + 37 + k); rw [Nat.add_assoc, Nat.add_assoc]; exact e (37 + k) (by omega)
  · show f (b + 43 + k) = f' (b' + 43 + k); rw [Nat.add_assoc, Nat.add_assoc]; exact e (43 + k) (by omega)
section RA2
variable {g : GG} {h h2 : Hp} {B b d D k kc ks mc ms : Nat} {T : ToldV} {X Y : LandV} {R0 R R' : RefV} {s s' : CoreV} {a : Int32}
theorem RS.upL (q : RS s R) (x : TX (sT s) 0 Y R R') : RS (usL s Y) R' := by
  obtain ⟨e1, _, e2⟩ := x.df
  have ea : ∀ c, cA c = true → ra R' c = ra R c := fun c hc => by
    refine e2 c ?_ ?_ ?_ ?_ <;> (intro z; rw [z] at hc; exact absurd hc (by decide))
  refine ⟨x.tr, ?_, ?_, ?_, ?_, x.rw_.1, ?_, ?_, ?_, ?_⟩
  · unfold KnR; rw [e1, ea 2 rfl, ea 3 rfl]; exact q.kn
  · rw [e1, ea 5 rfl]; exact q.tp
  · rw [e1]; exact q.fp
  · rw [ea 6 rfl]; exact q.rf
  · rw [e1, ea 15 rfl]; exact q.pa
  · rw [e1, ea 24 rfl]; exact q.se
  · rw [e1]; exact q.hi
  · intro z
    have := q.im z
    unfold ImR
    rw [e1, ea 28 rfl, ea 29 rfl, ea 30 rfl]
    exact this
theorem RS.ref1 (q : RS s R) : RS (refS s) (sA R 6 (upd (ra R 6) 1 (ra R 6 1 + 1))) := by
  refine ⟨q.tr, q.kn, q.tp, q.fp, ⟨?_, ?_, ?_⟩, q.le, q.pa, q.se, q.hi, q.im⟩
  · rw [ra_sA, pk_un (by decide)]; exact q.rf.1
  · rw [ra_sA, pk_us, q.rf.2.1]; rfl
  · rw [ra_sA, pk_un (by decide)]; exact q.rf.2.2
theorem d_refuses {w : Nat} (hg : GOK g) (hd : 8 ≤ d) (hR : RA h B R) (hw : w < 3) : CT g d yX12_refuses (wsC yX12_refuses cX12_refuses 2 (some .int)) [.ref B, .int (nI w)] h 0 0 (fun v h2 => v = some (.int (-1)) ∧ h2 = pR h B (sA R 6 (upd (ra R 6) w (ra R 6 w + 1)))) noT := by
  refine CT_ofB (by decide +kernel) (Nat.le_of_ble_eq_true rfl) rfl fun K XX => ?_
  exact b_X12_refuses_0 hg (by omega) k00 XX _ _ _ ⟨_, hR.n15, _, hR.r6 hw, _, hR.u6 hw, rfl, rfl⟩
/-- an act is kept -/
theorem PaR.keep {n w : Nat} {P : PastV} {f f' rows : AF} {L : LandV} (hn : n ≤ 12) (hw : w ≤ 6) (hP : PG P) (q : PaR n w P f) (hL : LE n w (ldR rows 0) L) (hf : ∀ i, i < 49 * (if 40 ≤ P.1 then 39 else P.1) → f' i = f (if 40 ≤ P.1 then i + 49 else i)) (hr : ∀ i, i < 49 → f' (49 * (if 40 ≤ P.1 then 39 else P.1) + i) = rows i) : PaR n w (keepP P L) f' := by
  obtain ⟨p1, p2⟩ := hP
  have sl : (P.2.1 + P.1) % 40 < 40 := Nat.mod_lt _ (by omega)
  by_cases e : 40 ≤ P.1
  · simp only [if_pos e] at hf hr
    have ep : P.1 = 40 := by omega
    have so : (P.2.1 + P.1) % 40 = P.2.1 := by omega
    have ek : keepP P L = (P.1, (P.2.1 + 1) % 40, wrP P.2.2 ((P.2.1 + P.1) % 40 * 49) L) := by rw [keepP]; simp only [if_pos e]
    rw [ek]
    intro i hi
    have hi' : i < 40 := by have : i < P.1 := hi; omega
    show LE n w (ldR f' (49 * i)) (ldR (wrP P.2.2 ((P.2.1 + P.1) % 40 * 49) L) (((P.2.1 + 1) % 40 + i) % 40 * 49))
    by_cases e2 : i < 39
    · have h1 : LE n w (ldR f' (49 * i)) (ldR f (49 * (i + 1))) := ld_congr hn hw (fun j hj => by rw [hf _ (by omega)]; congr 1; omega)
      have h2 := q (i + 1) (by omega)
      have h3 : LE n w (ldR P.2.2 ((P.2.1 + (i + 1)) % 40 * 49)) (ldR (wrP P.2.2 ((P.2.1 + P.1) % 40 * 49) L) (((P.2.1 + 1) % 40 + i) % 40 * 49)) := by
        have es : ((P.2.1 + 1) % 40 + i) % 40 = (P.2.1 + (i + 1)) % 40 := by omega
        rw [es]
        refine ld_congr hn hw (fun j hj => (wrP_out ?_).symm)
        omega
      exact (h1.trans h2).trans h3
    · have ei : i = 39 := by omega
      subst ei
      have es : ((P.2.1 + 1) % 40 + 39) % 40 = (P.2.1 + P.1) % 40 := by omega
      rw [es]
      have h1 : LE n w (ldR f' (49 * 39)) (ldR rows 0) := ld_congr hn hw (fun j hj => by rw [hr j hj, Nat.zero_add])
      exact (h1.trans hL).trans (wrP_in hn hw).symm
  · simp only [if_neg e] at hf hr
    have ek : keepP P L = (P.1 + 1, P.2.1, wrP P.2.2 ((P.2.1 + P.1) % 40 * 49) L) := by rw [keepP]; simp only [if_neg e]
    rw [ek]
    intro i hi
    have hi' : i < P.1 + 1 := hi
    show LE n w (ldR f' (49 * i)) (ldR (wrP P.2.2 ((P.2.1 + P.1) % 40 * 49) L) ((P.2.1 + i) % 40 * 49))
    by_cases e2 : i < P.1
    · have h1 : LE n w (ldR f' (49 * i)) (ldR f (49 * i)) := ld_congr hn hw (fun j hj => hf _ (by omega))
      have h3 : LE n w (ldR P.2.2 ((P.2.1 + i) % 40 * 49)) (ldR (wrP P.2.2 ((P.2.1 + P.1) % 40 * 49) L) ((P.2.1 + i) % 40 * 49)) := by
        refine ld_congr hn hw (fun j hj => (wrP_out ?_).symm)
        omega
      exact (h1.trans (q i e2)).trans h3
    · have ei : i = P.1 := by omega
      subst ei
      have h1 : LE n w (ldR f' (49 * P.1)) (ldR rows 0) := ld_congr hn hw (fun j hj => by rw [hr j hj, Nat.zero_add])
      exact (h1.trans hL).trans (wrP_in hn hw).symm
theorem keepP_1 (P : PastV) (L : LandV) : (keepP P L).1 = (if 40 ≤ P.1 then 39 else P.1) + 1 ∨ P.1 > 40 := by
  by_cases e : 40 ≤ P.1
  · by_cases e2 : P.1 = 40
    · left; rw [keepP]; simp only [if_pos e]; exact e2
    · right; omega
  · left; rw [keepP]; simp only [if_neg e]
theorem c_keeps (hg : GOK g) (hd : 8 ≤ d) (hR : RA h B R) (hI : IV s) (hS : RS s R) : CT g d yX12_keeps (wsC yX12_keeps cX12_keeps 2 none) [.ref B] h 0 0 (fun v h2 => v = none ∧ ∃ R', h2 = pR h B R' ∧ (RS (keepS s) R' ∧ ri R' 0 = ri R 0)) noT := by
  have hn := hI.o2
  have hw := hI.o3
  have hP := hI.pa.1
  obtain ⟨p1, p2⟩ := id hP
  refine CT_ofB (by decide +kernel) (Nat.le_of_ble_eq_true rfl) rfl fun K XX => ?_
  -- the rows come behind the acts
  have two : ∀ (a : Nat) (R1 : RefV), a < 40 → ri R1 42 = nI a → a = (if 40 ≤ (sP s).1 then 39 else (sP s).1) → (∃ f1, R1 = sI (sA R 15 f1) 42 (nI a) ∧ ∀ i, i < 49 * a → f1 i = ra R 15 (if 40 ≤ (sP s).1 then i + 49 else i)) → VB g K 2 d 0 0 (fun v h2 => v = none ∧ ∃ R', h2 = pR h B R' ∧ (RS (keepS s) R' ∧ ri R' 0 = ri R 0)) noT 0 0 50 [some (.ref B), none] [] (pR h B R1) := by
    rintro a R1 ha h42 ea ⟨f1, e1, hf1⟩
    refine b_X12_keeps_50 hg (by omega) k00 XX _ _ ?_
    have lp : ∀ (j i : Nat) (f : AF), i + j = 49 → (∀ k, k < 49 * a → f k = f1 k) → (∀ k, k < i → f (49 * a + k) = ra R 14 k) → VB g K 2 d 0 0 (fun v h2 => v = none ∧ ∃ R', h2 = pR h B R' ∧ (RS (keepS s) R' ∧ ri R' 0 = ri R 0)) noT 0 0 52 [some (.ref B), some (.int (nI i))] [] (pR h B (sI (sA R 15 f) 42 (nI a))) := by
      intro j
      induction j with
      | zero =>
        intro i f hi h1 h2
        have r1 := hR.put (sI (sA R 15 f) 42 (nI a))
        refine b_X12_keeps_52 hg (by omega) k00 XX _ _ _ ⟨fun _ => ⟨_, r1.i42, ?_⟩, fun q => absurd (nle_nI (x := 49) (by omega) (by omega) q) (by omega)⟩
        rw [ri_sI, nI_s]
        refine ⟨_, r1.w42 _, rfl, sI (sI (sA R 15 f) 42 (nI a)) 42 (nI (a + 1)), by rw [hR.pp], ?_, rfl⟩
        have e42 : nI (a + 1) = nI (keepP (sP s) (sL s)).1 := by
          rcases keepP_1 (sP s) (sL s) with e | e
          · rw [e, ea]
          · omega
        refine ⟨hS.tr, hS.kn, hS.tp, hS.fp, hS.rf, hS.le, ⟨?_, ?_⟩, hS.se, hS.hi, hS.im⟩
        · rw [ri_sI]; exact e42
        · refine PaR.keep (f := ra R 15) (rows := ra R 14) hn hw hP hS.pa.2 hS.le (fun i hi => ?_) (fun i hi => ?_)
          · rw [← ea] at hi
            show f i = _
            rw [h1 i hi, hf1 i hi]
          · rw [← ea]
            show f (49 * a + i) = _
            exact h2 i (by omega)
      | succ j ih =>
        intro i f hi h1 h2
        have r1 := hR.put (sI (sA R 15 f) 42 (nI a))
        refine b_X12_keeps_52 hg (by omega) k00 XX _ _ _ ⟨fun q => absurd (le_nI (x := 49) (by omega) (by omega) q) (by omega), fun _ => ⟨_, r1.n41, _, r1.i42, _, r1.n40, _, r1.r14 (by omega), ?_⟩⟩
        rw [ri_sI, show (49 : Int32) * nI a = nI (49 * a) from pk_mul 49 a, nI_add]
        refine ⟨_, r1.u15 (by omega), ?_⟩
        rw [hR.pp, nI_s]
        have e3 : sA (sI (sA R 15 f) 42 (nI a)) 15 (upd (ra (sI (sA R 15 f) 42 (nI a)) 15) (49 * a + i) (ra (sI (sA R 15 f) 42 (nI a)) 14 i)) = sI (sA R 15 (upd f (49 * a + i) (ra R 14 i))) 42 (nI a) := by
          have := sA_sA R 15 f (upd f (49 * a + i) (ra R 14 i))
          exact congrArg (fun R2 => sI R2 42 (nI a)) this
        rw [e3]
        refine ih (i + 1) _ (by omega) (fun k hk => by rw [pk_un (by omega)]; exact h1 k hk) (fun k hk => ?_)
        by_cases e : k = i
        · subst e; rw [pk_us]
        · rw [pk_un (by omega)]; exact h2 k (by omega)
    rw [e1]
    exact lp 49 0 f1 (by omega) (fun _ _ => rfl) (fun k hk => by omega)
  refine b_X12_keeps_0 hg (by omega) k00 XX _ _ ⟨_, hR.i42, fun q => ?_, fun q => ?_⟩
  · rw [hS.pa.1] at q
    have e : ¬ 40 ≤ (sP s).1 := fun z => q (by rw [show (sP s).1 = 40 by omega]; rfl)
    have := two (sP s).1 R (by omega) hS.pa.1 (by rw [if_neg e]) ⟨ra R 15, ?_, fun i _ => by rw [if_neg e]⟩
    · rw [hR.id] at this; exact this
    · rw [sA_id, ← hS.pa.1]
      unfold sI
      refine Prod.ext (funext fun j => ?_) rfl
      show R.1 j = upd R.1 42 (R.1 42) j
      by_cases e : j = 42
      · rw [e, pk_us]
      · rw [pk_un e]
  · rw [hS.pa.1] at q
    have e : (sP s).1 = 40 := (nI_eq (by omega) (by omega)).mp q
    -- all go one ahead
    have lp : ∀ (j i : Nat) (f : AF), i + j = 1960 → 49 ≤ i → (∀ k, k + 49 < i → f k = ra R 15 (k + 49)) → (∀ k, i ≤ k + 49 → f k = ra R 15 k) → VB g K 2 d 0 0 (fun v h2 => v = none ∧ ∃ R', h2 = pR h B R' ∧ (RS (keepS s) R' ∧ ri R' 0 = ri R 0)) noT 0 0 12 [some (.ref B), some (.int (nI i))] [] (pR h B (sA R 15 f)) := by
      intro j
      induction j with
      | zero =>
        intro i f hi h49 h1 h2
        have r1 := hR.put (sA R 15 f)
        refine b_X12_keeps_12 hg (by omega) k00 XX _ _ _ ⟨fun _ => ⟨_, r1.i42, ?_⟩, fun q => absurd (nle_nI (x := 1960) (by omega) (by omega) q) (by omega)⟩
        rw [show ri (sA R 15 f) 42 = nI 40 from by rw [show ri (sA R 15 f) 42 = ri R 42 from rfl, hS.pa.1, e], show nI 40 - 1 = nI 39 from by decide]
        refine ⟨_, r1.w42 _, ?_⟩
        rw [hR.pp]
        refine two 39 _ (by omega) ri_sI (by rw [if_pos (by omega)]) ⟨f, rfl, fun i hi => ?_⟩
        rw [if_pos (by omega)]; exact h1 i (by omega)
      | succ j ih =>
        intro i f hi h49 h1 h2
        have r1 := hR.put (sA R 15 f)
        refine b_X12_keeps_12 hg (by omega) k00 XX _ _ _ ⟨fun q => absurd (le_nI (x := 1960) (by omega) (by omega) q) (by omega), fun _ => ⟨_, r1.n41, _, r1.n41, _, r1.r15 (by omega), ?_⟩⟩
        rw [show nI i - (49 : Int32) = nI (i - 49) from pk_sub (b := 49) h49]
        refine ⟨_, r1.u15 (by omega), ?_⟩
        rw [hR.pp, nI_s, sA_sA, ra_sA]
        refine ih (i + 1) _ (by omega) (by omega) (fun k hk => ?_) (fun k hk => ?_)
        · by_cases e2 : k = i - 49
          · subst e2; rw [pk_us, h2 i (by omega)]; congr 1; omega
          · rw [pk_un e2]; exact h1 k (by omega)
        · rw [pk_un (by omega)]; exact h2 k (by omega)
    have := lp 1911 49 (ra R 15) (by omega) (by omega) (fun k hk => by omega) (fun _ _ => rfl)
    rw [sA_id, hR.id] at this
    exact this
theorem q_keeps {Pt : String → Hp → Prop} {Z : Nat → Nat → Hp → Prop} (hg : GOK g) (hR : RA h B R) (hI : IV s) (hS : RS s R) (hd : 9 ≤ D) (hk : kc ≤ mc ∧ ks ≤ ms) (hz : ∀ R', RS (keepS s) R' ∧ ri R' 0 = ri R 0 → Z 0 0 (pR h B R')) :
    ∃ d1 P1 E1 m1 n1, CT g d1 yX12_keeps (wsC yX12_keeps cX12_keeps 2 none) [.ref B] h m1 n1 P1 E1 ∧ (d1 + 1 ≤ D ∧ kc + m1 ≤ mc ∧ ks + n1 ≤ ms) ∧ (∀ E h', E1 E h' → Pt E h') ∧ (∀ v h1, P1 v h1 → v = none ∧ Z m1 n1 h1) :=
  use_vR (c_keeps (d := D - 1) hg (by omega) hR hI hS) (by omega) hk hz
theorem RS.ktx (hI : IV s) (q : RS (keepS s) R) : TX (sT s) 0 (sL s) R R := ⟨hI.tg.1, by omega, q.tr, DF.refl R, q.le, fun _ _ => rfl⟩
theorem RS.kup (q : RS (keepS s) R) (x : TX (sT s) 0 Y R R') : RS (actS s Y) R' := RS.upL q x
theorem c_ref1 (hg : GOK g) (hd : 8 ≤ d) (hR : RA h B R) (hS : RS s R) : CT g d yX12_refuses (wsC yX12_refuses cX12_refuses 2 (some .int)) [.ref B, .int 1] h 0 0 (fun v h2 => v = some (.int (-1)) ∧ ∃ R', h2 = pR h B R' ∧ (RS (refS s) R' ∧ ri R' 0 = ri R 0)) noT :=
  (d_refuses (w := 1) hg hd hR (by omega)).mono (fun v h2 q => ⟨q.1, _, q.2, hS.ref1, rfl⟩) (fun _ _ q => q)
theorem q_ref {Pt : String → Hp → Prop} {Z : Nat → Nat → Int32 → Hp → Prop} (hg : GOK g) (hR : RA h B R) (hS : RS s R) (hd : 9 ≤ D) (hk : kc ≤ mc ∧ ks ≤ ms) (hz : ∀ R', RS (refS s) R' ∧ ri R' 0 = ri R 0 → Z 0 0 (-1) (pR h B R')) :
    ∃ d1 P1 E1 m1 n1, CT g d1 yX12_refuses (wsC yX12_refuses cX12_refuses 2 (some .int)) [.ref B, .int 1] h m1 n1 P1 E1 ∧ (d1 + 1 ≤ D ∧ kc + m1 ≤ mc ∧ ks + n1 ≤ ms) ∧ (∀ E h', E1 E h' → Pt E h') ∧ (∀ v h1, P1 v h1 → ∃ x, v = some (.int x) ∧ Z m1 n1 x h1) :=
  use_iR (c_ref1 (d := D - 1) hg (by omega) hR hS) (by omega) hk hz
theorem wnB_t {v lo hi : Int32} (c : wnB v lo hi = true) : ¬ v < lo ∧ ¬ hi < v := by
  simp only [wnB, Bool.and_eq_true, Bool.not_eq_true', decide_eq_false_iff_not] at c; exact c
theorem wnB_f {v lo hi : Int32} (c : wnB v lo hi = false) : v < lo ∨ hi < v := by
  by_cases e : v < lo
  · exact Or.inl e
  · by_cases e2 : hi < v
    · exact Or.inr e2
    · simp [wnB, e, e2] at c
theorem r_days (hg : GOK g) (hd : 20 ≤ d) (hR : RA h B R) (hI : IV s) (hS : RS s R) (v : Int32) : CT g d yX12_days (wsC yX12_days cX12_days 3 (some .int)) [.ref B, .int v] h 0 0 (PrM h B cd2 s (m_days s v)) noT := by
  have o2 := hI.o2
  have o3 := hI.o3
  refine CT_ofB (by decide +kernel) (Nat.le_of_ble_eq_true rfl) rfl fun K XX => ?_
  have r1 := hR.put (sI R 0 0)
  have s1 := hS.s0 hI
  have z1 : ri (sI R 0 0) 0 = 0 := ri_sI
  refine b_X12_days_0 hg (by omega) k00 XX _ _ _ ⟨_, hR.w0 0, ?_⟩
  generalize sI R 0 0 = R1 at *
  have no : m_days s v = refR s → VB g K 3 d 0 0 (PrM h B cd2 s (m_days s v)) noT 0 0 29 [some (.ref B), none, none] [] (pR h B R1) := by
    intro e
    refine b_X12_days_29 hg (by omega) k00 XX _ _ ⟨_, r1.o, q_ref hg r1 s1 (by omega) k00 ?_⟩
    rintro R2 ⟨s2, z2⟩
    exact prN s2 (by rw [z2, z1]) e (hR.pp _ _)
  refine use_i (d_within (d := d - 1) hg (by omega) v 1 20) (by omega) k00 ⟨fun q => no ?_, fun q => ⟨_, r1.n40, _, r1.r14 (k := 0) (by omega), ?_⟩⟩
  · have c := gp_n rfl q
    rcases wnB_f (by simpa using c) with e | e
    · rw [m_days, if_pos e]
    · by_cases e2 : v < 1
      · rw [m_days, if_pos e2]
      · rw [m_days, if_neg e2, if_pos e]
  · have c := wnB_t (gp_y rfl q)
    rw [show ra R1 14 0 = lDay (sL s) from s1.le.day]
    refine ⟨fun y => ⟨_, r1.o, q_keeps hg r1 hI s1 (by omega) k00 ?_⟩, fun y => no (by rw [m_days, if_neg c.1, if_neg c.2, if_neg y])⟩
    rintro R2 ⟨s2, z2⟩
    rw [hR.pp]
    have q0 : ¬ v < 0 := fun e => c.1 (Int32.lt_trans e (by decide))
    have ev := nI_cl q0
    have hm : cl v ≤ 20 := by
      have z2 : v ≤ 20 := Int32.not_lt.mp c.2
      rw [ev, show (20 : Int32) = nI 20 from rfl] at z2
      exact le_nI (cl_lt v) (by decide) z2
    have em : m_days s v = .inl (lDay (daysT (sT s) (cl v) (sL s)), actS s (daysT (sT s) (cl v) (sL s))) := by rw [m_days, if_neg c.1, if_neg c.2, if_pos y]
    rw [em]
    generalize hk : cl v = n at *
    rw [ev]
    have x2 := s2.ktx hI
    have lp : ∀ (j i : Nat) (R3 : RefV) (Y : LandV), i + j = n → TX (sT s) 0 Y R2 R3 → LOK (sN s) (sW s) Y → daysT (sT s) j Y = daysT (sT s) n (sL s) → VB g K 3 d 0 0 (PrM h B cd2 s (.inl (lDay (daysT (sT s) n (sL s)), actS s (daysT (sT s) n (sL s))))) noT 0 0 41 [some (.ref B), some (.int (nI n)), some (.int (nI i))] [] (pR h B R3) := by
      intro j
      induction j with
      | zero =>
        intro i R3 Y hi x3 l3 he
        have r3 := hR.put R3
        have he' : Y = daysT (sT s) n (sL s) := he
        refine b_X12_days_41 hg (by omega) k00 XX _ _ _ _ ⟨fun _ => ⟨_, r3.n40, _, r3.r14 (k := 0) (by omega), prN (RS.kup s2 x3) (by rw [x3.df.1, z2, z1]) ?_ rfl⟩, fun q => absurd (nle_nI (by omega) (by omega) q) (by omega)⟩
        rw [show ra R3 14 0 = lDay Y from x3.rw_.day, he']
      | succ j ih =>
        intro i R3 Y hi x3 l3 he
        have r3 := hR.put R3
        refine b_X12_days_41 hg (by omega) k00 XX _ _ _ _ ⟨fun q => absurd (le_nI (by omega) (by omega) q) (by omega), fun _ => ⟨_, r3.o, use_vR (d_dayGoes (b := 0) (d := d - 1) hg (by omega) r3 x3 l3 hI.sk hI.tg.2.2) (by omega) k00 ?_⟩⟩
        intro R4 x4
        rw [hR.pp, nI_s]
        exact ih (i + 1) R4 _ (by omega) x4 (l3.day o2 (by have := hI.o1; show 0 < sN s; omega) hI.sk) he
    exact lp n 0 R2 (sL s) (by omega) x2 hI.lok rfl
theorem r_mend (hg : GOK g) (hd : 20 ≤ d) (hR : RA h B R) (hI : IV s) (hS : RS s R) (u : Int32) : CT g d yX12_mend (wsC yX12_mend cX12_mend 2 (some .int)) [.ref B, .int u] h 0 0 (PrM h B cd2 s (m_mend s u)) noT := by
  have o2 := hI.o2
  have o3 := hI.o3
  refine CT_ofB (by decide +kernel) (Nat.le_of_ble_eq_true rfl) rfl fun K XX => ?_
  have r1 := hR.put (sI R 0 0)
  have s1 := hS.s0 hI
  have z1 : ri (sI R 0 0) 0 = 0 := ri_sI
  refine b_X12_mend_0 hg (by omega) k00 XX _ _ _ ⟨_, hR.w0 0, ?_⟩
  generalize sI R 0 0 = R1 at *
  refine ⟨_, r1.o, use_ck (d_isWoman (d := d - 1) hg (by omega) r1 z1 s1.w u) (by omega) k00 (fun c => ⟨fun _ => ?_, fun e => absurd e (by decide)⟩) (fun c => ⟨fun e => absurd rfl e, fun _ => ptM (b := true) hI s1 ((QF.refl R1).i rfl) ri_sI (by rw [m_mend, c]; rfl) (hR.pp _ _)⟩)⟩
  obtain ⟨eu, hu⟩ := inB_k (by omega) c
  have em : m_mend s u = if 1 ≤ lTh (sL s) (cl u) then .inl (lSm (mendL (tSk (sT s)) (sL s) (cl u)) (cl (lAt (sL s) (cl u))), actS s (mendL (tSk (sT s)) (sL s) (cl u))) else refR s := by rw [m_mend, if_pos c]
  rw [em]
  generalize hk : cl u = k at *
  rw [eu, show (43 : Int32) + nI k = nI (43 + k) from nI_add 43 k, show (37 : Int32) + nI k = nI (37 + k) from nI_add 37 k]
  obtain ⟨⟨j, j1, j2⟩, t, t1, t2⟩ := hI.lok.2 k hu
  have cj : cl (lAt (sL s) k) = j := by rw [j2]; exact nI_clamp (by omega)
  refine ⟨_, r1.n40, _, r1.r14 (by omega), ?_⟩
  rw [s1.th0 hu]
  refine ⟨fun y => ⟨_, r1.o, q_keeps hg r1 hI s1 (by omega) k00 ?_⟩, fun y => ⟨_, r1.o, q_ref hg r1 s1 (by omega) k00 ?_⟩⟩
  · have y' : 1 ≤ lTh (sL s) k := by
      rw [t2] at y ⊢
      have : t ≠ 0 := fun e => y (by rw [e]; rfl)
      rw [nI_o]; exact nI_le (by omega) (by omega)
    rw [if_pos y']
    rintro R2 ⟨s2, z2⟩
    rw [hR.pp]
    have r2 := hR.put R2
    refine ⟨_, r2.o, use_vR (d_mends (b := 0) (d := d - 1) hg (by omega) r2 (s2.ktx hI) hI.lok (k := k) hu) (by omega) k00 ?_⟩
    intro R3 x3
    rw [hR.pp]
    have r3 := hR.put R3
    have s3 := RS.kup s2 x3
    refine ⟨_, r3.n40, _, r3.n40, _, r3.r14 (by omega), ?_⟩
    have ea : ra R3 14 (37 + k) = nI j := by
      rw [s3.at0 (k := k) hu]
      show lAt (mendL (tSk (sT s)) (sL s) k) k = nI j
      unfold mendL; split <;> exact j2
    rw [ea, show (13 : Int32) + nI j = nI (13 + j) from nI_add 13 j]
    refine ⟨_, r3.r14 (by omega), prN s3 (by rw [x3.df.1, z2, z1]) ?_ rfl⟩
    rw [s3.sm0 (k := j) j1, cj]
    rfl
  · have y' : ¬ 1 ≤ lTh (sL s) k := by rw [y]; decide
    rw [if_neg y']
    rintro R2 ⟨s2, z2⟩
    exact prN s2 (by rw [z2, z1]) rfl (hR.pp _ _)
theorem r_go (hg : GOK g) (hd : 20 ≤ d) (hR : RA h B R) (hI : IV s) (hS : RS s R) (u v : Int32) : CT g d yX12_go (wsC yX12_go cX12_go 4 (some .int)) [.ref B, .int u, .int v] h 0 0 (PrM h B cd2 s (m_go s u v)) noT := by
  have o2 := hI.o2
  have o3 := hI.o3
  refine CT_ofB (by decide +kernel) (Nat.le_of_ble_eq_true rfl) rfl fun K XX => ?_
  have r1 := hR.put (sI R 0 0)
  have s1 := hS.s0 hI
  have z1 : ri (sI R 0 0) 0 = 0 := ri_sI
  refine b_X12_go_0 hg (by omega) k00 XX _ _ _ _ ⟨_, hR.w0 0, ?_⟩
  generalize sI R 0 0 = R1 at *
  refine ⟨_, r1.o, use_ck (d_isWoman (d := d - 1) hg (by omega) r1 z1 s1.w u) (by omega) k00 (fun c => ⟨fun e => absurd e (by decide), fun _ => ?_⟩) (fun c => ⟨fun _ => ptM (b := true) hI s1 ((QF.refl R1).i rfl) ri_sI (by rw [m_go, c]; rfl) (hR.pp _ _), fun e => absurd rfl e⟩)⟩
  refine ⟨_, r1.o, use_ck (d_isStretch (d := d - 1) hg (by omega) r1 z1 s1.n v) (by omega) k00 (fun c2 => ⟨fun _ => ?_, fun e => absurd e (by decide)⟩) (fun c2 => ⟨fun e => absurd rfl e, fun _ => ptM (b := true) hI s1 ((QF.refl R1).i rfl) ri_sI (by rw [m_go, c, c2]; rfl) (hR.pp _ _)⟩)⟩
  obtain ⟨eu, hu⟩ := inB_k (by omega) c
  have em : m_go s u v = if lAt (sL s) (cl u) = v then refR s else .inl (lAt (sL s) (cl u), actS s (sAt (sL s) (cl u) v)) := by rw [m_go, if_pos c, if_pos c2]
  rw [em]
  generalize hk : cl u = k at *
  rw [eu, show (37 : Int32) + nI k = nI (37 + k) from nI_add 37 k]
  refine ⟨_, r1.n40, _, r1.r14 (by omega), ?_⟩
  rw [s1.at0 hu]
  refine ⟨fun y => ⟨_, r1.o, q_keeps hg r1 hI s1 (by omega) k00 ?_⟩, fun y => ⟨_, r1.o, q_ref hg r1 s1 (by omega) k00 ?_⟩⟩
  · rw [if_neg y]
    rintro R2 ⟨s2, z2⟩
    rw [hR.pp]
    have r2 := hR.put R2
    refine ⟨_, r2.n40, _, r2.u14 (by omega), prN (RS.kup s2 (Y := sAt (sL s) k v) ?_) (by show ri R2 0 = 0; rw [z2, z1]) rfl (hR.pp _ _)⟩
    have := (s2.ktx hI).uAt (k := k) (v := v) hu
    rw [Nat.zero_add] at this
    exact this
  · rw [if_pos y]
    rintro R2 ⟨s2, z2⟩
    exact prN s2 (by rw [z2, z1]) rfl (hR.pp _ _)
theorem r_stitch (hg : GOK g) (hd : 20 ≤ d) (hR : RA h B R) (hI : IV s) (hS : RS s R) (u v : Int32) : CT g d yX12_stitch (wsC yX12_stitch cX12_stitch 4 (some .int)) [.ref B, .int u, .int v] h 0 0 (PrM h B cd2 s (m_stitch s u v)) noT := by
  have o2 := hI.o2
  refine CT_ofB (by decide +kernel) (Nat.le_of_ble_eq_true rfl) rfl fun K XX => ?_
  have r1 := hR.put (sI R 0 0)
  have s1 := hS.s0 hI
  have z1 : ri (sI R 0 0) 0 = 0 := ri_sI
  refine b_X12_stitch_0 hg (by omega) k00 XX _ _ _ _ ⟨_, hR.w0 0, ?_⟩
  generalize sI R 0 0 = R1 at *
  refine ⟨_, r1.o, use_ck (d_isStretch (d := d - 1) hg (by omega) r1 z1 s1.n u) (by omega) k00 (fun c => ⟨fun _ => ?_, fun e => absurd e (by decide)⟩) (fun c => ⟨fun e => absurd rfl e, fun _ => ptM (b := true) hI s1 ((QF.refl R1).i rfl) ri_sI (by rw [m_stitch, c]; rfl) (hR.pp _ _)⟩)⟩
  obtain ⟨eu, hu⟩ := inB_k (by omega) c
  have em : m_stitch s u v = if v < 0 then refR s else if 2 < v then refR s else if v = lSt (sL s) (cl u) then refR s else .inl (lSt (sL s) (cl u), actS s (sSt (sL s) (cl u) v)) := by rw [m_stitch, if_pos c]
  rw [em]
  generalize hk : cl u = k at *
  rw [eu, show (25 : Int32) + nI k = nI (25 + k) from nI_add 25 k]
  have no : ∀ m, m = refR s → VB g K 4 d 0 0 (PrM h B cd2 s m) noT 0 0 39 [some (.ref B), none, none, none] [] (pR h B R1) := by
    intro m e
    refine b_X12_stitch_39 hg (by omega) k00 XX _ _ ⟨_, r1.o, q_ref hg r1 s1 (by omega) k00 ?_⟩
    rintro R2 ⟨s2, z2⟩
    exact prN s2 (by rw [z2, z1]) e (hR.pp _ _)
  refine ⟨_, r1.n40, _, r1.r14 (by omega), use_i (d_within (d := d - 1) hg (by omega) v 0 2) (by omega) k00 ⟨fun q => no _ ?_, fun q => ?_⟩⟩
  · rcases wnB_f (by simpa using gp_n rfl q) with e | e
    · rw [if_pos e]
    · by_cases e2 : v < 0
      · rw [if_pos e2]
      · rw [if_neg e2, if_pos e]
  · have cc := wnB_t (gp_y rfl q)
    rw [s1.ti0 hu]
    refine ⟨fun y => ⟨_, r1.o, q_keeps hg r1 hI s1 (by omega) k00 ?_⟩, fun y => no _ (by rw [if_neg cc.1, if_neg cc.2, if_pos y.symm])⟩
    rw [if_neg cc.1, if_neg cc.2, if_neg (fun e => y e.symm)]
    rintro R2 ⟨s2, z2⟩
    rw [hR.pp]
    have r2 := hR.put R2
    refine ⟨_, r2.n40, _, r2.u14 (by omega), prN (RS.kup s2 (Y := sSt (sL s) k v) ?_) (by show ri R2 0 = 0; rw [z2, z1]) rfl (hR.pp _ _)⟩
    have := (s2.ktx hI).uSt (k := k) (v := v) hu
    rw [Nat.zero_add] at this
    exact this
theorem r_thread (hg : GOK g) (hd : 20 ≤ d) (hR : RA h B R) (hI : IV s) (hS : RS s R) (u v : Int32) : CT g d yX12_thread (wsC yX12_thread cX12_thread 3 (some .int)) [.ref B, .int u, .int v] h 0 0 (PrM h B cd2 s (m_thread s u v)) noT := by
  have o3 := hI.o3
  refine CT_ofB (by decide +kernel) (Nat.le_of_ble_eq_true rfl) rfl fun K XX => ?_
  have r1 := hR.put (sI R 0 0)
  have s1 := hS.s0 hI
  have z1 : ri (sI R 0 0) 0 = 0 := ri_sI
  refine b_X12_thread_0 hg (by omega) k00 XX _ _ _ _ ⟨_, hR.w0 0, ?_⟩
  generalize sI R 0 0 = R1 at *
  refine ⟨_, r1.o, use_ck (d_isWoman (d := d - 1) hg (by omega) r1 z1 s1.w u) (by omega) k00 (fun c => ⟨fun _ => ?_, fun e => absurd e (by decide)⟩) (fun c => ⟨fun e => absurd rfl e, fun _ => ptM (b := true) hI s1 ((QF.refl R1).i rfl) ri_sI (by rw [m_thread, c]; rfl) (hR.pp _ _)⟩)⟩
  obtain ⟨eu, hu⟩ := inB_k (by omega) c
  have em : m_thread s u v = if v < 1 then refR s else if v ≤ 50 then .inl (lTh (giveL (sL s) (cl u) v) (cl u), actS s (giveL (sL s) (cl u) v)) else refR s := by rw [m_thread, if_pos c]
  rw [em]
  generalize hk : cl u = k at *
  rw [eu, show (43 : Int32) + nI k = nI (43 + k) from nI_add 43 k]
  refine use_i (d_within (d := d - 1) hg (by omega) v 1 50) (by omega) k00 ⟨fun q => ?_, fun q => ⟨_, r1.o, q_ref hg r1 s1 (by omega) k00 ?_⟩⟩
  · have cc := wnB_t (gp_y rfl q)
    rw [if_neg cc.1, if_pos (Int32.not_lt.mp cc.2)]
    refine ⟨_, r1.o, q_keeps hg r1 hI s1 (by omega) k00 ?_⟩
    rintro R2 ⟨s2, z2⟩
    rw [hR.pp]
    have r2 := hR.put R2
    refine ⟨_, r2.n40, _, r2.n40, _, r2.r14 (by omega), use_i (d_lesser (d := d - 1) hg (by omega) _ _) (by omega) k00 ⟨_, r2.u14 (by omega), ?_⟩⟩
    rw [hR.pp, s2.th0 (k := k) hu, lsE_99]
    have x3 := (s2.ktx hI).uTh (k := k) (v := min99 (lTh (sL s) k + v)) hu
    rw [Nat.zero_add] at x3
    have s3 : RS (actS s (giveL (sL s) k v)) _ := RS.kup s2 x3
    have r3 := hR.put (sA R2 14 (upd (ra R2 14) (43 + k) (min99 (lTh (sL s) k + v))))
    refine ⟨_, r3.n40, _, r3.r14 (by omega), prN s3 (by show ri R2 0 = 0; rw [z2, z1]) ?_ rfl⟩
    rw [s3.th0 (k := k) hu]
    rfl
  · have : (if v < 1 then refR s else if v ≤ 50 then (.inl (lTh (giveL (sL s) k v) k, actS s (giveL (sL s) k v)) : Res) else refR s) = refR s := by
      rcases wnB_f (by simpa using gp_n rfl q) with e | e
      · rw [if_pos e]
      · rw [if_neg (Int32.not_le.mpr e)]; split <;> rfl
    rw [this]
    rintro R2 ⟨s2, z2⟩
    exact prN s2 (by rw [z2, z1]) rfl (hR.pp _ _)
theorem r_tear (hg : GOK g) (hd : 20 ≤ d) (hR : RA h B R) (hI : IV s) (hS : RS s R) (u v : Int32) : CT g d yX12_tear (wsC yX12_tear cX12_tear 3 (some .int)) [.ref B, .int u, .int v] h 0 0 (PrM h B cd2 s (m_tear s u v)) noT := by
  have o2 := hI.o2
  refine CT_ofB (by decide +kernel) (Nat.le_of_ble_eq_true rfl) rfl fun K XX => ?_
  have r1 := hR.put (sI R 0 0)
  have s1 := hS.s0 hI
  have z1 : ri (sI R 0 0) 0 = 0 := ri_sI
  refine b_X12_tear_0 hg (by omega) k00 XX _ _ _ _ ⟨_, hR.w0 0, ?_⟩
  generalize sI R 0 0 = R1 at *
  refine ⟨_, r1.o, use_ck (d_isStretch (d := d - 1) hg (by omega) r1 z1 s1.n u) (by omega) k00 (fun c => ⟨fun _ => ?_, fun e => absurd e (by decide)⟩) (fun c => ⟨fun e => absurd rfl e, fun _ => ptM (b := true) hI s1 ((QF.refl R1).i rfl) ri_sI (by rw [m_tear, c]; rfl) (hR.pp _ _)⟩)⟩
  obtain ⟨eu, hu⟩ := inB_k (by omega) c
  have em : m_tear s u v = if v < 1 then refR s else if 50 < v then refR s else if lSm (sL s) (cl u) = 0 then refR s else .inl (lSm (tearL (sN s) (sL s) (cl u) v) (cl u), actS s (tearL (sN s) (sL s) (cl u) v)) := by rw [m_tear, if_pos c]
  rw [em]
  generalize hk : cl u = k at *
  rw [eu, show (13 : Int32) + nI k = nI (13 + k) from nI_add 13 k]
  have no : ∀ m, m = refR s → VB g K 3 d 0 0 (PrM h B cd2 s m) noT 0 0 34 [some (.ref B), none, none] [] (pR h B R1) := by
    intro m e
    refine b_X12_tear_34 hg (by omega) k00 XX _ _ ⟨_, r1.o, q_ref hg r1 s1 (by omega) k00 ?_⟩
    rintro R2 ⟨s2, z2⟩
    exact prN s2 (by rw [z2, z1]) e (hR.pp _ _)
  refine use_i (d_within (d := d - 1) hg (by omega) v 1 50) (by omega) k00 ⟨fun q => no _ ?_, fun q => ?_⟩
  · rcases wnB_f (by simpa using gp_n rfl q) with e | e
    · rw [if_pos e]
    · by_cases e2 : v < 1
      · rw [if_pos e2]
      · rw [if_neg e2, if_pos e]
  · have cc := wnB_t (gp_y rfl q)
    refine ⟨_, r1.o, use_i (d_isGap (b := 0) (d := d - 1) hg (by omega) r1 (s1.tx hI) hu) (by omega) k00 ⟨fun y => ⟨_, r1.o, q_keeps hg r1 hI s1 (by omega) k00 ?_⟩, fun y => no _ (by rw [if_neg cc.1, if_neg cc.2, if_pos (gp_y rfl y)])⟩⟩
    have y' := gp_n rfl y
    rw [if_neg cc.1, if_neg cc.2, if_neg y']
    rintro R2 ⟨s2, z2⟩
    rw [hR.pp]
    have r2 := hR.put R2
    have v0 : 0 ≤ v := Int32.le_trans (by decide) (Int32.not_lt.mp cc.1)
    refine ⟨_, r2.o, use_vR (d_loosens (b := 0) (d := d - 1) hg (by omega) r2 (s2.ktx hI) hu v0 (hI.lok.1 k hu).2.1) (by omega) k00 ?_⟩
    intro R3 x3
    rw [hR.pp]
    have r3 := hR.put R3
    have et : wearL (tN_ (sT s)) (sL s) k v = tearL (sN s) (sL s) k v := by rw [tearL, if_neg y']
    rw [et] at x3
    have s3 := RS.kup s2 x3
    refine ⟨_, r3.n40, _, r3.r14 (by omega), prN s3 (by rw [x3.df.1, z2, z1]) ?_ rfl⟩
    rw [s3.sm0 (k := k) hu]
    rfl
end RA2
