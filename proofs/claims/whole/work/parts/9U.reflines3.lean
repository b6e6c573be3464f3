/-! THE REFERENCE: knots, a line's begin and end -/
section RLK
variable {g : GG} {h : Hp} {B d D len st kc ks mc ms : Nat} {R R0 : RefV} {f : AF} {T : ToldV} {L : LandV} {xF xP : RuX} {out : List Int32} {Pt : String → Hp → Prop}
theorem d_readsKnots (hg : GOK g) (hd : 14 ≤ d) (hR : RA h B R0) (hm0 : mOf T = 0) (q : DR f len R0 st T L xF xP out R) : CT g d yX12_readsKnots (wsC yX12_readsKnots cX12_readsKnots 2 none) [.ref B] (pR h B R) 0 0 (LnR f len R0 (rsK f len st 0 T L) h B) noT := by
  refine CT_ofB (by decide +kernel) (Nat.le_of_ble_eq_true rfl) rfl fun K XX => ?_
  -- a fault
  have bad66 : ∀ (p : LR) (e : Int32 × Nat) (R2 : RefV), FtL R0 e R2 → p = .inr e → VB g K 2 d 0 0 (LnR f len R0 p h B) noT 0 0 66 [some (.ref B), none] [] (pR h B R2) := by
    intro p e R2 fl hp
    have r2 := hR.put R2
    exact b_X12_readsKnots_66 hg (by omega) k00 XX _ _ ⟨_, r2.o, u_good hg r2 (by omega) k00 (fun z => absurd z fl.b) (fun _ => ⟨fun z => absurd rfl z, fun _ => ⟨rfl, _, rfl, by rw [hp]; exact fl⟩⟩)⟩
  have bad46 : ∀ (p : LR) (s : Nat) (R2 : RefV), DG f len R0 s R2 → p = .inr (2, s) → VB g K 2 d 0 0 (LnR f len R0 p h B) noT 0 0 46 [some (.ref B), none] [] (pR h B R2) := by
    intro p s R2 dg hp
    have r2 := hR.put R2
    refine b_X12_readsKnots_46 hg (by omega) k00 XX _ _ ⟨_, r2.o, use_v (d_wrong (d := d - 1) hg (by omega) r2 dg.gd 2) (by omega) k00 ?_⟩
    intro h3 e3
    rw [e3, hR.pp]
    exact bad66 p _ _ (dg.fl (by decide)) hp
  have loop : ∀ (p : LR) (j s : Nat) (T0 : ToldV) (R2 : RefV), j + mOf T0 = 9 → DR f len R0 s T0 L xF xP out R2 → kdE f len s = 2 → knQ f len j s (mOf T0) (zKg T0 1) L = p → VB g K 2 d 0 0 (LnR f len R0 p h B) noT 0 0 2 [some (.ref B), some (.int 1)] [] (pR h B R2) := by
    intro p j
    induction j with
    | zero =>
      intro s T0 R2 hj q2 _ _
      have := q2.1.1.2.2.1
      omega
    | succ j ih =>
      intro s T0 R2 hj q2 hkd hp
      obtain ⟨di, dg, db, ol⟩ := q2
      have r2 := hR.put R2
      have tk2 := dg.tk
      have l7 := dg.tp.1
      have hn := nxF_le (f := f) tk2.1
      have m8 : mOf T0 ≤ 8 := di.1.2.2.1
      have e26 : ri R2 26 = nI (mOf T0) := by rw [db.1.2.2.1]; exact di.1.2.2.2.1
      have e21 : ri R2 21 = vaP f len s := tk2.2.2.2.2.2.1 hkd
      have e20 := tk2.2.2.2.2.1
      rw [knQ, if_pos hkd] at hp
      refine b_X12_readsKnots_2 hg (by omega) k00 XX _ _ _ ⟨fun z => absurd z (by decide), fun _ => ⟨_, r2.o, u_good hg r2 (by omega) k00 (fun _ => ⟨fun z => absurd z (by decide), fun _ => ⟨_, by rw [r2.i18, tk2.2.2.1], fun _ => ⟨_, by rw [r2.i26, e26], fun y1 => ?_, fun y1 => ⟨_, by rw [r2.i20, e20], fun y2 => ⟨_, r2.o, ?_⟩, fun y2 => ?_⟩⟩, fun y => absurd ((srt (by decide)).mpr hkd) y⟩⟩) (fun z => absurd dg.gd z)⟩⟩
      · have y1' : mOf T0 = 8 := (nI_eq (b := 8) (by omega) (by omega)).mp y1
        rw [if_pos (Or.inr (by omega))] at hp
        exact bad46 p s R2 dg hp.symm
      · have y1' : ¬ mOf T0 = 8 := fun e => y1 (by rw [e]; rfl)
        have y2' := le_nI (y := 4) (by omega) (by omega) y2
        rw [if_neg (by rintro (e | e) <;> omega)] at hp
        refine use_i (d_isKnot (d := d - 1) hg (by omega) r2 m8 e26 db.2.2.2.2.1 e21 e20) (by omega) k00 ⟨fun y3 => ?_, fun y3 => ⟨_, r2.o, use_v (d_wrong (d := d - 1) hg (by omega) r2 dg.gd 4) (by omega) k00 ?_⟩⟩
        · have y3' : ¬ hasB (tK T0) (mOf T0) (vaP f len s) (nI (nxF f len s - s)) = true := gp_n rfl y3
          have y3'' : hasB (tK T0) (mOf T0) (vaP f len s) (nI (nxF f len s - s)) = false := by
            cases e : hasB (tK T0) (mOf T0) (vaP f len s) (nI (nxF f len s - s)) with
            | true => exact absurd e y3'
            | false => rfl
          have y4 : ¬ hasB (tK (zKg T0 1)) (mOf T0) (vaP f len s) (nI (nxF f len s - s)) = true := y3'
          rw [if_neg y4] at hp
          refine b_X12_readsKnots_66 hg (by omega) k00 XX _ _ ⟨_, r2.o, u_good hg r2 (by omega) k00 (fun _ => ⟨fun _ => ⟨_, r2.n34, _, by rw [r2.i26, e26], _, by rw [r2.i21, e21], _, r2.u8 (by omega), ?_⟩, fun z => absurd z (by decide)⟩) (fun z => absurd dg.gd z)⟩
          rw [hR.pp]
          have dg3 := dg.a (c := 8) (g := upd (ra R2 8) (mOf T0) (vaP f len s)) (by omega) (by omega)
          have r3 := hR.put (sA R2 8 (upd (ra R2 8) (mOf T0) (vaP f len s)))
          refine ⟨_, r3.n35, nI (mOf T0), by rw [r3.i26]; exact congrArg some e26, nI (nxF f len s - s), by rw [r3.i20]; exact congrArg some e20, _, r3.u9 (by omega), ?_⟩
          rw [hR.pp]
          have dg4 := dg3.a (c := 9) (g := upd (ra (sA R2 8 (upd (ra R2 8) (mOf T0) (vaP f len s))) 9) (mOf T0) (nI (nxF f len s - s))) (by omega) (by omega)
          have i4 : ∀ k, ri (sA (sA R2 8 (upd (ra R2 8) (mOf T0) (vaP f len s))) 9 (upd (ra (sA R2 8 (upd (ra R2 8) (mOf T0) (vaP f len s))) 9) (mOf T0) (nI (nxF f len s - s)))) k = ri R2 k := fun _ => rfl
          have a4 : ∀ c, c ≠ 8 → c ≠ 9 → ra (sA (sA R2 8 (upd (ra R2 8) (mOf T0) (vaP f len s))) 9 (upd (ra (sA R2 8 (upd (ra R2 8) (mOf T0) (vaP f len s))) 9) (mOf T0) (nI (nxF f len s - s)))) c = ra R2 c := fun c c1 c2 => by rw [ra_sAn c2, ra_sAn c1]
          have a48 : ra (sA (sA R2 8 (upd (ra R2 8) (mOf T0) (vaP f len s))) 9 (upd (ra (sA R2 8 (upd (ra R2 8) (mOf T0) (vaP f len s))) 9) (mOf T0) (nI (nxF f len s - s)))) 8 = upd (ra R2 8) (mOf T0) (vaP f len s) := by rw [ra_sAn (by decide), ra_sA]
          have a49 : ra (sA (sA R2 8 (upd (ra R2 8) (mOf T0) (vaP f len s))) 9 (upd (ra (sA R2 8 (upd (ra R2 8) (mOf T0) (vaP f len s))) 9) (mOf T0) (nI (nxF f len s - s)))) 9 = upd (ra R2 9) (mOf T0) (nI (nxF f len s - s)) := by rw [ra_sA, ra_sAn (by decide)]
          generalize sA (sA R2 8 (upd (ra R2 8) (mOf T0) (vaP f len s))) 9 (upd (ra (sA R2 8 (upd (ra R2 8) (mOf T0) (vaP f len s))) 9) (mOf T0) (nI (nxF f len s - s))) = R4 at *
          have r4 := hR.put R4
          refine ⟨_, by rw [r4.i26, i4, e26], ?_⟩
          rw [nI_s]
          refine ⟨_, r4.w26 _, ?_⟩
          rw [hR.pp]
          have dg5 := dg4.i (k := 26) (v := nI (mOf T0 + 1)) (by omega) (by omega)
          have r5 := hR.put (sI R4 26 (nI (mOf T0 + 1)))
          refine ⟨_, r5.o, use_vR (d_go (d := d - 1) hg (by omega) r5 dg5.tp dg5.tk) (by omega) k00 ?_⟩
          rintro R6 ⟨gf6, tk6⟩
          rw [hR.pp]
          have dg6 := dg5.go gf6 tk6
          have hal := adv_ge (f := f) tk2.1
          have hst := kdE_lt (f := f) (len := len) (st := s) (by rw [hkd]; decide)
          have nx1 : 1 ≤ nxF f len s - s := by omega
          have em : mOf (zK (zKg T0 1) (nI (mOf T0 + 1), upd (tK T0).2.1 (mOf T0) (vaP f len s), upd (tK T0).2.2.1 (mOf T0) (nI (nxF f len s - s)), (tK T0).2.2.2)) = mOf T0 + 1 := nI_clamp (by omega)
          have q6 : DR f len R0 (adv f len s) (zK (zKg T0 1) (nI (mOf T0 + 1), upd (tK T0).2.1 (mOf T0) (vaP f len s), upd (tK T0).2.2.1 (mOf T0) (nI (nxF f len s - s)), (tK T0).2.2.2)) L xF xP out R6 := by
            refine ⟨(di.go hal (adv_le tk2.1)).knot (by omega) nx1 y2' y3'', dg6, ?_, by omega⟩
            obtain ⟨⟨b1, b2, b3, b4⟩, b5, ⟨b6, b7⟩, b8, b9, b10⟩ := db
            refine ⟨⟨?_, ?_, ?_, ?_⟩, ?_, ⟨?_, ?_⟩, fun w hw => ?_, fun k hk => ?_, ?_⟩
            · rw [gf6.1 24 (by omega), ri_sIn (by decide), i4]; exact b1
            · rw [gf6.1 25 (by omega), ri_sIn (by decide), i4]; exact b2
            · rw [gf6.1 26 (by omega), ri_sI]; rfl
            · rw [gf6.1 27 (by omega), ri_sIn (by decide), i4]; exact b4
            · rw [gf6.1 28 (by omega), gf6.1 29 (by omega), ri_sIn (by decide), ri_sIn (by decide), i4, i4]; exact b5
            · rw [gf6.1 30 (by omega), ri_sIn (by decide), i4]; exact b6
            · rw [gf6.2]; show Stk (ra R4 11) out; rw [a4 11 (by decide) (by decide)]; exact b7
            · rw [gf6.2]; show ra R4 7 w = _; rw [a4 7 (by decide) (by decide)]; exact b8 w hw
            · rw [em] at hk
              rw [gf6.2, gf6.2]
              show ra R4 8 k = upd (tK T0).2.1 (mOf T0) (vaP f len s) k ∧ ra R4 9 k = upd (tK T0).2.2.1 (mOf T0) (nI (nxF f len s - s)) k
              rw [a48, a49]
              by_cases e : k = mOf T0
              · rw [e, pk_us, pk_us, pk_us, pk_us]; exact ⟨rfl, rfl⟩
              · rw [pk_un e, pk_un e, pk_un e, pk_un e]; exact b9 k (by omega)
            · rw [gf6.2]; show NwR _ _ _ (ra R4 10); rw [a4 10 (by decide) (by decide)]; exact b10
          have r6 := hR.put R6
          refine ⟨_, by rw [r6.i18, tk6.2.2.1], fun y5 => ?_, fun y5 => ?_⟩
          · rw [srt (by decide)] at y5
            refine b_X12_readsKnots_127 hg (by omega) k00 XX _ _ _ (b_X12_readsKnots_2 hg (by omega) k00 XX _ _ _ ⟨fun _ => ⟨rfl, _, rfl, ?_⟩, fun z => absurd rfl z⟩)
            cases j with
            | zero => rw [knQ] at hp; rw [← hp]; exact ⟨xF, xP, out, q6⟩
            | succ j => rw [knQ, if_neg y5] at hp; rw [← hp]; exact ⟨xF, xP, out, q6⟩
          · rw [srt (by decide)] at y5
            refine b_X12_readsKnots_127 hg (by omega) k00 XX _ _ _ (ih _ (zK (zKg T0 1) (nI (mOf T0 + 1), upd (tK T0).2.1 (mOf T0) (vaP f len s), upd (tK T0).2.2.1 (mOf T0) (nI (nxF f len s - s)), (tK T0).2.2.2)) R6 (by rw [em]; omega) q6 y5 ?_)
            rw [em]
            exact hp
        · have y3' : hasB (tK T0) (mOf T0) (vaP f len s) (nI (nxF f len s - s)) = true := gp_y rfl y3
          have y4 : hasB (tK (zKg T0 1)) (mOf T0) (vaP f len s) (nI (nxF f len s - s)) = true := y3'
          rw [if_pos y4] at hp
          intro h4 e4
          rw [e4, hR.pp]
          exact bad66 p _ _ (dg.fl (by decide)) hp.symm
      · have y2' := nle_nI (y := 4) (by omega) (by omega) y2
        rw [if_pos (Or.inl y2')] at hp
        exact bad46 p s R2 dg hp.symm
  refine b_X12_readsKnots_0 hg (by omega) k00 XX _ _ ?_
  unfold rsK
  by_cases y : kdE f len st = 2
  · rw [if_pos y]
    refine loop _ 9 st T R (by rw [hm0]) q y ?_
    rw [hm0]
  · rw [if_neg y]
    obtain ⟨di, dg, db, ol⟩ := q
    have r1 := hR.put R
    refine b_X12_readsKnots_2 hg (by omega) k00 XX _ _ _ ⟨fun z => absurd z (by decide), fun _ => ⟨_, r1.o, u_good hg r1 (by omega) k00 (fun _ => ⟨fun z => absurd z (by decide), fun _ => ⟨_, by rw [r1.i18, dg.tk.2.2.1], fun z => absurd ((srt (by decide)).mp z) y, fun _ => ⟨_, r1.o, use_v (d_wrong (d := d - 1) hg (by omega) r1 dg.gd 1) (by omega) k00 ?_⟩⟩⟩) (fun z => absurd dg.gd z)⟩⟩
    intro h4 e4
    rw [e4, hR.pp]
    exact bad66 _ _ _ (dg.fl (by decide)) rfl
/-- a line's begin -/
theorem u_begin {Z : Nat → Nat → Int32 → Hp → Prop} (hg : GOK g) (hR : RA h B R0) (q : DG f len R0 st R) {a b : Int32} (hd : 12 ≤ D) (hk : kc ≤ mc ∧ ks ≤ ms) (hab : a = 0 ∨ b = 0)
    (yes : a = 0 → b = 0 → ∀ R', GF R R' → DG f len R0 (adv f len st) R' → Z 0 0 1 (pR h B R')) (no2 : ¬ a = 0 → ∀ R', FtL R0 (2, st) R' → Z 0 0 0 (pR h B R')) (no5 : ¬ b = 0 → ∀ R', FtL R0 (5, st) R' → Z 0 0 0 (pR h B R')) :
    ∃ d1 P1 E1 m1 n1, CT g d1 yX12_begins (wsC yX12_begins cX12_begins 3 (some .boolean)) [.ref B, .int a, .int b] (pR h B R) m1 n1 P1 E1 ∧ (d1 + 1 ≤ D ∧ kc + m1 ≤ mc ∧ ks + n1 ≤ ms) ∧ (∀ E h', E1 E h' → Pt E h') ∧ (∀ v h1, P1 v h1 → ∃ x, v = some (.int x) ∧ Z m1 n1 x h1) := by
  have r1 := hR.put R
  have hc : CT g (D - 1) yX12_begins (wsC yX12_begins cX12_begins 3 (some .boolean)) [.ref B, .int a, .int b] (pR h B R) 0 0 (fun v h2 => ∃ x, v = some (.int x) ∧ Z 0 0 x h2) noT := by
    refine CT_ofB (by decide +kernel) (Nat.le_of_ble_eq_true rfl) rfl fun K XX => ?_
    have bad18 : ∀ (e : Int32 × Nat) (R2 : RefV), FtL R0 e R2 → Z 0 0 0 (pR h B R2) → VB g K 3 (D - 1) 0 0 (fun v h2 => ∃ x, v = some (.int x) ∧ Z 0 0 x h2) noT 0 0 18 [some (.ref B), none, none] [] (pR h B R2) := by
      intro e R2 fl hz
      have r2 := hR.put R2
      exact b_X12_begins_18 hg (by omega) k00 XX _ _ ⟨_, r2.o, u_good hg r2 (by omega) k00 (fun z => absurd z fl.b) (fun _ => ⟨fun z => absurd rfl z, fun _ => ⟨Or.inl rfl, 0, rfl, hz⟩⟩)⟩
    refine b_X12_begins_0 hg (by omega) k00 XX _ _ _ _ ⟨fun ya => ?_, fun ya => ⟨_, r1.o, use_v (d_wrong (d := D - 1 - 1) hg (by omega) r1 q.gd 2) (by omega) k00 ?_⟩⟩
    · refine b_X12_begins_9 hg (by omega) k00 XX _ _ _ ⟨fun yb => ?_, fun yb => ⟨_, r1.o, use_v (d_wrong (d := D - 1 - 1) hg (by omega) r1 q.gd 5) (by omega) k00 ?_⟩⟩
      · refine b_X12_begins_18 hg (by omega) k00 XX _ _ ⟨_, r1.o, u_good hg r1 (by omega) k00 (fun _ => ⟨fun _ => ⟨_, r1.o, use_vR (d_go (d := D - 1 - 1) hg (by omega) r1 q.tp q.tk) (by omega) k00 ?_⟩, fun z => absurd z (by decide)⟩) (fun z => absurd q.gd z)⟩
        rintro R2 ⟨gf, tk⟩
        rw [hR.pp]
        exact ⟨Or.inr rfl, 1, rfl, yes ya yb R2 gf (q.go gf tk)⟩
      · intro h3 e3
        rw [e3, hR.pp]
        exact bad18 _ _ (q.fl (by decide)) (no5 yb _ (q.fl (by decide)))
    · intro h3 e3
      rw [e3, hR.pp]
      have yb : b = 0 := hab.resolve_left ya
      refine b_X12_begins_9 hg (by omega) k00 XX _ _ _ ⟨fun _ => bad18 _ _ (q.fl (by decide)) (no2 ya _ (q.fl (by decide))), fun z => absurd yb z⟩
  exact ⟨D - 1, _, _, 0, 0, hc, ⟨by omega, hk.1, hk.2⟩, fun _ _ z => z.elim, fun v h1 p => p⟩
/-- a sign is asked, whatever is there -/
theorem d_signAny (hg : GOK g) (hd : 8 ≤ d) (hR : RA h B R) (v : Int32) : CT g d yX12_isSign (wsC yX12_isSign cX12_isSign 2 (some .boolean)) [.ref B, .int v] h 0 0 (fun r h2 => ∃ x, r = some (.int x) ∧ h2 = h) noT := by
  refine CT_ofB (by decide +kernel) (Nat.le_of_ble_eq_true rfl) rfl fun K XX => ?_
  exact b_X12_isSign_0 hg hd k00 XX _ _ _ ⟨_, hR.i18, fun _ => ⟨Or.inl rfl, _, rfl, rfl⟩, fun _ => ⟨_, hR.i22, fun _ => ⟨Or.inl rfl, _, rfl, rfl⟩, fun _ => ⟨Or.inr rfl, _, rfl, rfl⟩⟩⟩
theorem d_needN (hg : GOK g) (hd : 9 ≤ d) (hR : RA h B R) (hb : ¬ ri R 13 = 0) (v : Int32) : CT g d yX12_need (wsC yX12_need cX12_need 2 none) [.ref B, .int v] h 0 0 (fun r h2 => r = none ∧ h2 = h) noT := by
  refine CT_ofB (by decide +kernel) (Nat.le_of_ble_eq_true rfl) rfl fun K XX => ?_
  exact b_X12_need_0 hg (by omega) k00 XX _ _ _ ⟨_, hR.o, u_good hg hR (by omega) k00 (fun z => absurd z hb) (fun _ => ⟨fun z => absurd rfl z, fun _ => ⟨rfl, rfl⟩⟩)⟩
theorem d_need (hg : GOK g) (hd : 12 ≤ d) (hR : RA h B R0) (q : DR f len R0 st T L xF xP out R) : CT g d yX12_need (wsC yX12_need cX12_need 2 none) [.ref B, .int (if sgP f len st 59 then 1 else 0)] (pR h B R) 0 0 (LnR f len R0 (smK f len st T L) h B) noT := by
  obtain ⟨di, dg, db, ol⟩ := q
  refine CT_ofB (by decide +kernel) (Nat.le_of_ble_eq_true rfl) rfl fun K XX => ?_
  have r1 := hR.put R
  refine b_X12_need_0 hg (by omega) k00 XX _ _ _ ⟨_, r1.o, u_good hg r1 (by omega) k00 (fun _ => ⟨fun _ => ⟨fun y => ⟨_, r1.o, use_v (d_wrong (d := d - 1) hg (by omega) r1 dg.gd 1) (by omega) k00 ?_⟩, fun y => ⟨_, r1.o, use_vR (d_go (d := d - 1) hg (by omega) r1 dg.tp dg.tk) (by omega) k00 ?_⟩⟩, fun z => absurd z (by decide)⟩) (fun z => absurd dg.gd z)⟩
  · have y' : ¬ sgP f len st 59 = true := gp_n rfl y
    intro h3 e3
    rw [e3, hR.pp, smK, if_neg y']
    exact ⟨rfl, _, rfl, dg.fl (by decide)⟩
  · have y' : sgP f len st 59 = true := gp_y rfl y
    rintro R2 ⟨gf, tk⟩
    rw [hR.pp, smK, if_pos y']
    have hal := adv_ge (f := f) dg.tk.1
    exact ⟨rfl, _, rfl, xF, xP, out, di.go hal (adv_le dg.tk.1), dg.go gf tk, db.gf gf, by show out.length ≤ 2 * adv f len st; omega⟩
end RLK
