/-! THE REFERENCE: a day goes, days, a trial; bits and sums -/
section RU
variable {g : GG} {h : Hp} {B b d k : Nat} {T : ToldV} {X : LandV} {R0 R : RefV}
def pulV (T : ToldV) (X : LandV) (k : Nat) : Int32 := if lSm X k = 0 then 0 else pulE T (tP0 T) (tP1 T) X k
/-- the strains up to k are pulled -/
def puX (T : ToldV) (X : LandV) (k : Nat) : LandV := setStr X (fun i => if i < k then pullP (pulE T (tP0 T) (tP1 T)) X i else lStr X i)
theorem puX_0 : puX T X 0 = X := by
  unfold puX setStr
  rfl
theorem puX_s (hk : k < tN_ T) : LE (tN_ T) (tW T) (if lSm X k = 0 then puX T X k else sStr (puX T X k) k (wth (lStr X k + pulV T X k) 0 99)) (puX T X (k + 1)) := by
  by_cases z : lSm X k = 0
  · rw [if_pos z]
    refine ⟨rfl, fun j hj => ⟨?_, rfl, rfl⟩, fun _ _ => ⟨rfl, rfl⟩⟩
    show (if j < k then _ else lStr X j) = (if j < k + 1 then pullP _ X j else lStr X j)
    by_cases e : j < k
    · rw [if_pos e, if_pos (by omega)]
    · rw [if_neg e]
      by_cases e2 : j = k
      · subst e2; rw [if_pos (by omega), pullP, if_pos z]
      · rw [if_neg (by omega)]
  · rw [if_neg z]
    refine ⟨rfl, fun j hj => ⟨?_, rfl, rfl⟩, fun _ _ => ⟨rfl, rfl⟩⟩
    show upd (fun i => if i < k then pullP _ X i else lStr X i) k _ j = (if j < k + 1 then pullP _ X j else lStr X j)
    by_cases e2 : j = k
    · subst e2; rw [pk_us, if_pos (by omega), pullP, if_neg z, pulV, if_neg z]
    · rw [pk_un e2]
      by_cases e : j < k
      · rw [if_pos e, if_pos (by omega)]
      · rw [if_neg e, if_neg (by omega)]
theorem puX_n (hn : tN_ T ≤ 12) : LE (tN_ T) (tW T) (puX T X (tN_ T)) (setStr (setPu X (puTo (pullP (pulE T (tP0 T) (tP1 T)) X) (lPu X) (tN_ T))) (cpyF (puTo (pullP (pulE T (tP0 T) (tP1 T)) X) (lPu X) (tN_ T)) (lStr X) 0 0 (tN_ T) 12)) := by
  refine ⟨rfl, fun j hj => ⟨?_, rfl, rfl⟩, fun _ _ => ⟨rfl, rfl⟩⟩
  show (if j < tN_ T then _ else lStr X j) = cpyF _ _ 0 0 (tN_ T) 12 j
  rw [if_pos hj, cpyF_lt hj hn, puTo_lt hj]
theorem thuB_iff {wk day : Int32} (hw : ¬ wk ≤ 0) : (day - day / wk * wk = wk - 1) ↔ thuB wk day = true := by
  unfold thuB
  simp [hw]
theorem d_dayGoes (hg : GOK g) (hd : 14 ≤ d) (hR : RA h B R) (hX : TX T b X R0 R) (hL : LOK (tN_ T) (tW T) X) (hs : SkOK T) (hw : ¬ tWk T ≤ 0) : CT g d yX12_dayGoes (wsC yX12_dayGoes cX12_dayGoes 3 none) [.ref B, .int (nI b)] h 0 0 (fun r h2 => r = none ∧ ∃ R', h2 = pR h B R' ∧ TX T b (dayT T X) R0 R') noT := by
  obtain ⟨o1, o2, o3⟩ := hX.tok
  have hb := hX.b49
  refine CT_ofB (by decide +kernel) (Nat.le_of_ble_eq_true rfl) rfl fun K XX => ?_
  generalize hQ : dayT T X = Q
  -- the day's number
  have e5 : ∀ (R1 : RefV) (Y : LandV), TX T b Y R0 R1 → LE (tN_ T) (tW T) (sDay Y (lDay Y + 1)) Q → VB g K 3 d 0 0 (fun r h2 => r = none ∧ ∃ R', h2 = pR h B R' ∧ TX T b Q R0 R') noT 0 0 173 [some (.ref B), some (.int (nI b)), none] [] (pR h B R1) := by
    intro R1 Y x1 he
    have r1 := hR.put R1
    refine b_X12_dayGoes_173 hg (by omega) k00 XX _ _ _ ⟨_, r1.n40, ?_⟩
    rw [show nI b + (0 : Int32) = nI b from Int32.add_zero _]
    refine ⟨_, r1.r14 (by omega), _, r1.u14 (by omega), rfl, _, by rw [hR.pp], ?_⟩
    rw [x1.rw_.day]
    exact x1.uDay.le he
  -- the women
  have e4 : ∀ (j i : Nat) (R1 : RefV) (Y : LandV), i + j = tW T → TX T b Y R0 R1 → LOK (tN_ T) (tW T) Y → LE (tN_ T) (tW T) (sDay (mendFrom (tN_ T) (tSk T) j i Y) (lDay (mendFrom (tN_ T) (tSk T) j i Y) + 1)) Q → VB g K 3 d 0 0 (fun r h2 => r = none ∧ ∃ R', h2 = pR h B R' ∧ TX T b Q R0 R') noT 0 0 147 [some (.ref B), some (.int (nI b)), some (.int (nI i))] [] (pR h B R1) := by
    intro j
    induction j with
    | zero =>
      intro i R1 Y hi x1 l1 he
      have r1 := hR.put R1
      exact b_X12_dayGoes_147 hg (by omega) k00 XX _ _ _ _ ⟨_, by rw [r1.i2, x1.w], fun _ => e5 R1 Y x1 he, fun q => absurd (nle_nI (by omega) (by omega) q) (by omega)⟩
    | succ j ih =>
      intro i R1 Y hi x1 l1 he
      have r1 := hR.put R1
      refine b_X12_dayGoes_147 hg (by omega) k00 XX _ _ _ _ ⟨_, by rw [r1.i2, x1.w], fun q => absurd (le_nI (by omega) (by omega) q) (by omega), fun _ => ⟨_, r1.o, use_vR (d_mends (d := d - 1) hg (by omega) r1 x1 l1 (k := i) (by omega)) (by omega) k00 ?_⟩⟩
      intro R2 x2
      rw [hR.pp]
      have r2 := hR.put R2
      have l2 := l1.mend (sk := tSk T) (k := i) o2 (by omega) (hs i (by omega))
      refine ⟨_, r2.o, use_vR (d_goesOn (d := d - 1) hg (by omega) r2 x2 l2.aok (k := i) (by omega)) (by omega) k00 ?_⟩
      intro R3 x3
      rw [hR.pp, nI_s]
      exact ih (i + 1) R3 _ (by omega) x3 (l2.go (by omega)) he
  -- the frays
  have e3 : ∀ (j i : Nat) (R1 : RefV) (Y : LandV), i + j = tN_ T → TX T b Y R0 R1 → LOK (tN_ T) (tW T) Y → LE (tN_ T) (tW T) (dayEnd (tN_ T) (tW T) (tWk T) (tSk T) (wearP (tN_ T) (fraE T (tF0 T) (tF1 T)) j i Y)) Q → VB g K 3 d 0 0 (fun r h2 => r = none ∧ ∃ R', h2 = pR h B R' ∧ TX T b Q R0 R') noT 0 0 88 [some (.ref B), some (.int (nI b)), some (.int (nI i))] [] (pR h B R1) := by
    intro j
    induction j with
    | zero =>
      intro i R1 Y hi x1 l1 he
      have r1 := hR.put R1
      have he' : LE (tN_ T) (tW T) (dayEnd (tN_ T) (tW T) (tWk T) (tSk T) Y) Q := he
      refine b_X12_dayGoes_88 hg (by omega) k00 XX _ _ _ _ ⟨_, by rw [r1.i1, x1.n], fun _ => ⟨_, r1.n40, ?_⟩, fun q => absurd (nle_nI (by omega) (by omega) q) (by omega)⟩
      rw [show nI b + (0 : Int32) = nI b from Int32.add_zero _]
      refine ⟨_, r1.r14 (by omega), _, by rw [r1.i4, x1.wk], fun z => hw (by rw [z]; decide), _, by rw [r1.i4, x1.wk], fun z => ?_, fun z => ?_⟩
      · rw [x1.rw_.day, thuB_iff hw] at z
        rw [dayEnd, if_neg z] at he'
        exact e5 R1 Y x1 he'
      · rw [x1.rw_.day, thuB_iff hw] at z
        rw [dayEnd, if_pos z] at he'
        exact e4 (tW T) 0 R1 Y (by omega) x1 l1 he'
    | succ j ih =>
      intro i R1 Y hi x1 l1 he
      have r1 := hR.put R1
      rw [wearP] at he
      refine b_X12_dayGoes_88 hg (by omega) k00 XX _ _ _ _ ⟨_, by rw [r1.i1, x1.n], fun q => absurd (le_nI (by omega) (by omega) q) (by omega), fun _ => ⟨_, r1.o, use_i (d_isGap (d := d - 1) hg (by omega) r1 x1 (k := i) (by omega)) (by omega) k00 ⟨fun z => ?_, fun z => ⟨_, r1.o, use_iR (d_fraysOf (d := d - 1) hg (by omega) r1 x1 l1 (k := i) (by omega)) (by omega) k00 ?_⟩⟩⟩⟩
      · have z' := gp_y rfl z
        rw [if_pos z'] at he
        refine b_X12_dayGoes_117 hg (by omega) k00 XX _ _ _ _ ?_
        rw [nI_s]
        exact ih (i + 1) R1 Y (by omega) x1 l1 he
      · have z' := gp_n rfl z
        rw [if_neg z'] at he
        intro R2 x2
        rw [hR.pp, if_neg z']
        have r2 := hR.put R2
        obtain ⟨a, a1, a2⟩ := fraE_r T (tF0 T) (tF1 T) Y i
        refine ⟨_, r2.o, use_vR (d_loosens (d := d - 1) hg (by omega) r2 x2 (k := i) (by omega) (v := fraE T (tF0 T) (tF1 T) Y i) (by rw [a2]; exact nI_pos' (by omega)) (l1.1 i (by omega)).2.1) (by omega) k00 ?_⟩
        intro R3 x3
        rw [hR.pp]
        refine b_X12_dayGoes_117 hg (by omega) k00 XX _ _ _ _ ?_
        rw [nI_s]
        refine ih (i + 1) R3 _ (by omega) x3 ?_ he
        rw [a2]
        exact l1.wear (by omega) (by omega)
  -- the pull is done
  have e2 : ∀ (j i : Nat) (R1 : RefV), i + j = tN_ T → TX T b (puX T X i) R0 R1 → (∀ k, k < tN_ T → ra R1 18 k = pulV T X k) → VB g K 3 d 0 0 (fun r h2 => r = none ∧ ∃ R', h2 = pR h B R' ∧ TX T b Q R0 R') noT 0 0 30 [some (.ref B), some (.int (nI b)), some (.int (nI i))] [] (pR h B R1) := by
    intro j
    induction j with
    | zero =>
      intro i R1 hi x1 hp
      have r1 := hR.put R1
      have hi' : i = tN_ T := by omega
      subst hi'
      have x2 := x1.le (puX_n o2)
      have l2 : LOK (tN_ T) (tW T) (puX T X (tN_ T)) := by
        refine ⟨fun j hj => ⟨?_, (hL.1 j hj).2⟩, hL.2⟩
        show ∃ a, a ≤ 99 ∧ (if j < tN_ T then pullP _ X j else lStr X j) = nI a
        rw [if_pos hj, pullP]
        split
        · exact (hL.1 j hj).1
        · obtain ⟨a, _, a2, a3⟩ := wth_r (lo := 0) (hi := 99) (by omega) (by omega) (lStr X j + pulE T (tP0 T) (tP1 T) X j)
          exact ⟨a, a2, a3⟩
      refine b_X12_dayGoes_30 hg (by omega) k00 XX _ _ _ _ ⟨_, by rw [r1.i1, x1.n], fun _ => e3 (tN_ T) 0 R1 _ (by omega) x2 (l2.le (puX_n o2)) ?_, fun q => absurd (nle_nI (by omega) (by omega) q) (by omega)⟩
      rw [← hQ]
      exact LE.refl _ _ _
    | succ j ih =>
      intro i R1 hi x1 hp
      have r1 := hR.put R1
      have hin : i < tN_ T := by omega
      have nxt : ∀ R2, TX T b (puX T X (i + 1)) R0 R2 → ra R2 18 = ra R1 18 → VB g K 3 d 0 0 (fun r h2 => r = none ∧ ∃ R', h2 = pR h B R' ∧ TX T b Q R0 R') noT 0 0 80 [some (.ref B), some (.int (nI b)), some (.int (nI i))] [] (pR h B R2) := by
        intro R2 x2 p2
        refine b_X12_dayGoes_80 hg (by omega) k00 XX _ _ _ _ ?_
        rw [nI_s]
        exact ih (i + 1) R2 (by omega) x2 (fun k hk => by rw [p2]; exact hp k hk)
      have st : lStr (puX T X i) i = lStr X i := by
        show (if i < i then _ else lStr X i) = lStr X i
        rw [if_neg (by omega)]
      refine b_X12_dayGoes_30 hg (by omega) k00 XX _ _ _ _ ⟨_, by rw [r1.i1, x1.n], fun q => absurd (le_nI (by omega) (by omega) q) (by omega), fun _ => ⟨_, r1.o, use_i (d_isGap (d := d - 1) hg (by omega) r1 x1 hin) (by omega) k00 ⟨fun z => ?_, fun z => ⟨_, r1.n40, _, r1.n40, ?_⟩⟩⟩⟩
      · have z' : lSm X i = 0 := gp_y rfl z
        have := puX_s (X := X) hin
        rw [if_pos z'] at this
        exact nxt R1 (x1.le this) rfl
      · have z' : ¬ lSm X i = 0 := gp_n rfl z
        have := puX_s (X := X) hin
        rw [if_neg z'] at this
        rw [show nI b + (1 : Int32) + nI i = nI (b + 1 + i) from ix3 b 1 i]
        refine ⟨_, r1.r14 (by omega), _, r1.n45, _, r1.r18 (by omega), use_i (d_bounded (d := d - 1) hg (by omega) _ _ _) (by omega) k00 ⟨_, r1.u14 (by omega), ?_⟩⟩
        rw [hR.pp, x1.rw_.st hin, st, hp i hin, bnd_wth (by decide)]
        refine nxt _ ((x1.uStr hin).le this) (ra_sAn (by decide))
  -- the pull is reckoned
  have e1 : ∀ (j i : Nat) (R1 : RefV), i + j = tN_ T → TX T b X R0 R1 → (∀ k, k < i → ra R1 18 k = pulV T X k) → VB g K 3 d 0 0 (fun r h2 => r = none ∧ ∃ R', h2 = pR h B R' ∧ TX T b Q R0 R') noT 0 0 2 [some (.ref B), some (.int (nI b)), some (.int (nI i))] [] (pR h B R1) := by
    intro j
    induction j with
    | zero =>
      intro i R1 hi x1 hp
      have r1 := hR.put R1
      refine b_X12_dayGoes_2 hg (by omega) k00 XX _ _ _ _ ⟨_, by rw [r1.i1, x1.n], fun _ => e2 (tN_ T) 0 R1 (by omega) (by rw [puX_0]; exact x1) (fun k hk => hp k (by omega)), fun q => absurd (nle_nI (by omega) (by omega) q) (by omega)⟩
    | succ j ih =>
      intro i R1 hi x1 hp
      have r1 := hR.put R1
      refine b_X12_dayGoes_2 hg (by omega) k00 XX _ _ _ _ ⟨_, by rw [r1.i1, x1.n], fun q => absurd (le_nI (by omega) (by omega) q) (by omega), fun _ => ⟨_, r1.n45, _, r1.o, use_iR (d_pullsOf (d := d - 1) hg (by omega) r1 x1 (k := i) (by omega)) (by omega) k00 ?_⟩⟩
      rintro R2 ⟨x2, p2⟩
      rw [hR.pp]
      have r2 := hR.put R2
      refine ⟨_, r2.u18 (by omega), ?_⟩
      rw [hR.pp, nI_s]
      refine ih (i + 1) _ (by omega) (x2.sc (c := 18) (by omega)) (fun k hk => ?_)
      rw [ra_sA]
      by_cases e : k = i
      · subst e; rw [pk_us]; rfl
      · rw [pk_un e, p2]; exact hp k (by omega)
  refine b_X12_dayGoes_0 hg (by omega) k00 XX _ _ _ ?_
  have := e1 (tN_ T) 0 R (by omega) hX (fun k hk => by omega)
  rw [hR.id] at this
  exact this
/-- what a trial rests on -/
def TD (T : ToldV) : Prop := SkOK T ∧ ¬ tWk T ≤ 0
theorem d_daysGo {m : Nat} (hg : GOK g) (hd : 15 ≤ d) (hR : RA h B R) (hX : TX T 49 X R0 R) (hL : LOK (tN_ T) (tW T) X) (hT : TD T) (hm : m < 1000) : CT g d yX12_daysGo (wsC yX12_daysGo cX12_daysGo 3 none) [.ref B, .int (nI m)] h 0 0 (fun r h2 => r = none ∧ ∃ R', h2 = pR h B R' ∧ TX T 49 (daysT T m X) R0 R') noT := by
  obtain ⟨o1, o2, o3⟩ := hX.tok
  refine CT_ofB (by decide +kernel) (Nat.le_of_ble_eq_true rfl) rfl fun K XX => ?_
  refine b_X12_daysGo_0 hg (by omega) k00 XX _ _ _ ?_
  have loop : ∀ (j i : Nat) (R1 : RefV) (Y : LandV), i + j = m → TX T 49 Y R0 R1 → LOK (tN_ T) (tW T) Y → daysT T j Y = daysT T m X → VB g K 3 d 0 0 (fun r h2 => r = none ∧ ∃ R', h2 = pR h B R' ∧ TX T 49 (daysT T m X) R0 R') noT 0 0 2 [some (.ref B), some (.int (nI m)), some (.int (nI i))] [] (pR h B R1) := by
    intro j
    induction j with
    | zero =>
      intro i R1 Y hi x1 l1 he
      have he' : Y = daysT T m X := he
      exact b_X12_daysGo_2 hg (by omega) k00 XX _ _ _ _ ⟨fun _ => ⟨rfl, R1, rfl, by rw [← he']; exact x1⟩, fun q => absurd (nle_nI (by omega) (by omega) q) (by omega)⟩
    | succ j ih =>
      intro i R1 Y hi x1 l1 he
      have r1 := hR.put R1
      refine b_X12_daysGo_2 hg (by omega) k00 XX _ _ _ _ ⟨fun q => absurd (le_nI (by omega) (by omega) q) (by omega), fun _ => ⟨_, r1.o, use_vR (d_dayGoes (b := 49) (d := d - 1) hg (by omega) r1 x1 l1 hT.1 hT.2) (by omega) k00 ?_⟩⟩
      intro R2 x2
      rw [hR.pp, nI_s]
      exact ih (i + 1) R2 _ (by omega) x2 (l1.day o2 (by omega) hT.1) he
  have := loop m 0 R X (by omega) hX hL rfl
  rw [hR.id] at this
  exact this
/-- the rows at 49 are as those at 0 -/
theorem d_tries {T : ToldV} {X : LandV} {R0 R : RefV} (hg : GOK g) (hd : 8 ≤ d) (hR : RA h B R) (hX : TX T 0 X R0 R) : CT g d yX12_tries (wsC yX12_tries cX12_tries 2 none) [.ref B] h 0 0 (fun r h2 => r = none ∧ ∃ f, h2 = pR h B (sA R 14 f) ∧ (∀ i, i < 49 → f i = ra R 14 i ∧ f (49 + i) = ra R 14 i)) noT := by
  refine CT_ofB (by decide +kernel) (Nat.le_of_ble_eq_true rfl) rfl fun K XX => ?_
  refine b_X12_tries_0 hg (by omega) k00 XX _ _ ?_
  have loop : ∀ (j i : Nat) (f : AF), i + j = 49 → (∀ k, k < 49 → f k = ra R 14 k) → (∀ k, k < i → f (49 + k) = ra R 14 k) → VB g K 2 d 0 0 (fun r h2 => r = none ∧ ∃ f, h2 = pR h B (sA R 14 f) ∧ (∀ i, i < 49 → f i = ra R 14 i ∧ f (49 + i) = ra R 14 i)) noT 0 0 2 [some (.ref B), some (.int (nI i))] [] (pR h B (sA R 14 f)) := by
    intro j
    induction j with
    | zero =>
      intro i f hi h1 h2
      exact b_X12_tries_2 hg (by omega) k00 XX _ _ _ ⟨fun _ => ⟨rfl, f, rfl, fun k hk => ⟨h1 k hk, h2 k (by omega)⟩⟩, fun q => absurd (nle_nI (x := 49) (by omega) (by omega) q) (by omega)⟩
    | succ j ih =>
      intro i f hi h1 h2
      have r1 := hR.put (sA R 14 f)
      refine b_X12_tries_2 hg (by omega) k00 XX _ _ _ ⟨fun q => absurd (le_nI (x := 49) (by omega) (by omega) q) (by omega), fun _ => ⟨_, r1.n40, _, r1.n40, _, r1.r14 (by omega), ?_⟩⟩
      rw [show (49 : Int32) + nI i = nI (49 + i) from nI_add 49 i]
      refine ⟨_, r1.u14 (by omega), ?_⟩
      rw [hR.pp, nI_s, ra_sA]
      have en : sA (sA R 14 f) 14 (upd f (49 + i) (f i)) = sA R 14 (upd f (49 + i) (f i)) := by
        unfold sA
        refine Prod.ext rfl (Prod.ext rfl (funext fun c => ?_))
        show updA (updA R.2.2 14 f) 14 _ c = updA R.2.2 14 _ c
        unfold updA
        by_cases e : c = 14
        · rw [if_pos e, if_pos e]
        · rw [if_neg e, if_neg e, if_neg e]
      rw [en]
      refine ih (i + 1) _ (by omega) (fun k hk => by rw [pk_un (by omega)]; exact h1 k hk) (fun k hk => ?_)
      by_cases e : k = i
      · subst e; rw [pk_us]; exact h1 k (by omega)
      · rw [pk_un (by omega)]; exact h2 k (by omega)
  have e0 : sA R 14 (ra R 14) = R := by
    unfold sA
    refine Prod.ext rfl (Prod.ext rfl (funext fun c => ?_))
    show updA R.2.2 14 (R.2.2 14) c = R.2.2 c
    unfold updA
    by_cases e : c = 14
    · rw [if_pos e, e]
    · rw [if_neg e]
  have := loop 49 0 (ra R 14) (by omega) (fun _ _ => rfl) (fun k hk => by omega)
  rw [e0, hR.id] at this
  exact this
end RU
