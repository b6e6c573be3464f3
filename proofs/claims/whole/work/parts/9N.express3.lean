/-! THE REFERENCE: a rule read, whole -/
section REZ
variable {g : GG} {h : Hp} {B d len st : Nat} {R R0 : RefV} {f : AF} {S : MaS} {K : KX} {X : PR} {out0 : List Int32}
/-- from the head, behind the words -/
theorem ex_head (XX : CB g K cX12_expression 3 yX12_expression none []) (hg : GOK g) (hd : 16 ≤ d) (hR : RA h B R0) (q : MS f len R0 S R) (n12 : ¬ kwP f len (mSt S) = 12) (n13 : ¬ kwP f len (mSt S) = 13)
    (y127 : (sgP f len (mSt S) 60 = true ∨ sgP f len (mSt S) 61 = true) → VB g K 3 d 0 0 (EpR f len R0 out0 h B X) noT 0 0 127 [some (.ref B), some (.int 1), none] [] (pR h B R))
    (y186 : sgP f len (mSt S) 60 = false → sgP f len (mSt S) 61 = false → VB g K 3 d 0 0 (EpR f len R0 out0 h B X) noT 0 0 186 [some (.ref B), some (.int 1), none] [] (pR h B R)) : VB g K 3 d 0 0 (EpR f len R0 out0 h B X) noT 0 0 29 [some (.ref B), some (.int 1), none] [] (pR h B R) := by
  have r1 := hR.put R
  have kl := kw_le (f := f) (len := len) (st := mSt S)
  refine b_X12_expression_29 hg (by omega) k00 XX _ _ _ ⟨fun z => absurd z (by decide), fun _ => ⟨_, r1.o, u_good hg r1 (by omega) k00 (fun _ => ⟨fun z => absurd z (by decide), fun _ => ⟨_, r1.o, use_i (d_knownWord (d := d - 1) hg (by omega) r1 q.tk q.l7.2) (by omega) k00 ⟨fun z => absurd ((kwI_eq (j := 12) kl (by decide)).mp z) n12, fun _ => ⟨fun _ => ⟨_, r1.o, u_rSign hg r1 q.tp q.tk 60 (by omega) k00 (fun z => ⟨fun _ => y127 (Or.inl z), fun e => absurd e (by decide)⟩) (fun z => ⟨fun e => absurd rfl e, fun _ => ⟨_, r1.o, u_rSign hg r1 q.tp q.tk 61 (by omega) k00 (fun z2 => ⟨fun e => absurd e (by decide), fun _ => y127 (Or.inr z2)⟩) (fun z2 => ⟨fun _ => y186 z z2, fun e => absurd rfl e⟩)⟩⟩)⟩, fun z => absurd ((kwI_eq (j := 13) kl (by decide)).mp z) n13⟩⟩⟩⟩) (fun z => absurd q.gd z)⟩⟩
theorem ex_mac1 (XX : CB g K cX12_expression 3 yX12_expression none []) (hg : GOK g) (hd : 16 ≤ d) (hR : RA h B R0) (r : Nat) (hr : r ≤ 4) (hj : ¬ jtP f len r (mSt S) = 0) (ht : r = 2 → mTe S (mDp S) = false) (hO : OG f len (exG g K d f len R0 out0 h B X) (exF X) (decide (r ≤ 1)) (jnS f len r S)) : exG g K d f len R0 out0 h B X S := by
  intro R q
  have r1 := hR.put R
  obtain ⟨b1, b2, b3⟩ := q.bd
  obtain ⟨l1, l2⟩ := q.l7
  have kl := kw_le (f := f) (len := len) (st := mSt S)
  have c1 : (mOut S).length + (mWs S).length ≤ 1400 := by omega
  have c2 : (mWs S).length ≤ 950 := by omega
  -- words
  have word : ∀ (k : Nat), kwP f len (mSt S) = k → k = 12 ∨ k = 13 → VB g K 3 d 0 0 (EpR f len R0 out0 h B X) noT 0 0 57 [some (.ref B), some (.int 1), some (.int (nI k))] [] (pR h B R) → VB g K 3 d 0 0 (EpR f len R0 out0 h B X) noT 0 0 29 [some (.ref B), some (.int 1), none] [] (pR h B R) := by
    intro k ek hk hv
    have eI : kwI (kwP f len (mSt S)) = nI k := (kwI_eq kl (by omega)).mpr ek
    refine b_X12_expression_29 hg (by omega) k00 XX _ _ _ ⟨fun z => absurd z (by decide), fun _ => ⟨_, r1.o, u_good hg r1 (by omega) k00 (fun _ => ⟨fun z => absurd z (by decide), fun _ => ⟨_, r1.o, use_i (d_knownWord (d := d - 1) hg (by omega) r1 q.tk q.l7.2) (by omega) k00 ?_⟩⟩) (fun z => absurd q.gd z)⟩⟩
    rw [eI]
    refine ⟨fun _ => hv, fun z => ⟨fun z2 => ?_, fun _ => hv⟩⟩
    rcases hk with e | e
    · exact absurd (by rw [e]; rfl) z
    · exact absurd (by rw [e]; rfl) z2
  match r, hr with
  | 0, _ =>
    have ej : jtP f len 0 (mSt S) = if wdP f len (mSt S) 6 then -8 else 0 := rfl
    have y : wdP f len (mSt S) 6 = true := by
      cases e : wdP f len (mSt S) 6 with
      | true => rfl
      | false => rw [ej, e] at hj; exact absurd rfl hj
    rw [y] at ej
    refine word 13 ((kw_iff (k := 13) (by decide)).mpr y) (Or.inr rfl) ?_
    refine b_X12_expression_57 hg (by omega) k00 XX _ _ _ _ ⟨fun _ => b_X12_expression_69 hg (by omega) k00 XX _ _ _ _ _ _ ⟨_, r1.o, use_vR (d_drops (d := d - 1) (lv := lvR 0) hg (by omega) r1 (by decide) (mWs S) (mOut S) q.sk c1 c2) (by omega) k00 ?_⟩, fun z => absurd z (by decide)⟩
    rintro R2 ⟨xs, sk⟩
    rw [hR.pp]
    exact ⟨fun _ => ex_84 XX hg hd hR (r := 0) (by decide) q hj hO xs sk (by rw [ej]; decide), fun z => absurd z (by decide)⟩
  | 1, _ =>
    have ej : jtP f len 1 (mSt S) = if wdP f len (mSt S) 7 then -9 else 0 := rfl
    have y : wdP f len (mSt S) 7 = true := by
      cases e : wdP f len (mSt S) 7 with
      | true => rfl
      | false => rw [ej, e] at hj; exact absurd rfl hj
    rw [y] at ej
    refine word 12 ((kw_iff (k := 12) (by decide)).mpr y) (Or.inl rfl) ?_
    refine b_X12_expression_57 hg (by omega) k00 XX _ _ _ _ ⟨fun z => absurd rfl z, fun _ => b_X12_expression_69 hg (by omega) k00 XX _ _ _ _ _ _ ⟨_, r1.o, use_vR (d_drops (d := d - 1) (lv := lvR 1) hg (by omega) r1 (by decide) (mWs S) (mOut S) q.sk c1 c2) (by omega) k00 ?_⟩⟩
    rintro R2 ⟨xs, sk⟩
    rw [hR.pp]
    exact ⟨fun z => absurd rfl z, fun _ => ex_84 XX hg hd hR (r := 1) (by decide) q hj hO xs sk (by rw [ej]; decide)⟩
  | 2, _ =>
    have ej : jtP f len 2 (mSt S) = if sgP f len (mSt S) 60 then -10 else if sgP f len (mSt S) 61 then -11 else 0 := rfl
    have y : sgP f len (mSt S) 60 = true ∨ sgP f len (mSt S) 61 = true := by
      cases e : sgP f len (mSt S) 60 with
      | true => exact Or.inl rfl
      | false =>
        cases e2 : sgP f len (mSt S) 61 with
        | true => exact Or.inr rfl
        | false => rw [ej, e, e2] at hj; exact absurd rfl hj
    have e15 : kwP f len (mSt S) = 15 := y.elim sg_kw sg_kw
    have t0 := q.te (mDp S) (by omega) (Nat.le_refl _)
    rw [ht rfl] at t0
    refine ex_head XX hg hd hR q (by omega) (by omega) (fun _ => ?_) (fun z1 z2 => by rcases y with y | y; rw [y] at z1; cases z1; rw [y] at z2; cases z2)
    refine b_X12_expression_127 hg (by omega) k00 XX _ _ _ ⟨_, r1.n39, _, by rw [r1.i32, q.dp], _, r1.r13 (by omega), fun z => absurd (by rw [t0]; rfl) z, fun _ => ⟨_, r1.o, use_vR (d_drops (d := d - 1) (lv := lvR 2) hg (by omega) r1 (by decide) (mWs S) (mOut S) q.sk c1 c2) (by omega) k00 ?_⟩⟩
    rintro R2 ⟨xs, sk⟩
    rw [hR.pp]
    have r2 := hR.put R2
    refine ⟨_, r2.o, u_rSign hg r2 (q.tp.xf xs.xf) (xs.tk q.tk) 60 (by omega) k00 (fun z => ⟨fun e => absurd e (by decide), fun _ => ?_⟩) (fun z => ⟨fun _ => ?_, fun e => absurd rfl e⟩)⟩
    · exact ex_161 XX hg hd hR q hj hO xs sk (by rw [ej, z, if_pos rfl]; decide)
    · exact ex_161 XX hg hd hR q hj hO xs sk (by rw [ej, z, show sgP f len (mSt S) 61 = true from y.elim (fun e => by rw [z] at e; cases e) id]; decide)
  | 3, _ =>
    have ej : jtP f len 3 (mSt S) = if sgP f len (mSt S) 43 then -12 else if sgP f len (mSt S) 45 then -13 else 0 := rfl
    have y : sgP f len (mSt S) 43 = true ∨ sgP f len (mSt S) 45 = true := by
      cases e : sgP f len (mSt S) 43 with
      | true => exact Or.inl rfl
      | false =>
        cases e2 : sgP f len (mSt S) 45 with
        | true => exact Or.inr rfl
        | false => rw [ej, e, e2] at hj; exact absurd rfl hj
    have e15 : kwP f len (mSt S) = 15 := y.elim sg_kw sg_kw
    have n60 : sgP f len (mSt S) 60 = false := y.elim (fun e => sg_no e (by decide)) (fun e => sg_no e (by decide))
    have n61 : sgP f len (mSt S) 61 = false := y.elim (fun e => sg_no e (by decide)) (fun e => sg_no e (by decide))
    have b204 : VB g K 3 d 0 0 (EpR f len R0 out0 h B X) noT 0 0 204 [some (.ref B), some (.int 1), none] [] (pR h B R) := by
      refine b_X12_expression_204 hg (by omega) k00 XX _ _ _ ⟨_, r1.o, use_vR (d_drops (d := d - 1) (lv := lvR 3) hg (by omega) r1 (by decide) (mWs S) (mOut S) q.sk c1 c2) (by omega) k00 ?_⟩
      rintro R2 ⟨xs, sk⟩
      rw [hR.pp]
      have r2 := hR.put R2
      refine ⟨_, r2.o, u_rSign hg r2 (q.tp.xf xs.xf) (xs.tk q.tk) 43 (by omega) k00 (fun z => ⟨fun e => absurd e (by decide), fun _ => ?_⟩) (fun z => ⟨fun _ => ?_, fun e => absurd rfl e⟩)⟩
      · exact ex_pl XX hg hd hR (r := 3) (Or.inl rfl) q hj hO xs sk (by rw [ej, z, if_pos rfl]; decide)
      · exact ex_pl XX hg hd hR (r := 3) (Or.inl rfl) q hj hO xs sk (by rw [ej, z, show sgP f len (mSt S) 45 = true from y.elim (fun e => by rw [z] at e; cases e) id]; decide)
    refine ex_head XX hg hd hR q (by omega) (by omega) (fun z => by rcases z with z | z; rw [n60] at z; cases z; rw [n61] at z; cases z) (fun _ _ => ?_)
    refine b_X12_expression_186 hg (by omega) k00 XX _ _ _ ⟨_, r1.o, u_rSign hg r1 q.tp q.tk 43 (by omega) k00 (fun z => ⟨fun _ => b204, fun e => absurd e (by decide)⟩) (fun z => ⟨fun e => absurd rfl e, fun _ => ⟨_, r1.o, u_rSign hg r1 q.tp q.tk 45 (by omega) k00 (fun z2 => ⟨fun e => absurd e (by decide), fun _ => b204⟩) (fun z2 => ?_)⟩⟩)⟩
    exact absurd y (by rw [z, z2]; decide)
  | 4, _ =>
    have ej : jtP f len 4 (mSt S) = if sgP f len (mSt S) 42 then -14 else if sgP f len (mSt S) 47 then -15 else 0 := rfl
    have y : sgP f len (mSt S) 42 = true ∨ sgP f len (mSt S) 47 = true := by
      cases e : sgP f len (mSt S) 42 with
      | true => exact Or.inl rfl
      | false =>
        cases e2 : sgP f len (mSt S) 47 with
        | true => exact Or.inr rfl
        | false => rw [ej, e, e2] at hj; exact absurd rfl hj
    have e15 : kwP f len (mSt S) = 15 := y.elim sg_kw sg_kw
    have no : ∀ v : Int32, ¬ 42 = v → ¬ 47 = v → sgP f len (mSt S) v = false := fun v v1 v2 => y.elim (fun e => sg_no e v1) (fun e => sg_no e v2)
    have b259 : VB g K 3 d 0 0 (EpR f len R0 out0 h B X) noT 0 0 259 [some (.ref B), some (.int 1), none] [] (pR h B R) := by
      refine b_X12_expression_259 hg (by omega) k00 XX _ _ _ ⟨_, r1.o, use_vR (d_drops (d := d - 1) (lv := lvR 4) hg (by omega) r1 (by decide) (mWs S) (mOut S) q.sk c1 c2) (by omega) k00 ?_⟩
      rintro R2 ⟨xs, sk⟩
      rw [hR.pp]
      have r2 := hR.put R2
      refine ⟨_, r2.o, u_rSign hg r2 (q.tp.xf xs.xf) (xs.tk q.tk) 42 (by omega) k00 (fun z => ⟨fun e => absurd e (by decide), fun _ => ?_⟩) (fun z => ⟨fun _ => ?_, fun e => absurd rfl e⟩)⟩
      · exact ex_pl XX hg hd hR (r := 4) (Or.inr rfl) q hj hO xs sk (by rw [ej, z, if_pos rfl]; decide)
      · exact ex_pl XX hg hd hR (r := 4) (Or.inr rfl) q hj hO xs sk (by rw [ej, z, show sgP f len (mSt S) 47 = true from y.elim (fun e => by rw [z] at e; cases e) id]; decide)
    refine ex_head XX hg hd hR q (by omega) (by omega) (fun z => by rcases z with z | z; rw [no 60 (by decide) (by decide)] at z; cases z; rw [no 61 (by decide) (by decide)] at z; cases z) (fun _ _ => ?_)
    refine b_X12_expression_186 hg (by omega) k00 XX _ _ _ ⟨_, r1.o, u_rSign hg r1 q.tp q.tk 43 (by omega) k00 (fun z => by rw [no 43 (by decide) (by decide)] at z; cases z) (fun _ => ⟨fun e => absurd rfl e, fun _ => ⟨_, r1.o, u_rSign hg r1 q.tp q.tk 45 (by omega) k00 (fun z => by rw [no 45 (by decide) (by decide)] at z; cases z) (fun _ => ⟨fun _ => ⟨_, r1.o, u_rSign hg r1 q.tp q.tk 42 (by omega) k00 (fun z => ⟨fun _ => b259, fun e => absurd e (by decide)⟩) (fun z => ⟨fun e => absurd rfl e, fun _ => ⟨_, r1.o, u_rSign hg r1 q.tp q.tk 47 (by omega) k00 (fun z2 => ⟨fun e => absurd e (by decide), fun _ => b259⟩) (fun z2 => absurd y (by rw [z, z2]; decide))⟩⟩)⟩, fun e => absurd rfl e⟩)⟩⟩)⟩
/-- nothing more is joined -/
theorem ex_186 (XX : CB g K cX12_expression 3 yX12_expression none []) (hg : GOK g) (hd : 16 ≤ d) (hR : RA h B R0) (q : MS f len R0 S R) (hs : ∀ r, r ≤ 4 → jtP f len r (mSt S) = 0 ∨ (r = 2 ∧ mTe S (mDp S) = true))
    (k41 : (sgP f len (mSt S) 41 = true ∧ OpS (mWs S)) → ∀ {Z : Nat → Nat → Hp → Prop}, (∀ h1, VB g K 3 d 0 0 (EpR f len R0 out0 h B X) noT 0 0 29 [some (.ref B), some (.int 1), none] [] h1 → Z 0 0 h1) → ∃ d1 P1 E1 m1 n1, CT g d1 yX12_closes (wsC yX12_closes cX12_closes 1 none) [.ref B] (pR h B R) m1 n1 P1 E1 ∧ (d1 + 1 ≤ d ∧ 0 + m1 ≤ 0 ∧ 0 + n1 ≤ 0) ∧ (∀ E h', E1 E h' → noT E h') ∧ (∀ v h1, P1 v h1 → v = none ∧ Z m1 n1 h1))
    (k320 : ¬ (sgP f len (mSt S) 41 = true ∧ OpS (mWs S)) → VB g K 3 d 0 0 (EpR f len R0 out0 h B X) noT 0 0 320 [some (.ref B), none, none] [] (pR h B R)) : VB g K 3 d 0 0 (EpR f len R0 out0 h B X) noT 0 0 29 [some (.ref B), some (.int 1), none] [] (pR h B R) := by
  have r1 := hR.put R
  obtain ⟨b1, b2, b3⟩ := q.bd
  obtain ⟨l1, l2⟩ := q.l7
  have n12 : ¬ kwP f len (mSt S) = 12 := fun e => by
    have := (kw_iff (k := 12) (by decide)).mp e
    have z := (hs 1 (by decide)).resolve_right (fun e => absurd e.1 (by decide))
    unfold jtP at z
    rw [if_neg (by decide), if_pos rfl, show wdP f len (mSt S) 7 = true from this] at z
    exact absurd z (by decide)
  have n13 : ¬ kwP f len (mSt S) = 13 := fun e => by
    have := (kw_iff (k := 13) (by decide)).mp e
    have z := (hs 0 (by decide)).resolve_right (fun e => absurd e.1 (by decide))
    unfold jtP at z
    rw [if_pos rfl, show wdP f len (mSt S) 6 = true from this] at z
    exact absurd z (by decide)
  have n3 : sgP f len (mSt S) 43 = false ∧ sgP f len (mSt S) 45 = false := by
    have z := (hs 3 (by decide)).resolve_right (fun e => absurd e.1 (by decide))
    unfold jtP at z
    rw [if_neg (by decide), if_neg (by decide), if_neg (by decide), if_pos rfl] at z
    cases e : sgP f len (mSt S) 43 with
    | true => rw [e, if_pos rfl] at z; exact absurd z (by decide)
    | false =>
      cases e2 : sgP f len (mSt S) 45 with
      | true => rw [e, e2] at z; exact absurd z (by decide)
      | false => exact ⟨rfl, rfl⟩
  have n4 : sgP f len (mSt S) 42 = false ∧ sgP f len (mSt S) 47 = false := by
    have z := (hs 4 (by decide)).resolve_right (fun e => absurd e.1 (by decide))
    unfold jtP at z
    rw [if_neg (by decide), if_neg (by decide), if_neg (by decide), if_neg (by decide)] at z
    cases e : sgP f len (mSt S) 42 with
    | true => rw [e, if_pos rfl] at z; exact absurd z (by decide)
    | false =>
      cases e2 : sgP f len (mSt S) 47 with
      | true => rw [e, e2] at z; exact absurd z (by decide)
      | false => exact ⟨rfl, rfl⟩
  have b186 : VB g K 3 d 0 0 (EpR f len R0 out0 h B X) noT 0 0 186 [some (.ref B), some (.int 1), none] [] (pR h B R) := by
    refine b_X12_expression_186 hg (by omega) k00 XX _ _ _ ⟨_, r1.o, u_rSign hg r1 q.tp q.tk 43 (by omega) k00 (fun z => by rw [n3.1] at z; cases z) (fun _ => ⟨fun e => absurd rfl e, fun _ => ⟨_, r1.o, u_rSign hg r1 q.tp q.tk 45 (by omega) k00 (fun z => by rw [n3.2] at z; cases z) (fun _ => ⟨fun _ => ⟨_, r1.o, u_rSign hg r1 q.tp q.tk 42 (by omega) k00 (fun z => by rw [n4.1] at z; cases z) (fun _ => ⟨fun e => absurd rfl e, fun _ => ⟨_, r1.o, u_rSign hg r1 q.tp q.tk 47 (by omega) k00 (fun z => by rw [n4.2] at z; cases z) (fun _ => ⟨fun _ => ⟨_, r1.o, u_rSign hg r1 q.tp q.tk 41 (by omega) k00 (fun z => ⟨fun e => absurd e (by decide), fun _ => ⟨_, r1.o, ?_⟩⟩) (fun z => ⟨fun _ => k320 (fun e => by rw [z] at e; cases e.1), fun e => absurd rfl e⟩)⟩, fun e => absurd rfl e⟩)⟩⟩)⟩, fun e => absurd rfl e⟩)⟩⟩)⟩
    by_cases ho : OpS (mWs S)
    · refine use_i (d_isOpened (d := d - 1) hg (by omega) r1 q.sk.2.2.1 q.sk.2.2.2 (by omega) true ⟨fun _ => ho, fun _ => rfl⟩) (by omega) k00 ⟨fun e => absurd e (by decide), fun _ => ⟨_, r1.o, ?_⟩⟩
      exact k41 ⟨z, ho⟩ (fun h1 hz => b_X12_expression_322 hg (by omega) k00 XX _ _ _ hz)
    · refine use_i (d_isOpened (d := d - 1) hg (by omega) r1 q.sk.2.2.1 q.sk.2.2.2 (by omega) false ⟨fun e => (by cases e), fun e => absurd e ho⟩) (by omega) k00 ⟨fun _ => k320 (fun e => ho e.2), fun e => absurd rfl e⟩
  refine ex_head XX hg hd hR q n12 n13 (fun z => ?_) (fun _ _ => b186)
  rcases hs 2 (by decide) with e | ⟨_, e⟩
  · exfalso
    unfold jtP at e
    rw [if_neg (by decide), if_neg (by decide), if_pos rfl] at e
    rcases z with z | z
    · rw [z, if_pos rfl] at e; exact absurd e (by decide)
    · rw [z] at e
      cases e60 : sgP f len (mSt S) 60 with
      | true => rw [e60] at e; exact absurd e (by decide)
      | false => rw [e60] at e; exact absurd e (by decide)
  · have t1 := q.te (mDp S) (by omega) (Nat.le_refl _)
    rw [e] at t1
    exact b_X12_expression_127 hg (by omega) k00 XX _ _ _ ⟨_, r1.n39, _, by rw [r1.i32, q.dp], _, r1.r13 (by omega), fun _ => b186, fun z => by rw [t1] at z; exact absurd z (by decide)⟩
theorem ex_mac (XX : CB g K cX12_expression 3 yX12_expression none []) (hg : GOK g) (hd : 16 ≤ d) (hR : RA h B R0) : MaC f len (exG g K d f len R0 out0 h B X) (exF X) := by
  refine ⟨fun S r hr hj ht hO => ex_mac1 XX hg hd hR r hr hj ht hO, fun S hc ho h2 hG R q => ?_, fun S hs h2 hF R q => ?_⟩
  · have r1 := hR.put R
    have nj : ∀ r, r ≤ 4 → jtP f len r (mSt S) = 0 := by
      intro r hr
      have w : ∀ k, wdP f len (mSt S) k = false := fun k => by rw [wdP, (sgP_k hc).1]; rfl
      have s : ∀ v : Int32, ¬ 41 = v → sgP f len (mSt S) v = false := fun v hv => sg_no hc hv
      unfold jtP
      rw [w, w, s 60 (by decide), s 61 (by decide), s 43 (by decide), s 45 (by decide), s 42 (by decide), s 47 (by decide)]
      simp
    refine ex_186 XX hg hd hR q (fun r hr => Or.inl (nj r hr)) (fun _ {Z} hz => ?_) (fun e => absurd ⟨hc, ho⟩ e)
    refine use_vR (d_closes (d := d - 1) hg (by omega) r1 q ho hc h2) (by omega) k00 ?_
    intro R2 q2
    rw [hR.pp]
    exact hz _ (hG R2 q2)
  · have r1 := hR.put R
    refine ex_186 XX hg hd hR q hs.1 (fun e => absurd e hs.2) (fun _ => ?_)
    refine b_X12_expression_320 hg (by omega) k00 XX _ _ (b_X12_expression_322 hg (by omega) k00 XX _ _ _ (b_X12_expression_29 hg (by omega) k00 XX _ _ _ ⟨fun _ => ?_, fun z => absurd rfl z⟩))
    refine b_X12_expression_325 hg (by omega) k00 XX _ _ ⟨_, r1.o, u_good hg r1 (by omega) k00 (fun _ => ⟨fun z => absurd z (by decide), fun _ => ⟨_, by rw [r1.i32, q.dp], fun z => ?_, fun _ => ⟨_, r1.o, use_v (d_wrong (d := d - 1) hg (by omega) r1 q.gd 1) (by omega) k00 ?_⟩⟩⟩) (fun z => absurd q.gd z)⟩
    · have := q.bd.2.2
      exact absurd (le_nI (y := 1) (by omega) (by omega) z) (by omega)
    · intro h3 e3
      rw [e3, hR.pp]
      exact ex_345 XX hg hd hR _ _ (q.mf (by decide)) hF
end REZ
