/-! THE READER: rules, by their ranks -/
def apL (T : ToldV) (n : Nat) : List Int32 → ToldV
  | [] => T
  | v :: c => apL (apT T n v) (n + 1) c
theorem apL_app : ∀ (c d : List Int32) (T : ToldV) (n : Nat), apL T n (c ++ d) = apL (apL T n c) (n + c.length) d := by
  intro c
  induction c with
  | nil => intro d T n; rfl
  | cons v c ih =>
    intro d T n
    rw [List.cons_append, apL, ih, apL, List.length_cons, show n + 1 + c.length = n + (c.length + 1) by omega]
theorem apL_cl : ∀ (c : List Int32) (T : ToldV) (n : Nat), tCl T = nI n → tCl (apL T n c) = nI (n + c.length) := by
  intro c
  induction c with
  | nil => intro T n h; exact h
  | cons v c ih =>
    intro T n h
    rw [apL, ih (apT T n v) (n + 1) rfl, List.length_cons, show n + 1 + c.length = n + (c.length + 1) by omega]
def XpW (A tx len td ld : Nat) (f : AF) (q : Int32 × Int32) (T : ToldV) (L : LandV) (n0 : Nat) (p : PR) (h : Hp) (r : Option Value) (h2 : Hp) : Prop := OutW A td ld h h2 ∧ match p with
  | .inl z => r = some (.int 1) ∧ ∃ t', RdW h2 A tx len td ld f q t' (apL T n0 z.2) L ∧ TkAt f len z.1 t'
  | .inr e => r = some (.int 0) ∧ ∃ t' T', RdW h2 A tx len td ld f (e.1, nI e.2) t' T' L
def RRk (g : GG) (A tx len td ld : Nat) (f : AF) (q : Int32 × Int32) (L : LandV) (n rank dp d : Nat) : Prop := ∀ (h : Hp) (t : TkV) (T : ToldV) (n0 st : Nat), RdW h A tx len td ld f q t T L → TkAt f len st t → tCl T = nI n0 → n0 ≤ st → CT g d yX5_readRank (wsC yX5_readRank cX5_readRank 7 (some .boolean)) [.ref A, .int (nI rank), .int (nI dp)] h 0 0 (XpW A tx len td ld f q T L n0 (pX f len n rank dp st) h) noT
/-- an EXPR at this depth -/
def exP (f : AF) (len n dp st : Nat) : PR := if dp < 6 then pX f len n 0 dp st else .inr (dpP f len st, st)
section RKS
variable {g : GG} {h : Hp} {A d D tx len td ld st n n0 k kc ks mc ms dp : Nat} {q : Int32 × Int32} {t : TkV} {f : AF} {T : ToldV} {L : LandV} {Pt : String → Hp → Prop}
/-- a call that answers by P -/
theorem u_call {y : MethodName} {ws : List Cond} {al : List Value} {P : Option Value → Hp → Prop} {Z : Nat → Nat → Int32 → Hp → Prop} (hc : CT g d y ws al h 0 0 P noT) (hd : d + 1 ≤ D) (hk : kc ≤ mc ∧ ks ≤ ms) (hz : ∀ v h1, P v h1 → ∃ x, v = some (.int x) ∧ Z 0 0 x h1) :
    ∃ d1 P1 E1 m1 n1, CT g d1 y ws al h m1 n1 P1 E1 ∧ (d1 + 1 ≤ D ∧ kc + m1 ≤ mc ∧ ks + n1 ≤ ms) ∧ (∀ E h', E1 E h' → Pt E h') ∧ (∀ v h1, P1 v h1 → ∃ x, v = some (.int x) ∧ Z m1 n1 x h1) :=
  ⟨d, _, _, 0, 0, hc, ⟨hd, hk.1, hk.2⟩, fun _ _ q => q.elim, hz⟩
theorem c_readExpr (hg : GOK g) (hd : 11 ≤ d) (hR : dp < 6 → RRk g A tx len td ld f q L n 0 dp (d - 1)) (hdp : dp ≤ 6) (w : RdW h A tx len td ld f q t T L) (k : TkAt f len st t) (e : tCl T = nI n0) (hn : n0 ≤ st) : CT g d yX5_readExpr (wsC yX5_readExpr cX5_readExpr 2 (some .boolean)) [.ref A, .int (nI dp)] h 0 0 (XpW A tx len td ld f q T L n0 (exP f len n dp st) h) noT := by
  refine CT_ofB (by decide +kernel) (Nat.le_of_ble_eq_true rfl) rfl fun K X => ?_
  have ek : t.2.1 = kdE f len st := k.2.2.1
  refine b_X5_readExpr_0 hg (by omega) k00 X _ _ _ ⟨fun y => ⟨_, w.rd.o, u_call (hR (lt_nI (y := 6) (by omega) (by omega) y) h t T n0 st w k e hn) (by omega) k00 fun v h1 p => ?_⟩, fun y => ?_⟩
  · have y' := lt_nI (y := 6) (by omega) (by omega) y
    rw [exP, if_pos y']
    obtain ⟨o, p⟩ := p
    cases hp : pX f len n 0 dp st with
    | inl z => rw [hp] at p; exact ⟨1, p.1, Or.inr rfl, o, rfl, p.2⟩
    | inr z => rw [hp] at p; exact ⟨0, p.1, Or.inl rfl, o, rfl, p.2⟩
  · have y' : ¬ dp < 6 := fun z => y (nI_lt (b := 6) z (by decide))
    rw [exP, if_neg y']
    have fl : ∀ v, v = dpP f len st → VB g K 2 d 0 0 (XpW A tx len td ld f q T L n0 (.inr (dpP f len st, st)) h) noT 0 0 37 [none, none] [.int v, .ref A] h := by
      intro v hv
      subst hv
      exact b_X5_readExpr_37 hg (by omega) k00 X _ _ _ ⟨_, w.rd.o, u_fail hg w k _ (by omega) k00 fun h1 w1 o1 => ⟨Or.inl rfl, o1, rfl, _, _, w1⟩⟩
    have f2 : (kdE f len st = 2 ∨ kdE f len st = 1 ∨ sgP f len st 40 = true) → VB g K 2 d 0 0 (XpW A tx len td ld f q T L n0 (.inr (dpP f len st, st)) h) noT 0 0 32 [none, none] [.ref A] h := by
      intro z
      exact b_X5_readExpr_32 hg (by omega) k00 X _ _ (fl 2 (by rw [dpP, if_pos z]))
    refine ⟨_, w.rd.g7, fun z => f2 (Or.inl (by rw [← ek]; exact z)), fun z => ⟨_, w.rd.g7, fun z1 => f2 (Or.inr (Or.inl (by rw [← ek]; exact z1))), fun z1 => ⟨_, w.rd.o, u_sign hg w k 40 (by omega) k00 (fun z2 => ⟨fun e => absurd e (by decide), fun _ => f2 (Or.inr (Or.inr z2))⟩) (fun z2 => ⟨fun _ => fl 1 ?_, fun e => absurd rfl e⟩)⟩⟩⟩
    rw [ek] at z z1
    rw [dpP, if_neg (fun e => e.elim z (fun e => e.elim z1 (fun e => by rw [z2] at e; exact absurd e (by decide))))]
theorem c_readPart (hg : GOK g) (hO : GOW g) (hd : 13 ≤ d) (hR : dp + 1 < 6 → RRk g A tx len td ld f q L n 0 (dp + 1) (d - 2)) (hdp : dp ≤ 5) (w : RdW h A tx len td ld f q t T L) (k : TkAt f len st t) (e : tCl T = nI n0) (hn : n0 ≤ st) : CT g d yX5_readPart (wsC yX5_readPart cX5_readPart 3 (some .boolean)) [.ref A, .int (nI dp)] h 0 0 (XpW A tx len td ld f q T L n0 (pX f len (n + 1) 5 dp st) h) noT := by
  have l7 := w.l7
  have ek : t.2.1 = kdE f len st := k.2.2.1
  have ex : pX f len (n + 1) 5 dp st = if sgP f len st 40 then clP f len (exP f len n (dp + 1) (adv f len st)) else vlP f len st := by
    unfold pX exP
    rw [if_pos (by decide)]
    by_cases y : dp + 1 < 6
    · rw [if_pos y, if_pos y]
    · rw [if_neg y, if_neg y]; rfl
  rw [ex]
  refine CT_ofB (by decide +kernel) (Nat.le_of_ble_eq_true rfl) rfl fun K X => ?_
  refine b_X5_readPart_0 hg hO (by omega) k00 X _ _ _ ⟨_, w.rd.o, u_sign hg w k 40 (by omega) k00 (fun y => ⟨fun e => absurd e (by decide), fun _ => ⟨_, w.rd.o, u_take hg w k (by omega) k00 fun h1 t1 w1 o1 k1 => ?_⟩⟩) (fun y => ⟨fun _ => ?_, fun e => absurd rfl e⟩)⟩
  · rw [y, if_pos rfl, nI_s]
    have hl := adv_lt (f := f) (sgP_k y).2.1
    refine ⟨_, w1.rd.o, u_call (c_readExpr (d := d - 1) (dp := dp + 1) hg (by omega) (fun z => by have := hR z; rw [show d - 1 - 1 = d - 2 by omega]; exact this) (by omega) w1 k1 e (by omega)) (by omega) k00 fun v h2 p => ?_⟩
    obtain ⟨o2, p⟩ := p
    cases hp : exP f len n (dp + 1) (adv f len st) with
    | inr z =>
      rw [hp] at p
      refine ⟨0, p.1, fun _ => ⟨Or.inl rfl, o1.trans o2, rfl, p.2⟩, fun e => absurd rfl e⟩
    | inl z =>
      rw [hp] at p
      obtain ⟨p1, t2, w2, k2⟩ := p
      refine ⟨1, p1, fun e => absurd e (by decide), fun _ => ⟨_, w2.rd.o, u_call (c_passSign (d := d - 1) hg (by omega) w2 k2 41) (by omega) k00 fun v h3 p => ?_⟩⟩
      obtain ⟨o3, p⟩ := p
      rcases p with ⟨p1, p2, t3, w3, k3⟩ | ⟨p1, p2, t3, w3⟩
      · refine ⟨1, p2, fun e => absurd e (by decide), fun _ => ⟨Or.inr rfl, (o1.trans o2).trans o3, ?_⟩⟩
        simp only [clP, p1, if_true]
        exact ⟨trivial, _, w3, k3⟩
      · refine ⟨0, p2, fun _ => ⟨Or.inl rfl, (o1.trans o2).trans o3, ?_⟩, fun e => absurd rfl e⟩
        simp only [clP, p1, Bool.false_eq_true, if_false]
        exact ⟨trivial, _, _, w3⟩
  · rw [y, if_neg (by decide)]
    -- the code appended
    have b134 : ∀ v, vlP f len st = .inl (adv f len st, [v]) → st < len → VB g K 3 d 0 0 (XpW A tx len td ld f q T L n0 (vlP f len st) h) noT 0 0 134 [some (.ref A), none, some (.int v)] [] h := by
      intro v hv hlt
      rw [hv]
      refine b_X5_readPart_134 hg hO (by omega) k00 X _ _ _ ⟨_, w.rd.g4, _, w.ta.o, u_append hg w e (by omega) (by omega) k00 fun h1 w1 o1 => ⟨_, w1.rd.o, u_take hg w1 k (by omega) k00 fun h2 t2 w2 o2 k2 => ⟨Or.inr rfl, o1.trans o2, rfl, t2, w2, k2⟩⟩⟩
    have b82 : (kdE f len st = 1 ∨ (kdE f len st = 2 ∧ nxF f len st - st ≤ 4)) → VB g K 3 d 0 0 (XpW A tx len td ld f q T L n0 (vlP f len st) h) noT 0 0 82 [some (.ref A), none, none] [] h := by
      intro hk
      have hlt : st < len := kdE_lt (f := f) (by rcases hk with z | z; · rw [z]; decide
                                                 · rw [z.1]; decide)
      refine b_X5_readPart_82 hg hO (by omega) k00 X _ _ ⟨_, w.rd.g7, fun z => ?_, fun z => ?_⟩
      · rw [ek] at z
        have k1 : kdE f len st = 1 := hk.elim id (fun e => absurd e.1 z)
        have e1 : t.1 = nxF f len st := k.2.1
        have e3 : t.2.2.1 = st := k.2.2.2.1
        have hn1 := nxF_le (f := f) k.1
        have cw := c_of (d := d - 1) hg hO (by omega) w.xx.1 (show st ≤ nxF f len st by omega) (by omega)
        refine ⟨_, w.rd.g2, _, by rw [w.rd.g8, e3], _, by rw [w.rd.g6, e1], d - 1, _, _, 0, 0, cw, ⟨by omega, Nat.le_refl _, Nat.le_refl _⟩, fun _ _ q => q.elim, ?_⟩
        rintro v h1 ⟨rfl, rfl⟩
        refine ⟨_, rfl, ofW_lt _ _ _, b_X5_readPart_115 hg hO (by omega) k00 X _ _ _ ⟨_, w.rd.g7, fun z2 => absurd (by rw [ek]; exact k1) z2, fun _ => ⟨fun z2 => b134 _ ?_ hlt, fun z2 => ⟨_, w.rd.o, u_fail hg w k 3 (by omega) k00 fun h1 w1 o1 => ?_⟩⟩⟩⟩
        · rw [vlP, if_neg z, if_pos k1, if_neg z2]
        · rw [vlP, if_neg z, if_pos k1, if_pos z2]
          exact ⟨Or.inl rfl, o1, rfl, _, _, w1⟩
      · rw [ek] at z
        have k4 : nxF f len st - st ≤ 4 := hk.elim (fun e => by rw [e] at z; exact absurd z (by decide)) (fun e => e.2)
        have e9 : t.2.2.2.1 = wvF f (min (nxF f len st - st) 4) st 0 := by rw [k.2.2.2.2 z]
        refine ⟨_, by rw [w.rd.g9, e9], b_X5_readPart_115 hg hO (by omega) k00 X _ _ _ ⟨_, w.rd.g7, fun _ => b134 _ ?_ hlt, fun z2 => ?_⟩⟩
        · rw [vlP, if_pos z, if_pos k4]
        · rw [ek, z] at z2; exact absurd z2 (by decide)
    have b60 : (kdE f len st = 1 ∨ kdE f len st = 2) → VB g K 3 d 0 0 (XpW A tx len td ld f q T L n0 (vlP f len st) h) noT 0 0 60 [some (.ref A), none, none] [] h := by
      intro hk
      refine b_X5_readPart_60 hg hO (by omega) k00 X _ _ ⟨_, w.rd.g7, fun z => b82 (Or.inl (hk.elim id (fun e => absurd (by rw [ek]; exact e) z))), fun z => ?_⟩
      rw [ek] at z
      have hn1 := nxF_le (f := f) k.1
      have e10 : t.2.2.2.2 = nI (nxF f len st - st) := by rw [k.2.2.2.2 z]
      refine ⟨_, by rw [w.rd.g10, e10], fun z2 => b82 (Or.inr ⟨z, le_nI (y := 4) (by omega) (by omega) z2⟩), fun z2 => ⟨_, w.rd.o, u_fail hg w k 2 (by omega) k00 fun h1 w1 o1 => ?_⟩⟩
      have z3 := nle_nI (y := 4) (by omega) (by omega) z2
      rw [vlP, if_pos z, if_neg (by omega)]
      exact ⟨Or.inl rfl, o1, rfl, _, _, w1⟩
    refine ⟨_, w.rd.g7, fun z => b60 (Or.inl (by rw [← ek]; exact z)), fun z => ⟨_, w.rd.g7, fun z1 => b60 (Or.inr (by rw [← ek]; exact z1)), fun z1 => ⟨_, w.rd.o, u_fail hg w k 1 (by omega) k00 fun h1 w1 o1 => ?_⟩⟩⟩
    rw [ek] at z z1
    rw [vlP, if_neg z1, if_neg z]
    exact ⟨Or.inl rfl, o1, rfl, _, _, w1⟩
end RKS
section RKT
variable {g : GG} {A tx len td ld : Nat} {q : Int32 × Int32} {f : AF} {L : LandV}
set_option maxHeartbeats 2000000 in
theorem c_readRank (hg : GOK g) (hO : GOW g) : ∀ (n rank dp d : Nat), rank ≤ 5 → dp ≤ 5 → 7 * (5 - dp) + (6 - rank) ≤ n → 3 * n + 14 ≤ d → RRk g A tx len td ld f q L n rank dp d := by
  intro n
  induction n with
  | zero => intro rank dp d h1 h2 h3 h4; omega
  | succ n ih =>
    intro rank dp d h1 h2 h3 h4 h t T n0 st w k e hn
    have l7 := w.l7
    refine CT_ofB (by decide +kernel) (Nat.le_of_ble_eq_true rfl) rfl fun K X => ?_
    by_cases y5 : rank < 5
    · have ex : pX f len (n + 1) rank dp st = if (z2P f len rank st).1 = 6 ∧ wdP f len (z2P f len rank st).2 8 = true then .inr (2, (z2P f len rank st).2) else endP (z2P f len rank st).1 (rsP (pX f len n (rank + 1) dp) f len rank (pX f len n (rank + 1) dp (z2P f len rank st).2)) := by
        rw [pX, if_neg (by omega)]
      rw [ex]
      obtain ⟨z1, z2, z3⟩ := z2P_le (f := f) (rank := rank) k.1
      have ihR := ih (rank + 1) dp (d - 1) (by omega) h2 (by omega) (by omega)
      -- the rest, behind NOTs
      have rest : ∀ (h1 : Hp) (t1 : TkV), ¬ ((z2P f len rank st).1 = 6 ∧ wdP f len (z2P f len rank st).2 8 = true) → RdW h1 A tx len td ld f q t1 T L → TkAt f len (z2P f len rank st).2 t1 → OutW A td ld h h1 → VB g K 7 d 0 0 (XpW A tx len td ld f q T L n0 (if (z2P f len rank st).1 = 6 ∧ wdP f len (z2P f len rank st).2 8 = true then .inr (2, (z2P f len rank st).2) else endP (z2P f len rank st).1 (rsP (pX f len n (rank + 1) dp) f len rank (pX f len n (rank + 1) dp (z2P f len rank st).2))) h) noT 0 0 24 [some (.ref A), some (.int (nI rank)), some (.int (nI dp)), none, none, none, none] [.int (nI (z2P f len rank st).1)] h1 := by
        intro h1 t1 hno w1 k1 o1
        rw [if_neg hno]
        generalize z2P f len rank st = z at *
        -- the NOTs appended
        have nots : ∀ (c : List Int32) (s : Nat) (t2 : TkV) (P : PR), P = .inl (s, c) → TkAt f len s t2 → z.2 + c.length ≤ s → ∀ (j i : Nat) (h2 : Hp), i + j = z.1 → RdW h2 A tx len td ld f q t2 (apL T n0 (c ++ List.replicate i (-7))) L → OutW A td ld h h2 → VB g K 7 d 0 0 (XpW A tx len td ld f q T L n0 (endP z.1 P) h) noT 0 0 119 [some (.ref A), none, none, some (.int (nI z.1)), none, some (.int (nI i)), none] [] h2 := by
          intro c s t2 P hP k2 hc j
          have hs := k2.1
          induction j with
          | zero =>
            intro i h2 hij w2 o2
            refine b_X5_readRank_119 hg (by omega) k00 X _ _ _ _ ⟨fun _ => ⟨Or.inr rfl, o2, ?_⟩, fun y => absurd (nle_nI (by omega) (by omega) y) (by omega)⟩
            rw [hP, show z.1 = i by omega]
            exact ⟨rfl, _, w2, k2⟩
          | succ j ih2 =>
            intro i h2 hij w2 o2
            refine b_X5_readRank_119 hg (by omega) k00 X _ _ _ _ ⟨fun y => absurd (le_nI (by omega) (by omega) y) (by omega), fun _ => ⟨_, w2.rd.g4, _, w2.ta.o, u_append hg w2 (apL_cl _ _ _ e) (by simp only [List.length_append, List.length_replicate]; omega) (by omega) k00 fun h3 w3 o3 => ?_⟩⟩
            rw [nI_s]
            refine ih2 (i + 1) h3 (by omega) ?_ (o2.trans o3)
            rw [List.replicate_succ', ← List.append_assoc, apL_app]
            exact w3
        -- the loop over joints
        have loop : ∀ (most : Nat), most ≤ 700 → ∀ (P : PR) (j i s : Nat) (c : List Int32) (h2 : Hp) (t2 : TkV), i + j = most → RdW h2 A tx len td ld f q t2 (apL T n0 c) L → TkAt f len s t2 → z.2 + c.length ≤ s → OutW A td ld h h2 → lpP (pX f len n (rank + 1) dp) (jtP f len rank) (adv f len) j s c = P → VB g K 7 d 0 0 (XpW A tx len td ld f q T L n0 (endP z.1 P) h) noT 0 0 62 [some (.ref A), some (.int (nI rank)), some (.int (nI dp)), some (.int (nI z.1)), some (.int (nI most)), some (.int (nI i)), none] [] h2 := by
          intro most hm P j
          have fin : ∀ (s : Nat) (c : List Int32) (h2 : Hp) (t2 : TkV), RdW h2 A tx len td ld f q t2 (apL T n0 c) L → TkAt f len s t2 → z.2 + c.length ≤ s → OutW A td ld h h2 → P = .inl (s, c) → VB g K 7 d 0 0 (XpW A tx len td ld f q T L n0 (endP z.1 P) h) noT 0 0 116 [some (.ref A), none, none, some (.int (nI z.1)), none, none, none] [] h2 := by
            intro s c h2 t2 w2 k2 hc o2 hP
            refine b_X5_readRank_116 hg (by omega) k00 X _ _ _ (nots c s t2 P hP k2 hc z.1 0 h2 (by omega) ?_ o2)
            rw [show List.replicate 0 (-7 : Int32) = [] from rfl, List.append_nil]
            exact w2
          induction j with
          | zero =>
            intro i s c h2 t2 hij w2 k2 hc o2 hP
            exact b_X5_readRank_62 hg (by omega) k00 X _ _ _ _ _ _ _ ⟨fun _ => fin s c h2 t2 w2 k2 hc o2 hP.symm, fun y => absurd (nle_nI (by omega) (by omega) y) (by omega)⟩
          | succ j ih2 =>
            intro i s c h2 t2 hij w2 k2 hc o2 hP
            rw [lpP] at hP
            have hs := k2.1
            refine b_X5_readRank_62 hg (by omega) k00 X _ _ _ _ _ _ _ ⟨fun y => absurd (le_nI (by omega) (by omega) y) (by omega), fun _ => ⟨_, w2.rd.o, use_i (c_joint (d := d - 1) hg hO (by omega) w2 k2 (by omega)) (by omega) k00 ⟨fun y => ?_, fun y => ⟨_, w2.rd.o, use_i (c_joint (d := d - 1) hg hO (by omega) w2 k2 (by omega)) (by omega) k00 ⟨_, w2.rd.o, u_take hg w2 k2 (by omega) k00 fun h3 t3 w3 o3 k3 => ?_⟩⟩⟩⟩⟩
            · rw [if_pos y] at hP
              exact fin s c h2 t2 w2 k2 hc o2 hP.symm
            · rw [if_neg y] at hP
              rw [nI_s]
              have hlt := adv_lt (f := f) (jtP_lt y)
              have hl2 := pX_len (f := f) n (rank + 1) dp (adv f len s) k3.1
              refine ⟨_, w3.rd.o, u_call (ihR h3 t3 _ (n0 + c.length) _ w3 k3 (apL_cl _ _ _ e) (by omega)) (by omega) k00 fun v h4 p => ?_⟩
              obtain ⟨o4, p⟩ := p
              cases hp : pX f len n (rank + 1) dp (adv f len s) with
              | inr b =>
                rw [hp] at p hP
                obtain ⟨p1, t4, T4, w4⟩ := p
                refine ⟨0, p1, fun e => absurd rfl e, fun _ => ⟨Or.inl rfl, (o2.trans o3).trans o4, ?_⟩⟩
                rw [← hP]
                exact ⟨rfl, _, _, w4⟩
              | inl b =>
                rw [hp] at p hP hl2
                obtain ⟨p1, t4, w4, k4⟩ := p
                have hl3 : adv f len s + b.2.length ≤ b.1 ∧ b.1 ≤ len := hl2
                rw [← apL_app] at w4
                refine ⟨1, p1, fun _ => ⟨_, w4.rd.g4, _, w4.ta.o, u_append hg w4 (apL_cl _ _ _ e) (by simp only [List.length_append]; omega) (by omega) k00 fun h5 w5 o5 => ?_⟩, fun e => absurd e (by decide)⟩
                rw [nI_s]
                refine ih2 (i + 1) b.1 _ h5 t4 (by omega) ?_ k4 ?_ (((o2.trans o3).trans o4).trans o5) hP
                · rw [apL_app (c ++ b.2)]
                  exact w5
                · simp only [List.length_append, List.length_cons, List.length_nil]
                  omega
        refine b_X5_readRank_24 hg (by omega) k00 X _ _ _ _ _ ⟨fun y => absurd (lt_nI (x := 6) (by omega) (by omega) y) (by omega), fun _ => ⟨_, w1.rd.o, ?_⟩⟩
        rw [nI_s]
        have hl2 := pX_len (f := f) n (rank + 1) dp z.2 k1.1
        refine u_call (ihR h1 t1 T n0 _ w1 k1 e (by omega)) (by omega) k00 fun v h2 p => ?_
        obtain ⟨o2, p⟩ := p
        cases hp : pX f len n (rank + 1) dp z.2 with
        | inr b =>
          rw [hp] at p
          obtain ⟨p1, t4, T4, w4⟩ := p
          exact ⟨0, p1, fun e => absurd rfl e, fun _ => ⟨Or.inl rfl, o1.trans o2, rfl, _, _, w4⟩⟩
        | inl b =>
          rw [hp] at p hl2
          obtain ⟨p1, t2, w2, k2⟩ := p
          have hl3 : z.2 + b.2.length ≤ b.1 ∧ b.1 ≤ len := hl2
          refine ⟨1, p1, fun _ => ⟨fun y => ⟨_, w2.rd.g3, b_X5_readRank_57 hg (by omega) k00 X _ _ _ _ _ _ (loop len l7 _ len 0 b.1 b.2 h2 t2 (by omega) w2 k2 hl3.1 (o1.trans o2) ?_)⟩, fun y => b_X5_readRank_57 hg (by omega) k00 X _ _ _ _ _ _ (loop 1 (by omega) _ 1 0 b.1 b.2 h2 t2 (by omega) w2 k2 hl3.1 (o1.trans o2) ?_)⟩, fun e => absurd e (by decide)⟩
          · have y' : ¬ rank = 2 := fun z => y (by rw [z]; rfl)
            simp only [rsP, if_neg y']
          · have y' : rank = 2 := (nI_eq (b := 2) (by omega) (by omega)).mp y
            simp only [rsP, if_pos y']
      refine b_X5_readRank_0 hg (by omega) k00 X _ _ _ _ ⟨fun _ => ⟨fun y => ?_, fun y => ⟨_, w.rd.o, u_call (c_passNots (d := d - 1) hg hO (by omega) w k) (by omega) k00 fun v h1 p => ?_⟩⟩, fun y => absurd (nI_lt (b := 5) y5 (by decide)) y⟩
      · have y' : ¬ rank = 2 := fun z => y (by rw [z]; rfl)
        have ez : z2P f len rank st = (0, st) := by rw [z2P, if_neg y']
        have := rest h t (by rw [ez]; intro z; have z6 : (0 : Nat) = 6 := z.1; omega) w (by rw [ez]; exact k) OutW.refl
        have e0 : nI (z2P f len rank st).1 = 0 := by rw [ez]; rfl
        rw [e0] at this
        exact this
      · have y' : rank = 2 := (nI_eq (b := 2) (by omega) (by omega)).mp y
        have ez : z2P f len rank st = ntP f len 6 st := by rw [z2P, if_pos y']
        rw [← ez] at p
        obtain ⟨o1, p⟩ := p
        rcases p with ⟨p1, p2, p3, t1, w1⟩ | ⟨p1, p2, t1, w1, k1⟩
        · refine ⟨7, p3, b_X5_readRank_24 hg (by omega) k00 X _ _ _ _ _ ⟨fun _ => ⟨Or.inl rfl, o1, ?_⟩, fun y => absurd (by decide) y⟩⟩
          rw [if_pos ⟨p1, p2⟩]
          exact ⟨rfl, _, _, w1⟩
        · exact ⟨_, p2, rest h1 t1 p1 w1 k1 o1⟩
    · have hr : rank = 5 := by omega
      subst hr
      refine b_X5_readRank_0 hg (by omega) k00 X _ _ _ _ ⟨fun y => absurd (lt_nI (y := 5) (by omega) (by omega) y) y5, fun _ => ⟨_, w.rd.o, u_call (c_readPart (d := d - 1) (n := n) hg hO (by omega) (fun z => ih 0 (dp + 1) (d - 1 - 2) (by omega) (by omega) (by omega) (by omega)) h2 w k e hn) (by omega) k00 fun v h1 p => ?_⟩⟩
      obtain ⟨o, p⟩ := p
      cases hp : pX f len (n + 1) 5 dp st with
      | inl z => rw [hp] at p; exact ⟨1, p.1, Or.inr rfl, o, rfl, p.2⟩
      | inr z => rw [hp] at p; exact ⟨0, p.1, Or.inl rfl, o, rfl, p.2⟩
end RKT
