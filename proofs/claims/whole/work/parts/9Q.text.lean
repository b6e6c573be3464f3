/-! THE CLASS: rules' lines, the text -/
section TXL
variable {g : GG} {h : Hp} {A d tx len td ld st n0 m : Nat} {q : Int32 × Int32} {t : TkV} {f : AF} {T : ToldV} {L : LandV}
theorem TA.gF (c : TA h td T) : gI h (td + 8) 6 0 = some (tFr T).1 := by unfold gI; rw [c.o8]; rfl
theorem TA.gP (c : TA h td T) : gI h (td + 9) 6 0 = some (tPl T).1 := by unfold gI; rw [c.o9]; rfl
theorem c_readRuleF (hg : GOK g) (hO : GOW g) (hd : 140 ≤ d) (w : RdW h A tx len td ld f q t T L) (k : TkAt f len st t) (hst : st < len) (e : tCl T = nI n0) (hn : n0 ≤ st) : CT g d yX5_readRule (wsC yX5_readRule cX5_readRule 2 (some .boolean)) [.ref A, .ref (td + 8)] h 0 0 (LnW A tx len td ld f q (lnF f len st n0 T L) h) noT := by
  refine CT_ofB (by decide +kernel) (Nat.le_of_ble_eq_true rfl) rfl fun K X => ?_
  refine b_X5_readRule_0 hg (by omega) k00 X _ _ _ ⟨_, w.ta.gF, fun y => ⟨_, w.rd.g4, _, w.ta.o, use_v (c_beginF (d := d - 1) hg (by omega) w.ta) (by omega) k00 ?_⟩, fun y => ⟨_, w.rd.o, u_fail hg w k 5 (by omega) k00 fun h1 w1 o1 => ⟨Or.inl rfl, o1, ?_⟩⟩⟩
  · rw [lnF, if_pos y]
    intro h1 e1
    rw [e1]
    obtain ⟨w1, o1⟩ := w.pt (zFr T (1, tCl T, tCl T))
    have hal := adv_lt (f := f) hst
    refine ⟨_, w1.rd.o, u_take hg w1 k (by omega) k00 fun h2 t2 w2 o2 k2 => ⟨_, w2.rd.o, u_call (c_readExpr (d := d - 1) (n := 41) (dp := 0) (n0 := n0) hg (by omega) (fun _ => c_readRank hg hO 41 0 0 (d - 1 - 1) (by omega) (by omega) (by omega) (by omega)) (by omega) w2 k2 e (by omega)) (by omega) k00 fun v h3 p => ?_⟩⟩
    obtain ⟨o3, p⟩ := p
    rw [exP, if_pos (by decide)] at p
    cases hp : pX f len 41 0 0 (adv f len st) with
    | inr b =>
      rw [hp] at p
      obtain ⟨p1, t3, T3, w3⟩ := p
      exact ⟨0, p1, fun z => absurd rfl z, fun _ => ⟨Or.inl rfl, (o1.trans o2).trans o3, rfl, _, _, _, w3⟩⟩
    | inl b =>
      rw [hp] at p
      obtain ⟨p1, t3, w3, k3⟩ := p
      refine ⟨1, p1, fun _ => ⟨_, w3.rd.g4, _, w3.ta.o, use_v (c_endF (d := d - 1) hg (by omega) w3.ta) (by omega) k00 ?_⟩, fun z => absurd z (by decide)⟩
      intro h4 e4
      rw [e4]
      obtain ⟨w4, o4⟩ := w3.pt (enF (apL (zFr T (1, tCl T, tCl T)) n0 b.2))
      exact ⟨_, w4.rd.o, u_semi hg w4 k3 (((o1.trans o2).trans o3).trans o4) (by omega) k00 fun v h8 hv p => ⟨hv, p⟩⟩
  · rw [lnF, if_neg y]
    exact ⟨rfl, _, _, _, w1⟩
theorem c_readRuleP (hg : GOK g) (hO : GOW g) (hd : 140 ≤ d) (w : RdW h A tx len td ld f q t T L) (k : TkAt f len st t) (hst : st < len) (e : tCl T = nI n0) (hn : n0 ≤ st) : CT g d yX5_readRule (wsC yX5_readRule cX5_readRule 2 (some .boolean)) [.ref A, .ref (td + 9)] h 0 0 (LnW A tx len td ld f q (lnP f len st n0 T L) h) noT := by
  refine CT_ofB (by decide +kernel) (Nat.le_of_ble_eq_true rfl) rfl fun K X => ?_
  refine b_X5_readRule_0 hg (by omega) k00 X _ _ _ ⟨_, w.ta.gP, fun y => ⟨_, w.rd.g4, _, w.ta.o, use_v (c_beginP (d := d - 1) hg (by omega) w.ta) (by omega) k00 ?_⟩, fun y => ⟨_, w.rd.o, u_fail hg w k 5 (by omega) k00 fun h1 w1 o1 => ⟨Or.inl rfl, o1, ?_⟩⟩⟩
  · rw [lnP, if_pos y]
    intro h1 e1
    rw [e1]
    obtain ⟨w1, o1⟩ := w.pt (zPl T (1, tCl T, tCl T))
    have hal := adv_lt (f := f) hst
    refine ⟨_, w1.rd.o, u_take hg w1 k (by omega) k00 fun h2 t2 w2 o2 k2 => ⟨_, w2.rd.o, u_call (c_readExpr (d := d - 1) (n := 41) (dp := 0) (n0 := n0) hg (by omega) (fun _ => c_readRank hg hO 41 0 0 (d - 1 - 1) (by omega) (by omega) (by omega) (by omega)) (by omega) w2 k2 e (by omega)) (by omega) k00 fun v h3 p => ?_⟩⟩
    obtain ⟨o3, p⟩ := p
    rw [exP, if_pos (by decide)] at p
    cases hp : pX f len 41 0 0 (adv f len st) with
    | inr b =>
      rw [hp] at p
      obtain ⟨p1, t3, T3, w3⟩ := p
      exact ⟨0, p1, fun z => absurd rfl z, fun _ => ⟨Or.inl rfl, (o1.trans o2).trans o3, rfl, _, _, _, w3⟩⟩
    | inl b =>
      rw [hp] at p
      obtain ⟨p1, t3, w3, k3⟩ := p
      refine ⟨1, p1, fun _ => ⟨_, w3.rd.g4, _, w3.ta.o, use_v (c_endP (d := d - 1) hg (by omega) w3.ta) (by omega) k00 ?_⟩, fun z => absurd z (by decide)⟩
      intro h4 e4
      rw [e4]
      obtain ⟨w4, o4⟩ := w3.pt (enP (apL (zPl T (1, tCl T, tCl T)) n0 b.2))
      exact ⟨_, w4.rd.o, u_semi hg w4 k3 (((o1.trans o2).trans o3).trans o4) (by omega) k00 fun v h8 hv p => ⟨hv, p⟩⟩
  · rw [lnP, if_neg y]
    exact ⟨rfl, _, _, _, w1⟩
theorem LnW.b {p : LR} {v : Option Value} {h2 : Hp} (l : LnW A tx len td ld f q p h v h2) : ∃ x, v = some (.int x) ∧ isB x ∧ LnW A tx len td ld f q p h (some (.int x)) h2 := by
  obtain ⟨o, l⟩ := l
  cases p with
  | inl z => exact ⟨1, l.1, Or.inr rfl, o, rfl, l.2⟩
  | inr e => exact ⟨0, l.1, Or.inl rfl, o, rfl, l.2⟩
theorem u_line {D kc ks mc ms d1 : Nat} {Pt : String → Hp → Prop} {y : MethodName} {ws : List Cond} {al : List Value} {p : LR} {Z : Nat → Nat → Int32 → Hp → Prop} (hc : CT g d1 y ws al h 0 0 (LnW A tx len td ld f q p h) noT) (hd : d1 + 1 ≤ D) (hk : kc ≤ mc ∧ ks ≤ ms) (hz : ∀ x h1, isB x → LnW A tx len td ld f q p h (some (.int x)) h1 → Z 0 0 x h1) :
    ∃ d1 P1 E1 m1 n1, CT g d1 y ws al h m1 n1 P1 E1 ∧ (d1 + 1 ≤ D ∧ kc + m1 ≤ mc ∧ ks + n1 ≤ ms) ∧ (∀ E h', E1 E h' → Pt E h') ∧ (∀ v h1, P1 v h1 → ∃ x, v = some (.int x) ∧ Z m1 n1 x h1) :=
  u_call hc hd hk (fun v h1 l => by obtain ⟨x, x1, x2, x3⟩ := l.b; exact ⟨x, x1, hz x h1 x2 x3⟩)
theorem c_readLine (hg : GOK g) (hO : GOW g) (hd : 142 ≤ d) (w : RdW h A tx len td ld f q t T L) (k : TkAt f len st t) (e : tCl T = nI n0) (hn : n0 ≤ st) (hN : tN_ T ≤ 12) (hW : tW T ≤ 6) (hm : m ≤ 8) (em : (tK T).1 = nI m) : CT g d yX5_readLine (wsC yX5_readLine cX5_readLine 1 (some .boolean)) [.ref A] h 0 0 (LnW A tx len td ld f q (lnA f len st m n0 T L) h) noT := by
  refine CT_ofB (by decide +kernel) (Nat.le_of_ble_eq_true rfl) rfl fun K X => ?_
  unfold lnA
  refine b_X5_readLine_0 hg (by omega) k00 X _ _ ⟨_, w.rd.o, u_word hg hO w k 0 (by decide) (by omega) k00 (fun y0 => ⟨fun z => absurd z (by decide), fun _ => ⟨_, w.rd.o, ?_⟩⟩) (fun y0 => ⟨fun _ => ⟨_, w.rd.o, u_word hg hO w k 1 (by decide) (by omega) k00 (fun y1 => ⟨fun z => absurd z (by decide), fun _ => ⟨_, w.rd.o, ?_⟩⟩) (fun y1 => ⟨fun _ => ⟨_, w.rd.o, u_word hg hO w k 2 (by decide) (by omega) k00 (fun y2 => ⟨fun z => absurd z (by decide), fun _ => ⟨_, w.rd.o, ?_⟩⟩) (fun y2 => ⟨fun _ => ⟨_, w.rd.o, u_word hg hO w k 3 (by decide) (by omega) k00 (fun y3 => ⟨fun z => absurd z (by decide), fun _ => ⟨_, w.rd.o, ?_⟩⟩) (fun y3 => ⟨fun _ => ⟨_, w.rd.o, u_word hg hO w k 4 (by decide) (by omega) k00 (fun y4 => ⟨fun z => absurd z (by decide), fun _ => ⟨_, w.rd.g4, _, w.ta.g7, _, w.rd.o, ?_⟩⟩) (fun y4 => ⟨fun _ => ⟨_, w.rd.o, u_word hg hO w k 5 (by decide) (by omega) k00 (fun y5 => ⟨fun z => absurd z (by decide), fun _ => ⟨_, w.rd.g4, _, w.ta.g8, _, w.rd.o, ?_⟩⟩) (fun y5 => ⟨fun _ => ⟨_, w.rd.o, u_fail hg w k 1 (by omega) k00 fun h1 w1 o1 => ⟨Or.inl rfl, o1, ?_⟩⟩, fun z => absurd rfl z⟩)⟩, fun z => absurd rfl z⟩)⟩, fun z => absurd rfl z⟩)⟩, fun z => absurd rfl z⟩)⟩, fun z => absurd rfl z⟩)⟩, fun z => absurd rfl z⟩)⟩
  · rw [y0]
    exact u_line (c_readStretch (d := d - 1) hg (by omega) w k hN) (by omega) k00 fun x h1 hx l => ⟨hx, l⟩
  · rw [y0, y1]
    exact u_line (c_readWoman (d := d - 1) hg (by omega) w k hW) (by omega) k00 fun x h1 hx l => ⟨hx, l⟩
  · rw [y0, y1, y2]
    exact u_line (c_readKnots (d := d - 1) hg (by omega) w k hm em) (by omega) k00 fun x h1 hx l => ⟨hx, l⟩
  · rw [y0, y1, y2, y3]
    exact u_line (c_readWeek (d := d - 1) hg (by omega) w k) (by omega) k00 fun x h1 hx l => ⟨hx, l⟩
  · rw [y0, y1, y2, y3, y4]
    exact u_line (c_readRuleF (d := d - 1) hg hO (by omega) w k (wdP_lt y4) e hn) (by omega) k00 fun x h1 hx l => ⟨hx, l⟩
  · rw [y0, y1, y2, y3, y4, y5]
    exact u_line (c_readRuleP (d := d - 1) hg hO (by omega) w k (wdP_lt y5) e hn) (by omega) k00 fun x h1 hx l => ⟨hx, l⟩
  · rw [y0, y1, y2, y3, y4, y5]
    exact ⟨rfl, _, _, _, w1⟩
end TXL
