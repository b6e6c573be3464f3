/-! THE CLASS: lines, by places -/
abbrev LR : Type := (Nat × ToldV × LandV) ⊕ (Int32 × Nat)
def vaP (f : AF) (len st : Nat) : Int32 := wvF f (min (nxF f len st - st) 4) st 0
/-- what is wrong with the number there: 0 nothing, 1 there is none, 2 it is too much -/
def nbP (f : AF) (len : Nat) (lo hi : Int32) (st : Nat) : Int32 := if kdE f len st = 2 then (if 4 < nxF f len st - st ∨ vaP f len st < lo ∨ ¬ vaP f len st ≤ hi then 2 else 0) else 1
def nbK (f : AF) (len : Nat) (lo hi : Int32) (st : Nat) (k : LR) : LR := if nbP f len lo hi st = 0 then k else .inr (nbP f len lo hi st, st)
def smK (f : AF) (len st : Nat) (T : ToldV) (L : LandV) : LR := if sgP f len st 59 then .inl (adv f len st, T, L) else .inr (1, st)
abbrev ad1 (f : AF) (len st : Nat) : Nat := adv f len st
abbrev ad2 (f : AF) (len st : Nat) : Nat := adv f len (adv f len st)
abbrev ad3 (f : AF) (len st : Nat) : Nat := adv f len (adv f len (adv f len st))
abbrev ad4 (f : AF) (len st : Nat) : Nat := adv f len (adv f len (adv f len (adv f len st)))
def lnS (f : AF) (len st : Nat) (T : ToldV) (L : LandV) : LR := if tN_ T < 12 then
    nbK f len 0 99 (ad1 f len st) (nbK f len 0 99 (ad2 f len st) (nbK f len 0 2 (ad3 f len st) (smK f len (ad4 f len st) (zN_ T (tN_ T + 1)) (sSt (sSm (sStr L (tN_ T) (vaP f len (ad1 f len st))) (tN_ T) (vaP f len (ad2 f len st))) (tN_ T) (vaP f len (ad3 f len st))))))
  else .inr (2, st)
def lnW (f : AF) (len st : Nat) (T : ToldV) (L : LandV) : LR := if tW T < 6 then
    nbK f len 0 9 (ad1 f len st) (nbK f len 0 9999 (ad2 f len st) (if vaP f len (ad2 f len st) < nI (tN_ T) then (nbK f len 0 99 (ad3 f len st) (smK f len (ad4 f len st) (zW (zSk T (upd (tSk T) (tW T) (vaP f len (ad1 f len st)))) (tW T + 1)) (sTh (sAt L (tW T) (vaP f len (ad2 f len st))) (tW T) (vaP f len (ad3 f len st))))) else .inr (3, ad2 f len st)))
  else .inr (2, st)
/-- knots, one after the other; m are tied -/
def knP (f : AF) (len : Nat) : Nat → Nat → Nat → ToldV → LandV → LR
  | 0, st, _, T, L => smK f len st T L
  | j + 1, st, m, T, L => if kdE f len st = 2 then (if 4 < nxF f len st - st ∨ ¬ m < 8 then .inr (2, st) else if hasB (tK T) m (vaP f len st) (nI (nxF f len st - st)) then .inr (4, st) else knP f len j (adv f len st) (m + 1) (zK T (nI (m + 1), upd (tK T).2.1 m (vaP f len st), upd (tK T).2.2.1 m (nI (nxF f len st - st)), (tK T).2.2.2)) L) else smK f len st T L
def lnK (f : AF) (len st m : Nat) (T : ToldV) (L : LandV) : LR := if tKg T = 0 then (if kdE f len (adv f len st) = 2 then knP f len 9 (adv f len st) m (zKg T 1) L else .inr (1, adv f len st)) else .inr (5, st)
def lnD (f : AF) (len st : Nat) (T : ToldV) (L : LandV) : LR := if tWg T = 0 then nbK f len 1 9 (adv f len st) (smK f len (ad2 f len st) (zWk (zWg T 1) (vaP f len (adv f len st))) L) else .inr (5, st)
def enF (T : ToldV) : ToldV := zFr T ((tFr T).1, (tFr T).2.1, tCl T)
def enP (T : ToldV) : ToldV := zPl T ((tPl T).1, (tPl T).2.1, tCl T)
def xpK (f : AF) (len : Nat) (p : PR) (k : List Int32 → ToldV) (L : LandV) : LR := match p with
  | .inr e => .inr e
  | .inl r => smK f len r.1 (k r.2) L
def lnF (f : AF) (len st n0 : Nat) (T : ToldV) (L : LandV) : LR := if (tFr T).1 = 0 then xpK f len (pX f len 41 0 0 (adv f len st)) (fun c => enF (apL (zFr T (1, tCl T, tCl T)) n0 c)) L else .inr (5, st)
def lnP (f : AF) (len st n0 : Nat) (T : ToldV) (L : LandV) : LR := if (tPl T).1 = 0 then xpK f len (pX f len 41 0 0 (adv f len st)) (fun c => enP (apL (zPl T (1, tCl T, tCl T)) n0 c)) L else .inr (5, st)
def lnA (f : AF) (len st m n0 : Nat) (T : ToldV) (L : LandV) : LR :=
  if wdP f len st 0 then lnS f len st T L
  else if wdP f len st 1 then lnW f len st T L
  else if wdP f len st 2 then lnK f len st m T L
  else if wdP f len st 3 then lnD f len st T L
  else if wdP f len st 4 then lnF f len st n0 T L
  else if wdP f len st 5 then lnP f len st n0 T L
  else .inr (1, st)
def LnW (A tx len td ld : Nat) (f : AF) (q : Int32 × Int32) (p : LR) (h : Hp) (r : Option Value) (h2 : Hp) : Prop := OutW A td ld h h2 ∧ match p with
  | .inl z => r = some (.int 1) ∧ ∃ t', RdW h2 A tx len td ld f q t' z.2.1 z.2.2 ∧ TkAt f len z.1 t'
  | .inr e => r = some (.int 0) ∧ ∃ t' T' L', RdW h2 A tx len td ld f (e.1, nI e.2) t' T' L'
section LNS
variable {g : GG} {h h0 : Hp} {A d D tx len td ld st n m k kc ks mc ms : Nat} {q : Int32 × Int32} {t : TkV} {f : AF} {T : ToldV} {L : LandV} {Pt : String → Hp → Prop}
theorem nb_ok {lo hi : Int32} (e : nbP f len lo hi st = 0) : kdE f len st = 2 ∧ nxF f len st - st ≤ 4 ∧ ¬ vaP f len st < lo ∧ vaP f len st ≤ hi := by
  unfold nbP at e
  by_cases y : kdE f len st = 2
  · rw [if_pos y] at e
    by_cases z : 4 < nxF f len st - st ∨ vaP f len st < lo ∨ ¬ vaP f len st ≤ hi
    · rw [if_pos z] at e; exact absurd e (by decide)
    · refine ⟨y, ?_, fun w => z (Or.inr (Or.inl w)), Classical.byContradiction fun w => z (Or.inr (Or.inr w))⟩
      exact Nat.le_of_not_lt fun w => z (Or.inl w)
  · rw [if_neg y] at e; exact absurd e (by decide)
theorem TkAt.va (q : TkAt f len st t) (h : kdE f len st = 2) : t.2.2.2.1 = vaP f len st ∧ t.2.2.2.2 = nI (nxF f len st - st) := by
  have := q.2.2.2.2 h
  rw [this]
  exact ⟨rfl, rfl⟩
theorem u_number {Z : Nat → Nat → Int32 → Hp → Prop} (hg : GOK g) (w : RdW h A tx len td ld f q t T L) (k : TkAt f len st t) (lo hi : Int32) (hd : 10 ≤ D) (hk : kc ≤ mc ∧ ks ≤ ms) (yes : nbP f len lo hi st = 0 → Z 0 0 1 h) (no : ∀ h1, ¬ nbP f len lo hi st = 0 → RdW h1 A tx len td ld f (nbP f len lo hi st, nI st) t T L → OutW A td ld h h1 → Z 0 0 0 h1) :
    ∃ d1 P1 E1 m1 n1, CT g d1 yX5_isNumber (wsC yX5_isNumber cX5_isNumber 3 (some .boolean)) [.ref A, .int lo, .int hi] h m1 n1 P1 E1 ∧ (d1 + 1 ≤ D ∧ kc + m1 ≤ mc ∧ ks + n1 ≤ ms) ∧ (∀ E h', E1 E h' → Pt E h') ∧ (∀ v h1, P1 v h1 → ∃ x, v = some (.int x) ∧ Z m1 n1 x h1) := by
  have hc : CT g (D - 1) yX5_isNumber (wsC yX5_isNumber cX5_isNumber 3 (some .boolean)) [.ref A, .int lo, .int hi] h 0 0 (fun r h2 => (nbP f len lo hi st = 0 ∧ r = some (.int 1) ∧ h2 = h) ∨ (¬ nbP f len lo hi st = 0 ∧ r = some (.int 0) ∧ RdW h2 A tx len td ld f (nbP f len lo hi st, nI st) t T L ∧ OutW A td ld h h2)) noT := by
    refine CT_ofB (by decide +kernel) (Nat.le_of_ble_eq_true rfl) rfl fun K X => ?_
    have ek : t.2.1 = kdE f len st := k.2.2.1
    have l7 := w.l7
    have hn := nxF_le (f := f) k.1
    have bad : nbP f len lo hi st = 2 → VB g K 3 (D - 1) 0 0 (fun r h2 => (nbP f len lo hi st = 0 ∧ r = some (.int 1) ∧ h2 = h) ∨ (¬ nbP f len lo hi st = 0 ∧ r = some (.int 0) ∧ RdW h2 A tx len td ld f (nbP f len lo hi st, nI st) t T L ∧ OutW A td ld h h2)) noT 0 0 38 [some (.ref A), none, none] [] h := by
      intro e
      refine b_X5_isNumber_38 hg (by omega) k00 X _ _ ⟨_, w.rd.o, u_fail hg w k 2 (by omega) k00 fun h1 w1 o1 => ⟨fun _ => ⟨Or.inl rfl, Or.inr ⟨by rw [e]; decide, rfl, by rw [e]; exact w1, o1⟩⟩, fun z => absurd rfl z⟩⟩
    refine b_X5_isNumber_0 hg (by omega) k00 X _ _ _ _ ⟨_, w.rd.g7, fun y => ?_, fun y => ⟨_, w.rd.o, u_fail hg w k 1 (by omega) k00 fun h1 w1 o1 => ?_⟩⟩
    · rw [ek] at y
      obtain ⟨e9, e10⟩ := k.va y
      refine ⟨_, by rw [w.rd.g10, e10], fun z => bad ?_, fun z => ⟨_, by rw [w.rd.g9, e9], fun z1 => bad ?_, fun z1 => ⟨_, by rw [w.rd.g9, e9], fun z2 => b_X5_isNumber_46 hg (by omega) k00 X _ ⟨Or.inr rfl, Or.inl ⟨?_, rfl, rfl⟩⟩, fun z2 => bad ?_⟩⟩⟩
      · rw [nbP, if_pos y, if_pos (Or.inl (lt_nI (x := 4) (by omega) (by omega) z))]
      · rw [nbP, if_pos y, if_pos (Or.inr (Or.inl z1))]
      · have z' := nlt_nI (x := 4) (by omega) (by omega) z
        rw [nbP, if_pos y, if_neg (by rintro (e | e | e); omega; exact z1 e; exact e z2)]
      · rw [nbP, if_pos y, if_pos (Or.inr (Or.inr z2))]
    · rw [ek] at y
      have e : nbP f len lo hi st = 1 := by rw [nbP, if_neg y]
      exact ⟨Or.inl rfl, Or.inr ⟨by rw [e]; decide, rfl, by rw [e]; exact w1, o1⟩⟩
  refine ⟨D - 1, _, _, 0, 0, hc, ⟨by omega, hk.1, hk.2⟩, fun _ _ z => z.elim, fun v h1 p => ?_⟩
  rcases p with ⟨p1, p2, p3⟩ | ⟨p1, p2, p3, p4⟩
  · exact ⟨1, p2, by rw [p3]; exact yes p1⟩
  · exact ⟨0, p2, no h1 p1 p3 p4⟩
/-- the sign at a line's end -/
theorem u_semi {Z : Nat → Nat → Int32 → Hp → Prop} (hg : GOK g) (w : RdW h A tx len td ld f q t T L) (k : TkAt f len st t) (o : OutW A td ld h0 h) (hd : 11 ≤ D) (hk : kc ≤ mc ∧ ks ≤ ms) (hz : ∀ v h1, isB v → LnW A tx len td ld f q (smK f len st T L) h0 (some (.int v)) h1 → Z 0 0 v h1) :
    ∃ d1 P1 E1 m1 n1, CT g d1 yX5_passSign (wsC yX5_passSign cX5_passSign 2 (some .boolean)) [.ref A, .int 59] h m1 n1 P1 E1 ∧ (d1 + 1 ≤ D ∧ kc + m1 ≤ mc ∧ ks + n1 ≤ ms) ∧ (∀ E h', E1 E h' → Pt E h') ∧ (∀ v h1, P1 v h1 → ∃ x, v = some (.int x) ∧ Z m1 n1 x h1) := by
  refine u_call (c_passSign (d := D - 1) hg (by omega) w k 59) (by omega) hk fun v h1 p => ?_
  obtain ⟨o1, p⟩ := p
  rcases p with ⟨p1, p2, t3, w3, k3⟩ | ⟨p1, p2, t3, w3⟩
  · refine ⟨1, p2, hz 1 h1 (Or.inr rfl) ⟨o.trans o1, ?_⟩⟩
    rw [smK, if_pos p1]
    exact ⟨rfl, t3, w3, k3⟩
  · refine ⟨0, p2, hz 0 h1 (Or.inl rfl) ⟨o.trans o1, ?_⟩⟩
    rw [smK, if_neg (by rw [p1]; decide)]
    exact ⟨rfl, t3, _, _, w3⟩
theorem c_readStretch (hg : GOK g) (hd : 12 ≤ d) (w : RdW h A tx len td ld f q t T L) (k : TkAt f len st t) (hN : tN_ T ≤ 12) : CT g d yX5_readStretch (wsC yX5_readStretch cX5_readStretch 3 (some .boolean)) [.ref A] h 0 0 (LnW A tx len td ld f q (lnS f len st T L) h) noT := by
  refine CT_ofB (by decide +kernel) (Nat.le_of_ble_eq_true rfl) rfl fun K X => ?_
  refine b_X5_readStretch_0 hg (by omega) k00 X _ _ ⟨_, w.rd.g4, _, w.ta.g0, fun y => ⟨_, w.rd.o, u_take hg w k (by omega) k00 fun h1 t1 w1 o1 k1 => ⟨_, w1.rd.o, ?_⟩⟩, fun y => ⟨_, w.rd.o, u_fail hg w k 2 (by omega) k00 fun h1 w1 o1 => ⟨Or.inl rfl, o1, ?_⟩⟩⟩
  · have y' : tN_ T < 12 := lt_nI (y := 12) (by omega) (by omega) y
    rw [lnS, if_pos y']
    refine u_number hg w1 k1 0 99 (by omega) k00 (fun e1 => ⟨fun _ => ⟨_, by rw [w1.rd.g9, (k1.va (nb_ok e1).1).1], _, w1.rd.o, u_take hg w1 k1 (by omega) k00 fun h2 t2 w2 o2 k2 => ⟨_, w2.rd.o, ?_⟩⟩, fun z => absurd z (by decide)⟩) (fun h2 e1 w2 o2 => ⟨fun z => absurd rfl z, fun _ => ⟨Or.inl rfl, o1.trans o2, by rw [nbK, if_neg e1]; exact ⟨rfl, _, _, _, w2⟩⟩⟩)
    rw [nbK, if_pos e1]
    refine u_number hg w2 k2 0 99 (by omega) k00 (fun e2 => ⟨fun _ => ⟨_, by rw [w2.rd.g9, (k2.va (nb_ok e2).1).1], _, w2.rd.o, u_take hg w2 k2 (by omega) k00 fun h3 t3 w3 o3 k3 => ⟨_, w3.rd.o, ?_⟩⟩, fun z => absurd z (by decide)⟩) (fun h3 e2 w3 o3 => ⟨fun z => absurd rfl z, fun _ => ⟨Or.inl rfl, (o1.trans o2).trans o3, by rw [nbK, if_neg e2]; exact ⟨rfl, _, _, _, w3⟩⟩⟩)
    rw [nbK, if_pos e2]
    refine u_number hg w3 k3 0 2 (by omega) k00 (fun e3 => ⟨fun _ => ⟨_, w3.rd.g5, _, w3.rd.g4, _, w3.ta.g0, _, by rw [w3.rd.g9, (k3.va (nb_ok e3).1).1], _, w3.la.o, use_v (c_putStretch (d := d - 1) hg (by omega) w3.la y' _ _ _) (by omega) k00 ?_⟩, fun z => absurd z (by decide)⟩) (fun h4 e3 w4 o4 => ⟨fun z => absurd rfl z, fun _ => ⟨Or.inl rfl, ((o1.trans o2).trans o3).trans o4, by rw [nbK, if_neg e3]; exact ⟨rfl, _, _, _, w4⟩⟩⟩)
    rw [nbK, if_pos e3]
    intro h4 e4
    rw [e4]
    obtain ⟨w4, o4⟩ := w3.pl (sSt (sSm (sStr L (tN_ T) (vaP f len (ad1 f len st))) (tN_ T) (vaP f len (ad2 f len st))) (tN_ T) (vaP f len (ad3 f len st)))
    refine ⟨_, w4.rd.g4, _, w4.ta.g0, ?_⟩
    rw [nI_s]
    refine ⟨_, w4.ta.z0 _, ?_⟩
    obtain ⟨w5, o5⟩ := w4.pt (zN_ T (tN_ T + 1))
    refine ⟨_, w5.rd.o, u_take hg w5 k3 (by omega) k00 fun h6 t6 w6 o6 k6 => ⟨_, w6.rd.o, u_semi hg w6 k6 (((((o1.trans o2).trans o3).trans o4).trans o5).trans o6) (by omega) k00 fun v h7 hv p => ⟨hv, p⟩⟩⟩
  · have y' : ¬ tN_ T < 12 := fun e => y (nI_lt (b := 12) e (by decide))
    rw [lnS, if_neg y']
    exact ⟨rfl, _, _, _, w1⟩
theorem u_told {Z : Nat → Nat → Int32 → Hp → Prop} (hg : GOK g) (w : RdW h A tx len td ld f q t T L) (k : TkAt f len st t) (hd : 11 ≤ D) (hk : kc ≤ mc ∧ ks ≤ ms) (yes : nbP f len 0 9999 st = 0 → vaP f len st < nI (tN_ T) → Z 0 0 1 h) (no : ∀ h1, ¬ nbP f len 0 9999 st = 0 → RdW h1 A tx len td ld f (nbP f len 0 9999 st, nI st) t T L → OutW A td ld h h1 → Z 0 0 0 h1) (no2 : ∀ h1, nbP f len 0 9999 st = 0 → ¬ vaP f len st < nI (tN_ T) → RdW h1 A tx len td ld f (3, nI st) t T L → OutW A td ld h h1 → Z 0 0 0 h1) :
    ∃ d1 P1 E1 m1 n1, CT g d1 yX5_isStretchTold (wsC yX5_isStretchTold cX5_isStretchTold 1 (some .boolean)) [.ref A] h m1 n1 P1 E1 ∧ (d1 + 1 ≤ D ∧ kc + m1 ≤ mc ∧ ks + n1 ≤ ms) ∧ (∀ E h', E1 E h' → Pt E h') ∧ (∀ v h1, P1 v h1 → ∃ x, v = some (.int x) ∧ Z m1 n1 x h1) := by
  have hc : CT g (D - 1) yX5_isStretchTold (wsC yX5_isStretchTold cX5_isStretchTold 1 (some .boolean)) [.ref A] h 0 0 (fun r h2 => ∃ x, r = some (.int x) ∧ Z 0 0 x h2) noT := by
    refine CT_ofB (by decide +kernel) (Nat.le_of_ble_eq_true rfl) rfl fun K X => ?_
    refine b_X5_isStretchTold_0 hg (by omega) k00 X _ _ ⟨_, w.rd.o, u_number hg w k 0 9999 (by omega) k00 (fun e1 => ⟨fun z => absurd z (by decide), fun _ => ⟨_, by rw [w.rd.g9, (k.va (nb_ok e1).1).1], _, w.rd.g4, _, w.ta.g0, fun y => b_X5_isStretchTold_33 hg (by omega) k00 X _ ⟨Or.inr rfl, 1, rfl, yes e1 y⟩, fun y => ⟨_, w.rd.o, u_fail hg w k 3 (by omega) k00 fun h1 w1 o1 => ⟨fun _ => ⟨Or.inl rfl, 0, rfl, no2 h1 e1 y w1 o1⟩, fun z => absurd rfl z⟩⟩⟩⟩) (fun h1 e1 w1 o1 => ⟨fun _ => ⟨Or.inl rfl, 0, rfl, no h1 e1 w1 o1⟩, fun z => absurd rfl z⟩)⟩
  exact ⟨D - 1, _, _, 0, 0, hc, ⟨by omega, hk.1, hk.2⟩, fun _ _ z => z.elim, fun v h1 p => p⟩
theorem c_readWoman (hg : GOK g) (hd : 13 ≤ d) (w : RdW h A tx len td ld f q t T L) (k : TkAt f len st t) (hW : tW T ≤ 6) : CT g d yX5_readWoman (wsC yX5_readWoman cX5_readWoman 3 (some .boolean)) [.ref A] h 0 0 (LnW A tx len td ld f q (lnW f len st T L) h) noT := by
  refine CT_ofB (by decide +kernel) (Nat.le_of_ble_eq_true rfl) rfl fun K X => ?_
  refine b_X5_readWoman_0 hg (by omega) k00 X _ _ ⟨_, w.rd.g4, _, w.ta.g1, fun y => ⟨_, w.rd.o, u_take hg w k (by omega) k00 fun h1 t1 w1 o1 k1 => ⟨_, w1.rd.o, ?_⟩⟩, fun y => ⟨_, w.rd.o, u_fail hg w k 2 (by omega) k00 fun h1 w1 o1 => ⟨Or.inl rfl, o1, ?_⟩⟩⟩
  · have y' : tW T < 6 := lt_nI (y := 6) (by omega) (by omega) y
    rw [lnW, if_pos y']
    refine u_number hg w1 k1 0 9 (by omega) k00 (fun e1 => ⟨fun _ => ⟨_, by rw [w1.rd.g9, (k1.va (nb_ok e1).1).1], _, w1.rd.o, u_take hg w1 k1 (by omega) k00 fun h2 t2 w2 o2 k2 => ⟨_, w2.rd.o, ?_⟩⟩, fun z => absurd z (by decide)⟩) (fun h2 e1 w2 o2 => ⟨fun z => absurd rfl z, fun _ => ⟨Or.inl rfl, o1.trans o2, by rw [nbK, if_neg e1]; exact ⟨rfl, _, _, _, w2⟩⟩⟩)
    rw [nbK, if_pos e1]
    refine u_told hg w2 k2 (by omega) k00 (fun e2 s2 => ⟨fun _ => ⟨_, by rw [w2.rd.g9, (k2.va (nb_ok e2).1).1], _, w2.rd.o, u_take hg w2 k2 (by omega) k00 fun h3 t3 w3 o3 k3 => ⟨_, w3.rd.o, ?_⟩⟩, fun z => absurd z (by decide)⟩) (fun h3 e2 w3 o3 => ⟨fun z => absurd rfl z, fun _ => ⟨Or.inl rfl, (o1.trans o2).trans o3, by rw [nbK, if_neg e2]; exact ⟨rfl, _, _, _, w3⟩⟩⟩) (fun h3 e2 s2 w3 o3 => ⟨fun z => absurd rfl z, fun _ => ⟨Or.inl rfl, (o1.trans o2).trans o3, by rw [nbK, if_pos e2, if_neg s2]; exact ⟨rfl, _, _, _, w3⟩⟩⟩)
    rw [nbK, if_pos e2, if_pos s2]
    refine u_number hg w3 k3 0 99 (by omega) k00 (fun e3 => ⟨fun _ => ⟨_, w3.rd.g4, _, w3.ta.g5, _, w3.rd.g4, _, w3.ta.g1, _, w3.ta.zs y' _, ?_⟩, fun z => absurd z (by decide)⟩) (fun h4 e3 w4 o4 => ⟨fun z => absurd rfl z, fun _ => ⟨Or.inl rfl, ((o1.trans o2).trans o3).trans o4, by rw [nbK, if_neg e3]; exact ⟨rfl, _, _, _, w4⟩⟩⟩)
    rw [nbK, if_pos e3]
    obtain ⟨w4, o4⟩ := w3.pt (zSk T (upd (tSk T) (tW T) (vaP f len (ad1 f len st))))
    refine ⟨_, w4.rd.g5, _, w4.rd.g4, _, w4.ta.g1, _, by rw [w4.rd.g9, (k3.va (nb_ok e3).1).1], _, w4.la.o, use_v (c_putWoman (d := d - 1) hg (by omega) w4.la y' _ _) (by omega) k00 ?_⟩
    intro h5 e5
    rw [e5]
    obtain ⟨w5, o5⟩ := w4.pl (sTh (sAt L (tW T) (vaP f len (ad2 f len st))) (tW T) (vaP f len (ad3 f len st)))
    refine ⟨_, w5.rd.g4, _, w5.ta.g1, ?_⟩
    rw [show nI (tW (zSk T (upd (tSk T) (tW T) (vaP f len (ad1 f len st))))) + 1 = nI (tW T + 1) from nI_s _]
    refine ⟨_, w5.ta.z1 _, ?_⟩
    obtain ⟨w6, o6⟩ := w5.pt (zW (zSk T (upd (tSk T) (tW T) (vaP f len (ad1 f len st)))) (tW T + 1))
    refine ⟨_, w6.rd.o, u_take hg w6 k3 (by omega) k00 fun h7 t7 w7 o7 k7 => ⟨_, w7.rd.o, u_semi hg w7 k7 ((((((o1.trans o2).trans o3).trans o4).trans o5).trans o6).trans o7) (by omega) k00 fun v h8 hv p => ⟨hv, p⟩⟩⟩
  · have y' : ¬ tW T < 6 := fun e => y (nI_lt (b := 6) e (by decide))
    rw [lnW, if_neg y']
    exact ⟨rfl, _, _, _, w1⟩
theorem c_readWeek (hg : GOK g) (hd : 12 ≤ d) (w : RdW h A tx len td ld f q t T L) (k : TkAt f len st t) : CT g d yX5_readWeek (wsC yX5_readWeek cX5_readWeek 1 (some .boolean)) [.ref A] h 0 0 (LnW A tx len td ld f q (lnD f len st T L) h) noT := by
  refine CT_ofB (by decide +kernel) (Nat.le_of_ble_eq_true rfl) rfl fun K X => ?_
  refine b_X5_readWeek_0 hg (by omega) k00 X _ _ ⟨_, w.rd.g4, _, w.ta.g3, fun y => ⟨_, w.rd.g4, Or.inr rfl, _, w.ta.z3 1, ?_⟩, fun y => ⟨_, w.rd.o, u_fail hg w k 5 (by omega) k00 fun h1 w1 o1 => ⟨Or.inl rfl, o1, ?_⟩⟩⟩
  · rw [lnD, if_pos y]
    obtain ⟨w1, o1⟩ := w.pt (zWg T 1)
    refine ⟨_, w1.rd.o, u_take hg w1 k (by omega) k00 fun h2 t2 w2 o2 k2 => ⟨_, w2.rd.o, u_number hg w2 k2 1 9 (by omega) k00 (fun e2 => ⟨fun _ => ⟨_, w2.rd.g4, _, by rw [w2.rd.g9, (k2.va (nb_ok e2).1).1], _, w2.ta.z2 _, ?_⟩, fun z => absurd z (by decide)⟩) (fun h3 e2 w3 o3 => ⟨fun z => absurd rfl z, fun _ => ⟨Or.inl rfl, (o1.trans o2).trans o3, by rw [nbK, if_neg e2]; exact ⟨rfl, _, _, _, w3⟩⟩⟩)⟩⟩
    rw [nbK, if_pos e2]
    obtain ⟨w3, o3⟩ := w2.pt (zWk (zWg T 1) (vaP f len (adv f len st)))
    refine ⟨_, w3.rd.o, u_take hg w3 k2 (by omega) k00 fun h4 t4 w4 o4 k4 => ⟨_, w4.rd.o, u_semi hg w4 k4 (((o1.trans o2).trans o3).trans o4) (by omega) k00 fun v h8 hv p => ⟨hv, p⟩⟩⟩
  · rw [lnD, if_neg y]
    exact ⟨rfl, _, _, _, w1⟩
theorem c_readKnots (hg : GOK g) (hd : 12 ≤ d) (w : RdW h A tx len td ld f q t T L) (k : TkAt f len st t) (hm : m ≤ 8) (em : (tK T).1 = nI m) : CT g d yX5_readKnots (wsC yX5_readKnots cX5_readKnots 2 (some .boolean)) [.ref A] h 0 0 (LnW A tx len td ld f q (lnK f len st m T L) h) noT := by
  refine CT_ofB (by decide +kernel) (Nat.le_of_ble_eq_true rfl) rfl fun K X => ?_
  have semi : ∀ (p : LR) (s : Nat) (h1 : Hp) (t1 : TkV) (T1 : ToldV), RdW h1 A tx len td ld f q t1 T1 L → TkAt f len s t1 → OutW A td ld h h1 → smK f len s T1 L = p → VB g K 2 d 0 0 (LnW A tx len td ld f q p h) noT 0 0 142 [some (.ref A), none] [] h1 := by
    intro p s h1 t1 T1 w1 k1 o1 hp
    subst hp
    exact b_X5_readKnots_142 hg (by omega) k00 X _ _ ⟨_, w1.rd.o, u_semi hg w1 k1 o1 (by omega) k00 fun v h8 hv p => ⟨hv, p⟩⟩
  have loop : ∀ (p : LR) (j i s m1 : Nat) (h1 : Hp) (t1 : TkV) (T1 : ToldV), i + j = 9 → i ≤ m1 → m1 ≤ 8 → (tK T1).1 = nI m1 → RdW h1 A tx len td ld f q t1 T1 L → TkAt f len s t1 → OutW A td ld h h1 → knP f len j s m1 T1 L = p → VB g K 2 d 0 0 (LnW A tx len td ld f q p h) noT 0 0 44 [some (.ref A), some (.int (nI i))] [] h1 := by
    intro p j
    induction j with
    | zero => intro i s m1 h1 t1 T1 hij him hm1; omega
    | succ j ih =>
      intro i s m1 h1 t1 T1 hij him hm1 em1 w1 k1 o1 hp
      have ek : t1.2.1 = kdE f len s := k1.2.2.1
      have l7 := w1.l7
      have hn := nxF_le (f := f) k1.1
      rw [knP] at hp
      have too : (4 < nxF f len s - s ∨ ¬ m1 < 8) → kdE f len s = 2 → VB g K 2 d 0 0 (LnW A tx len td ld f q p h) noT 0 0 81 [some (.ref A), none] [] h1 := by
        intro z z2
        rw [if_pos z2, if_pos z] at hp
        subst hp
        exact b_X5_readKnots_81 hg (by omega) k00 X _ _ ⟨_, w1.rd.o, u_fail hg w1 k1 2 (by omega) k00 fun h2 w2 o2 => ⟨Or.inl rfl, o1.trans o2, rfl, _, _, _, w2⟩⟩
      refine b_X5_readKnots_44 hg (by omega) k00 X _ _ _ ⟨fun y => absurd (lt_nI (x := 8) (by omega) (by omega) y) (by omega), fun _ => ⟨_, w1.rd.g7, fun y => ?_, fun y => ?_⟩⟩
      · rw [ek] at y
        rw [if_neg y] at hp
        exact semi p s h1 t1 T1 w1 k1 o1 hp
      · rw [ek] at y
        obtain ⟨e9, e10⟩ := k1.va y
        refine ⟨_, by rw [w1.rd.g10, e10], fun z => too (Or.inl (lt_nI (x := 4) (by omega) (by omega) z)) y, fun z => ⟨_, w1.rd.g4, _, w1.ta.g6, _, by rw [w1.ta.k0, em1], fun z2 => ?_, fun z2 => too (Or.inr (fun e => z2 (nI_lt (b := 8) e (by decide)))) y⟩⟩
        have z' := nlt_nI (x := 4) (by omega) (by omega) z
        have z2' : m1 < 8 := lt_nI (y := 8) (by omega) (by omega) z2
        rw [if_pos y, if_neg (by rintro (e | e); omega; exact e z2')] at hp
        refine ⟨_, w1.rd.g4, _, w1.ta.g6, _, by rw [w1.rd.g9, e9], _, by rw [w1.rd.g10, e10], _, w1.ta.o2, use_i (c_has (d := d - 1) hg (by omega) w1.ta ⟨hm1, em1⟩) (by omega) k00 ⟨fun y3 => ?_, fun y3 => ?_⟩⟩
        · have y3' := gp_n rfl y3
          rw [if_neg y3'] at hp
          refine ⟨_, w1.rd.g4, _, w1.ta.g6, _, by rw [w1.rd.g9, e9], _, by rw [w1.rd.g10, e10], _, w1.ta.o2, use_v (c_tie (d := d - 1) hg (by omega) w1.ta em1 z2') (by omega) k00 ?_⟩
          intro h2 e2
          rw [e2]
          obtain ⟨w2, o2⟩ := w1.pt (zK T1 (nI (m1 + 1), upd (tK T1).2.1 m1 (vaP f len s), upd (tK T1).2.2.1 m1 (nI (nxF f len s - s)), (tK T1).2.2.2))
          refine ⟨_, w2.rd.o, u_take hg w2 k1 (by omega) k00 fun h3 t3 w3 o3 k3 => ?_⟩
          rw [nI_s]
          exact ih (i + 1) _ (m1 + 1) h3 t3 _ (by omega) (by omega) (by omega) rfl w3 k3 ((o1.trans o2).trans o3) hp
        · have y3' := gp_y rfl y3
          rw [if_pos y3'] at hp
          subst hp
          exact ⟨_, w1.rd.o, u_fail hg w1 k1 4 (by omega) k00 fun h2 w2 o2 => ⟨Or.inl rfl, o1.trans o2, rfl, _, _, _, w2⟩⟩
  refine b_X5_readKnots_0 hg (by omega) k00 X _ _ ⟨_, w.rd.g4, _, w.ta.g4, fun y => ⟨_, w.rd.g4, Or.inr rfl, _, w.ta.z4 1, ?_⟩, fun y => ⟨_, w.rd.o, u_fail hg w k 5 (by omega) k00 fun h1 w1 o1 => ⟨Or.inl rfl, o1, ?_⟩⟩⟩
  · rw [lnK, if_pos y]
    obtain ⟨w1, o1⟩ := w.pt (zKg T 1)
    refine ⟨_, w1.rd.o, u_take hg w1 k (by omega) k00 fun h2 t2 w2 o2 k2 => ⟨_, w2.rd.g7, fun z => ?_, fun z => ⟨_, w2.rd.o, u_fail hg w2 k2 1 (by omega) k00 fun h3 w3 o3 => ⟨Or.inl rfl, (o1.trans o2).trans o3, ?_⟩⟩⟩⟩
    · rw [show t2.2.1 = kdE f len (adv f len st) from k2.2.2.1] at z
      rw [if_pos z]
      exact loop _ 9 0 _ m h2 t2 (zKg T 1) (by omega) (by omega) hm em w2 k2 (o1.trans o2) rfl
    · rw [show t2.2.1 = kdE f len (adv f len st) from k2.2.2.1] at z
      rw [if_neg z]
      exact ⟨rfl, _, _, _, w3⟩
  · rw [lnK, if_neg y]
    exact ⟨rfl, _, _, _, w1⟩
end LNS
