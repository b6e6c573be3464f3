/-! THE READER with the draft and the land it writes -/
def RdW (h : Hp) (A tx len td ld : Nat) (f : AF) (q : Int32 × Int32) (t : TkV) (T : ToldV) (L : LandV) : Prop := RdA h A q tx len td ld t ∧ TxA h A tx len f ∧ TA h td T ∧ LA h ld L ∧ ((A < td ∨ td + 12 ≤ A) ∧ (A < ld ∨ ld + 7 ≤ A) ∧ (td + 12 ≤ ld ∨ ld + 7 ≤ td) ∧ (tx < td ∨ td + 12 ≤ tx) ∧ (tx < ld ∨ ld + 7 ≤ tx))
/-- nothing else has changed -/
def OutW (A td ld : Nat) (h h2 : Hp) : Prop := h2.length = h.length ∧ ∀ k, k ≠ A → (k < td ∨ td + 12 ≤ k) → (k < ld ∨ ld + 7 ≤ k) → h2[k]? = h[k]?
theorem OutW.refl {A td ld : Nat} {h : Hp} : OutW A td ld h h := ⟨rfl, fun _ _ _ _ => rfl⟩
theorem OutW.trans {A td ld : Nat} {h h1 h2 : Hp} (a : OutW A td ld h h1) (b : OutW A td ld h1 h2) : OutW A td ld h h2 := ⟨b.1.trans a.1, fun k k1 k2 k3 => (b.2 k k1 k2 k3).trans (a.2 k k1 k2 k3)⟩
section RWS
variable {g : GG} {h h0 : Hp} {A d D tx len td ld st n k kc ks mc ms : Nat} {q : Int32 × Int32} {t : TkV} {f : AF} {T : ToldV} {L : LandV} {Pt : String → Hp → Prop}
theorem RdW.rd (w : RdW h A tx len td ld f q t T L) : RdA h A q tx len td ld t := w.1
theorem RdW.xx (w : RdW h A tx len td ld f q t T L) : TxA h A tx len f := w.2.1
theorem RdW.ta (w : RdW h A tx len td ld f q t T L) : TA h td T := w.2.2.1
theorem RdW.la (w : RdW h A tx len td ld f q t T L) : LA h ld L := w.2.2.2.1
theorem RdW.l7 (w : RdW h A tx len td ld f q t T L) : len ≤ 700 := w.2.1.2.2
theorem RdW.pd (w : RdW h A tx len td ld f q t T L) (q2 : Int32 × Int32) (t2 : TkV) : RdW (pD h A q2 tx len td ld t2) A tx len td ld f q2 t2 T L ∧ OutW A td ld h (pD h A q2 tx len td ld t2) := by
  obtain ⟨w1, w2, w3, w4, a1, a2, a3, a4, a5⟩ := w
  refine ⟨⟨w1.put q2 t2, w2.pd q2 t2, Chunk.offN (n := 12) (m := 1) w3 rfl rfl (by omega), Chunk.offN (n := 7) (m := 1) w4 rfl rfl (by omega), a1, a2, a3, a4, a5⟩, putC_len _ _ _, fun k k1 _ _ => putC_out _ _ _ _ ?_⟩
  simp only [rdC, List.length_cons, List.length_nil]
  omega
theorem TxA.off {b : Nat} {cs : List va_E} (x : TxA h A tx len f) (hb : tx < b ∨ b + cs.length ≤ tx) : TxA (putC h b cs) A tx len f := by
  refine ⟨?_, x.2⟩
  have e : (putC h b cs)[tx]? = h[tx]? := putC_out _ _ _ _ (by omega)
  have := x.1
  unfold aF at this ⊢
  rw [e]
  exact this
theorem RdW.pt (w : RdW h A tx len td ld f q t T L) (T2 : ToldV) : RdW (pT h td T2) A tx len td ld f q t T2 L ∧ OutW A td ld h (pT h td T2) := by
  obtain ⟨w1, w2, w3, w4, a1, a2, a3, a4, a5⟩ := w
  have e12 : (toldC td T2).length = 12 := rfl
  refine ⟨⟨Chunk.offN (n := 1) (m := 12) w1 rfl rfl (by omega), w2.off (by rw [e12]; omega), w3.put T2, w4.offT (by omega) T2, a1, a2, a3, a4, a5⟩, putC_len _ _ _, fun k _ k2 _ => putC_out _ _ _ _ (by rw [e12]; omega)⟩
theorem RdW.pl (w : RdW h A tx len td ld f q t T L) (L2 : LandV) : RdW (pL h ld L2) A tx len td ld f q t T L2 ∧ OutW A td ld h (pL h ld L2) := by
  obtain ⟨w1, w2, w3, w4, a1, a2, a3, a4, a5⟩ := w
  have e7 : (landC ld L2).length = 7 := rfl
  refine ⟨⟨Chunk.offN (n := 1) (m := 7) w1 rfl rfl (by omega), w2.off (by rw [e7]; omega), w3.offL (by omega) L2, w4.put L2, a1, a2, a3, a4, a5⟩, putC_len _ _ _, fun k _ _ k3 => putC_out _ _ _ _ (by rw [e7]; omega)⟩
/-! what a block asks of the calls -/
theorem u_take {Z : Nat → Nat → Hp → Prop} (hg : GOK g) (w : RdW h A tx len td ld f q t T L) (k : TkAt f len st t) (hd : 10 ≤ D) (hk : kc ≤ mc ∧ ks ≤ ms) (hz : ∀ h1 t1, RdW h1 A tx len td ld f q t1 T L → OutW A td ld h h1 → TkAt f len (adv f len st) t1 → Z 0 0 h1) :
    ∃ d1 P1 E1 m1 n1, CT g d1 yX5_takeToken (wsC yX5_takeToken cX5_takeToken 2 none) [.ref A] h m1 n1 P1 E1 ∧ (d1 + 1 ≤ D ∧ kc + m1 ≤ mc ∧ ks + n1 ≤ ms) ∧ (∀ E h', E1 E h' → Pt E h') ∧ (∀ v h1, P1 v h1 → v = none ∧ Z m1 n1 h1) := by
  refine use_v (c_takeToken (d := D - 1) hg (by omega) w.rd w.xx k.nx.2.1) (by omega) hk ?_
  rintro h1 rfl
  exact hz _ _ (w.pd q (tkF f len t)).1 (w.pd q (tkF f len t)).2 k.tk
theorem u_fail {Z : Nat → Nat → Int32 → Hp → Prop} (hg : GOK g) (w : RdW h A tx len td ld f q t T L) (k : TkAt f len st t) (e : Int32) (hd : 9 ≤ D) (hk : kc ≤ mc ∧ ks ≤ ms) (hz : ∀ h1, RdW h1 A tx len td ld f (e, nI st) t T L → OutW A td ld h h1 → Z 0 0 0 h1) :
    ∃ d1 P1 E1 m1 n1, CT g d1 yX5_fail (wsC yX5_fail cX5_fail 2 (some .boolean)) [.ref A, .int e] h m1 n1 P1 E1 ∧ (d1 + 1 ≤ D ∧ kc + m1 ≤ mc ∧ ks + n1 ≤ ms) ∧ (∀ E h', E1 E h' → Pt E h') ∧ (∀ v h1, P1 v h1 → ∃ x, v = some (.int x) ∧ Z m1 n1 x h1) := by
  refine use_i (c_fail (d := D - 1) hg (by omega) w.rd e) (by omega) hk ?_
  have e1 : t.2.2.1 = st := k.2.2.2.1
  rw [e1]
  exact hz _ (w.pd (e, nI st) t).1 (w.pd (e, nI st) t).2
theorem u_sign {Z : Nat → Nat → Int32 → Hp → Prop} (hg : GOK g) (w : RdW h A tx len td ld f q t T L) (k : TkAt f len st t) (v : Int32) (hd : 9 ≤ D) (hk : kc ≤ mc ∧ ks ≤ ms) (yes : sgP f len st v = true → Z 0 0 1 h) (no : sgP f len st v = false → Z 0 0 0 h) :
    ∃ d1 P1 E1 m1 n1, CT g d1 yX5_isSign (wsC yX5_isSign cX5_isSign 2 (some .boolean)) [.ref A, .int v] h m1 n1 P1 E1 ∧ (d1 + 1 ≤ D ∧ kc + m1 ≤ mc ∧ ks + n1 ≤ ms) ∧ (∀ E h', E1 E h' → Pt E h') ∧ (∀ v h1, P1 v h1 → ∃ x, v = some (.int x) ∧ Z m1 n1 x h1) := by
  refine use_i (c_isSign (d := D - 1) hg (by omega) w.rd w.xx k.nx.2.2 v) (by omega) hk ?_
  rw [k.sg]
  cases e : sgP f len st v with
  | true => exact yes e
  | false => exact no e
theorem u_word {Z : Nat → Nat → Int32 → Hp → Prop} (hg : GOK g) (hO : GOW g) (w : RdW h A tx len td ld f q t T L) (k : TkAt f len st t) (j : Nat) (hj : j < 16) (hd : 11 ≤ D) (hk : kc ≤ mc ∧ ks ≤ ms) (yes : wdP f len st j = true → Z 0 0 1 h) (no : wdP f len st j = false → Z 0 0 0 h) :
    ∃ d1 P1 E1 m1 n1, CT g d1 yX5_isWord (wsC yX5_isWord cX5_isWord 2 (some .boolean)) [.ref A, .retAddr j] h m1 n1 P1 E1 ∧ (d1 + 1 ≤ D ∧ kc + m1 ≤ mc ∧ ks + n1 ≤ ms) ∧ (∀ E h', E1 E h' → Pt E h') ∧ (∀ v h1, P1 v h1 → ∃ x, v = some (.int x) ∧ Z m1 n1 x h1) := by
  refine use_i (c_isWord (d := D - 1) hg hO (by omega) w.rd w.xx k.nx.1 k.nx.2.1 hj) (by omega) hk ?_
  rw [k.wd]
  cases e : wdP f len st j with
  | true => exact yes e
  | false => exact no e
theorem u_append {Z : Nat → Nat → Hp → Prop} {v : Int32} (hg : GOK g) (w : RdW h A tx len td ld f q t T L) (e : tCl T = nI n) (hn : n < 700) (hd : 9 ≤ D) (hk : kc ≤ mc ∧ ks ≤ ms) (hz : ∀ h1, RdW h1 A tx len td ld f q t (apT T n v) L → OutW A td ld h h1 → Z 0 0 h1) :
    ∃ d1 P1 E1 m1 n1, CT g d1 yX9_append (wsC yX9_append cX9_append 2 none) [.ref td, .int v] h m1 n1 P1 E1 ∧ (d1 + 1 ≤ D ∧ kc + m1 ≤ mc ∧ ks + n1 ≤ ms) ∧ (∀ E h', E1 E h' → Pt E h') ∧ (∀ v h1, P1 v h1 → v = none ∧ Z m1 n1 h1) := by
  refine use_v (c_append (d := D - 1) hg (by omega) w.ta e hn) (by omega) hk ?_
  rintro h1 rfl
  exact hz _ (w.pt _).1 (w.pt _).2
/-- a sign passed -/
def PsW (A tx len td ld : Nat) (f : AF) (q : Int32 × Int32) (T : ToldV) (L : LandV) (st : Nat) (v : Int32) (h : Hp) (r : Option Value) (h2 : Hp) : Prop := OutW A td ld h h2 ∧ ((sgP f len st v = true ∧ r = some (.int 1) ∧ ∃ t', RdW h2 A tx len td ld f q t' T L ∧ TkAt f len (adv f len st) t') ∨ (sgP f len st v = false ∧ r = some (.int 0) ∧ ∃ t', RdW h2 A tx len td ld f (1, nI st) t' T L))
theorem c_passSign (hg : GOK g) (hd : 10 ≤ d) (w : RdW h A tx len td ld f q t T L) (k : TkAt f len st t) (v : Int32) : CT g d yX5_passSign (wsC yX5_passSign cX5_passSign 2 (some .boolean)) [.ref A, .int v] h 0 0 (PsW A tx len td ld f q T L st v h) noT := by
  refine CT_ofB (by decide +kernel) (Nat.le_of_ble_eq_true rfl) rfl fun K X => ?_
  refine b_X5_passSign_0 hg (by omega) k00 X _ _ _ ⟨_, w.rd.o, u_sign hg w k v (by omega) k00 (fun y => ⟨fun _ => ⟨_, w.rd.o, u_take hg w k (by omega) k00 fun h2 t2 w2 o2 k2 => ⟨Or.inr rfl, o2, Or.inl ⟨y, rfl, _, w2, k2⟩⟩⟩, fun z => absurd z (by decide)⟩) (fun y => ⟨fun z => absurd rfl z, fun _ => ⟨_, w.rd.o, u_fail hg w k 1 (by omega) k00 fun h2 w2 o2 => ⟨Or.inl rfl, o2, Or.inr ⟨y, rfl, _, w2⟩⟩⟩⟩)⟩
theorem c_joint (hg : GOK g) (hO : GOW g) (hd : 12 ≤ d) (w : RdW h A tx len td ld f q t T L) (k : TkAt f len st t) {rank : Nat} (hr : rank ≤ 4) : CT g d yX5_joint (wsC yX5_joint cX5_joint 2 (some .int)) [.ref A, .int (nI rank)] h 0 0 (fun r h2 => r = some (.int (jtP f len rank st)) ∧ h2 = h) noT := by
  refine CT_ofB (by decide +kernel) (Nat.le_of_ble_eq_true rfl) rfl fun K X => ?_
  have er : (nI rank).toInt = rank := nI_toInt (by omega)
  refine b_X5_joint_0 hg (by omega) k00 X _ _ _ ?_
  rw [er]
  refine ⟨fun y => ?_, fun y => ?_, fun y => ?_, fun y => ?_, fun y => ?_⟩
  · have hr4 : rank = 4 := by omega
    subst hr4
    refine ⟨_, w.rd.o, u_sign hg w k 42 (by omega) k00 (fun z => ⟨fun e => absurd e (by decide), fun _ => ⟨?_, rfl⟩⟩) (fun z => ⟨fun _ => ⟨_, w.rd.o, u_sign hg w k 47 (by omega) k00 (fun z2 => ⟨fun e => absurd e (by decide), fun _ => ⟨?_, rfl⟩⟩) (fun z2 => ⟨fun _ => ⟨?_, rfl⟩, fun e => absurd rfl e⟩)⟩, fun e => absurd rfl e⟩)⟩
    · simp [jtP, z]
    · simp [jtP, z, z2]
    · simp [jtP, z, z2]
  · have hr4 : rank = 0 := by omega
    subst hr4
    refine ⟨_, w.rd.o, u_word hg hO w k 6 (by decide) (by omega) k00 (fun z => ⟨fun e => absurd e (by decide), fun _ => ⟨?_, rfl⟩⟩) (fun z => ⟨fun _ => ⟨?_, rfl⟩, fun e => absurd rfl e⟩)⟩
    · simp [jtP, z]
    · simp [jtP, z]
  · have hr4 : rank = 1 := by omega
    subst hr4
    refine ⟨_, w.rd.o, u_word hg hO w k 7 (by decide) (by omega) k00 (fun z => ⟨fun e => absurd e (by decide), fun _ => ⟨?_, rfl⟩⟩) (fun z => ⟨fun _ => ⟨?_, rfl⟩, fun e => absurd rfl e⟩)⟩
    · simp [jtP, z]
    · simp [jtP, z]
  · have hr4 : rank = 2 := by omega
    subst hr4
    refine ⟨_, w.rd.o, u_sign hg w k 60 (by omega) k00 (fun z => ⟨fun e => absurd e (by decide), fun _ => ⟨?_, rfl⟩⟩) (fun z => ⟨fun _ => ⟨_, w.rd.o, u_sign hg w k 61 (by omega) k00 (fun z2 => ⟨fun e => absurd e (by decide), fun _ => ⟨?_, rfl⟩⟩) (fun z2 => ⟨fun _ => ⟨?_, rfl⟩, fun e => absurd rfl e⟩)⟩, fun e => absurd rfl e⟩)⟩
    · simp [jtP, z]
    · simp [jtP, z, z2]
    · simp [jtP, z, z2]
  · have hr4 : rank = 3 := by omega
    subst hr4
    refine ⟨_, w.rd.o, u_sign hg w k 43 (by omega) k00 (fun z => ⟨fun e => absurd e (by decide), fun _ => ⟨?_, rfl⟩⟩) (fun z => ⟨fun _ => ⟨_, w.rd.o, u_sign hg w k 45 (by omega) k00 (fun z2 => ⟨fun e => absurd e (by decide), fun _ => ⟨?_, rfl⟩⟩) (fun z2 => ⟨fun _ => ⟨?_, rfl⟩, fun e => absurd rfl e⟩)⟩, fun e => absurd rfl e⟩)⟩
    · simp [jtP, z]
    · simp [jtP, z, z2]
    · simp [jtP, z, z2]
def NtW (A tx len td ld : Nat) (f : AF) (q : Int32 × Int32) (T : ToldV) (L : LandV) (z : Nat × Nat) (h : Hp) (r : Option Value) (h2 : Hp) : Prop := OutW A td ld h h2 ∧ ((z.1 = 6 ∧ wdP f len z.2 8 = true ∧ r = some (.int 7) ∧ ∃ t', RdW h2 A tx len td ld f (2, nI z.2) t' T L) ∨ (¬ (z.1 = 6 ∧ wdP f len z.2 8 = true) ∧ r = some (.int (nI z.1)) ∧ ∃ t', RdW h2 A tx len td ld f q t' T L ∧ TkAt f len z.2 t'))
theorem c_passNots (hg : GOK g) (hO : GOW g) (hd : 12 ≤ d) (w : RdW h A tx len td ld f q t T L) (k : TkAt f len st t) : CT g d yX5_passNots (wsC yX5_passNots cX5_passNots 2 (some .int)) [.ref A] h 0 0 (NtW A tx len td ld f q T L (ntP f len 6 st) h) noT := by
  refine CT_ofB (by decide +kernel) (Nat.le_of_ble_eq_true rfl) rfl fun K X => ?_
  refine b_X5_passNots_0 hg (by omega) k00 X _ _ ?_
  generalize ez : ntP f len 6 st = z
  have loop : ∀ (j i s : Nat) (h1 : Hp) (t1 : TkV), i + j = 6 → RdW h1 A tx len td ld f q t1 T L → TkAt f len s t1 → OutW A td ld h h1 → i + (ntP f len j s).1 = z.1 → (ntP f len j s).2 = z.2 → VB g K 2 d 0 0 (NtW A tx len td ld f q T L z h) noT 0 0 2 [some (.ref A), some (.int (nI i))] [] h1 := by
    intro j
    induction j with
    | zero =>
      intro i s h1 t1 hij w1 k1 o1 e1 e2
      have e1' : i = z.1 := e1
      have e2' : s = z.2 := e2
      refine b_X5_passNots_2 hg (by omega) k00 X _ _ _ ⟨fun _ => ⟨_, w1.rd.o, u_word hg hO w1 k1 8 (by decide) (by omega) k00 (fun y => ⟨fun e => absurd e (by decide), fun _ => ⟨_, w1.rd.o, u_fail hg w1 k1 2 (by omega) k00 fun h2 w2 o2 => ⟨o1.trans o2, Or.inl ⟨by omega, by rw [← e2']; exact y, rfl, _, by rw [← e2']; exact w2⟩⟩⟩⟩) (fun y => ⟨fun _ => ⟨o1, Or.inr ⟨fun e => by rw [← e2', y] at e; exact absurd e.2 (by decide), by rw [← e1', show i = 6 by omega]; rfl, _, w1, by rw [← e2']; exact k1⟩⟩, fun e => absurd rfl e⟩)⟩, fun y => absurd (nle_nI (x := 6) (by omega) (by omega) y) (by omega)⟩
    | succ j ih =>
      intro i s h1 t1 hij w1 k1 o1 e1 e2
      unfold ntP at e1 e2
      refine b_X5_passNots_2 hg (by omega) k00 X _ _ _ ⟨fun y => absurd (le_nI (x := 6) (by omega) (by omega) y) (by omega), fun _ => ⟨_, w1.rd.o, u_word hg hO w1 k1 8 (by decide) (by omega) k00 (fun y => ⟨fun _ => ⟨_, w1.rd.o, u_take hg w1 k1 (by omega) k00 fun h2 t2 w2 o2 k2 => ?_⟩, fun e => absurd e (by decide)⟩) (fun y => ⟨fun e => absurd rfl e, fun _ => ⟨o1, Or.inr ⟨?_, ?_, _, w1, ?_⟩⟩⟩)⟩⟩
      · rw [if_pos y] at e1 e2
        rw [nI_s]
        exact ih (i + 1) _ h2 t2 (by omega) w2 k2 (o1.trans o2) (by dsimp only at e1; omega) e2
      · rw [y] at e1
        intro e
        simp only [Bool.false_eq_true, if_false] at e1
        omega
      · rw [y] at e1; simp only [Bool.false_eq_true, if_false] at e1
        rw [← e1]; rfl
      · rw [y] at e2; simp only [Bool.false_eq_true, if_false] at e2
        rw [← e2]; exact k1
  exact loop 6 0 st h t (by omega) w k OutW.refl (by rw [ez]; omega) (by rw [ez])
end RWS
