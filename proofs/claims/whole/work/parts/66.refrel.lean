/-! CLASS AND REFERENCE: how they go together; a trial of the reference; what calls need -/
def cI (k : Nat) : Bool := [1, 2, 3, 4, 5, 6, 12, 14, 42, 51, 57, 58, 59].contains k
def cA (c : Nat) : Bool := [1, 2, 3, 4, 5, 6, 15, 24, 28, 29, 30].contains c
/-- what counts is as before -/
def QF (R R' : RefV) : Prop := (∀ k, cI k = true → ri R' k = ri R k) ∧ (∀ c, cA c = true → ra R' c = ra R c) ∧ (∀ i, i < 49 → ra R' 14 i = ra R 14 i)
theorem QF.refl (R : RefV) : QF R R := ⟨fun _ _ => rfl, fun _ _ => rfl, fun _ _ => rfl⟩
theorem QF.trans {R0 R1 R2 : RefV} (a : QF R0 R1) (b : QF R1 R2) : QF R0 R2 := ⟨fun k hk => (b.1 k hk).trans (a.1 k hk), fun c hc => (b.2.1 c hc).trans (a.2.1 c hc), fun i hi => (b.2.2 i hi).trans (a.2.2 i hi)⟩
theorem QF.i {R R' : RefV} {k : Nat} {v : Int32} (a : QF R R') (hk : cI k = false) : QF R (sI R' k v) := ⟨fun j hj => by rw [ri_sIn (fun e => by rw [e, hk] at hj; exact absurd hj (by decide))]; exact a.1 j hj, a.2.1, a.2.2⟩
theorem QF.a {R R' : RefV} {c : Nat} {f : AF} (a : QF R R') (hc : cA c = false) (h14 : c ≠ 14) : QF R (sA R' c f) := ⟨a.1, fun j hj => by rw [ra_sAn (fun e => by rw [e, hc] at hj; exact absurd hj (by decide))]; exact a.2.1 j hj, fun i hi => by rw [ra_sAn (fun e => h14 e.symm)]; exact a.2.2 i hi⟩
/-- acts kept: their lands -/
def PaR (n w : Nat) (P : PastV) (f : AF) : Prop := ∀ i, i < P.1 → LE n w (ldR f (49 * i)) (ldR P.2.2 ((P.2.1 + i) % 40 * 49))
def SeR (S : SeenV) (f : AF) : Prop := ∀ i, i < S.1 → f (3 * i) = S.2.1 i ∧ f (3 * i + 1) = S.2.2.1 i ∧ f (3 * i + 2) = S.2.2.2 i
def KnR (T : ToldV) (R : RefV) : Prop := ri R 3 = (tK T).1 ∧ ∀ k, k < cl (tK T).1 → ra R 2 k = (tK T).2.1 k ∧ ra R 3 k = (tK T).2.2.1 k
def ImR (s : CoreV) (R : RefV) : Prop := LE (sN s) (sW s) (ldR (ra R 28) 0) (sL2 s) ∧ ri R 58 = nI (sP2 s).1 ∧ PaR (sN s) (sW s) (sP2 s) (ra R 29) ∧ ri R 59 = nI (sS2 s).1 ∧ SeR (sS2 s) (ra R 30)
/-- THE RELATION of the class's state and the reference's -/
def RS (s : CoreV) (R : RefV) : Prop := TR (sT s) R ∧ KnR (sT s) R ∧ (ri R 12 = nI (oTl (sO s)) ∧ ∀ k, k < 700 → ra R 5 k = sTp s k &&& 255) ∧ ri R 14 = oFp (sO s) ∧ (ra R 6 0 = oRt (sO s) ∧ ra R 6 1 = oRa (sO s) ∧ ra R 6 2 = oRs (sO s)) ∧ LE (sN s) (sW s) (ldR (ra R 14) 0) (sL s) ∧ (ri R 42 = nI (sP s).1 ∧ PaR (sN s) (sW s) (sP s) (ra R 15)) ∧ (ri R 51 = nI (sS s).1 ∧ SeR (sS s) (ra R 24)) ∧ ri R 57 = oHi (sO s) ∧ (oHi (sO s) = 1 → ImR s R)
/-- what always holds of the class's state -/
def PaOK (n w : Nat) (P : PastV) : Prop := PG P ∧ ∀ i, i < P.1 → LOK n w (ldR P.2.2 ((P.2.1 + i) % 40 * 49))
def SeA (n : Nat) (S : SeenV) : Prop := SG n S ∧ SeD S
/-- the knots: how many, how long, none twice -/
def KnU (T : ToldV) (m : Nat) : Prop := KnOK T m ∧ (∀ k, k < m → ∃ l, 1 ≤ l ∧ l ≤ 4 ∧ (tK T).2.2.1 k = nI l) ∧ ∀ i j, i < j → j < m → ¬ ((tK T).2.1 i = (tK T).2.1 j ∧ (tK T).2.2.1 i = (tK T).2.2.1 j)
/-- the tape holds bytes -/
def BtOK (f : AF) : Prop := ∀ k, k < 700 → -128 ≤ (f k).toInt ∧ (f k).toInt < 128
def IV (s : CoreV) : Prop := TG (sT s) ∧ SkOK (sT s) ∧ (∃ m, KnU (sT s) m) ∧ LOK (sN s) (sW s) (sL s) ∧ PaOK (sN s) (sW s) (sP s) ∧ SeA (sN s) (sS s) ∧ (oHi (sO s) = 0 ∨ (oHi (sO s) = 1 ∧ LOK (sN s) (sW s) (sL2 s) ∧ PaOK (sN s) (sW s) (sP2 s) ∧ SeA (sN s) (sS2 s))) ∧ oTl (sO s) ≤ 700 ∧ BtOK (sTp s)
section IVs
variable {s : CoreV} {R R' : RefV}
theorem IV.tg (q : IV s) : TG (sT s) := q.1
theorem IV.sk (q : IV s) : SkOK (sT s) := q.2.1
theorem IV.kn (q : IV s) : ∃ m, KnU (sT s) m := q.2.2.1
theorem IV.lok (q : IV s) : LOK (sN s) (sW s) (sL s) := q.2.2.2.1
theorem IV.pa (q : IV s) : PaOK (sN s) (sW s) (sP s) := q.2.2.2.2.1
theorem IV.se (q : IV s) : SeA (sN s) (sS s) := q.2.2.2.2.2.1
theorem IV.im (q : IV s) : oHi (sO s) = 0 ∨ (oHi (sO s) = 1 ∧ LOK (sN s) (sW s) (sL2 s) ∧ PaOK (sN s) (sW s) (sP2 s) ∧ SeA (sN s) (sS2 s)) := q.2.2.2.2.2.2.1
theorem IV.tb (q : IV s) : oTl (sO s) ≤ 700 ∧ BtOK (sTp s) := q.2.2.2.2.2.2.2
theorem IV.tl (q : IV s) : oTl (sO s) ≤ 700 := q.tb.1
theorem IV.bt (q : IV s) : BtOK (sTp s) := q.tb.2
theorem IV.is (q : IV s) : IS s := ⟨q.tg, q.lok.aok, q.pa.1, q.se.1⟩
theorem IV.td (q : IV s) : TD (sT s) := ⟨q.sk, q.tg.2.2⟩
theorem IV.o1 (q : IV s) : 3 ≤ sN s := q.tg.1.1
theorem IV.o2 (q : IV s) : sN s ≤ 12 := q.tg.1.2.1
theorem IV.o3 (q : IV s) : sW s ≤ 6 := q.tg.1.2.2
theorem RS.tr (q : RS s R) : TR (sT s) R := q.1
theorem RS.kn (q : RS s R) : KnR (sT s) R := q.2.1
theorem RS.tp (q : RS s R) : ri R 12 = nI (oTl (sO s)) ∧ ∀ k, k < 700 → ra R 5 k = sTp s k &&& 255 := q.2.2.1
theorem RS.fp (q : RS s R) : ri R 14 = oFp (sO s) := q.2.2.2.1
theorem RS.rf (q : RS s R) : ra R 6 0 = oRt (sO s) ∧ ra R 6 1 = oRa (sO s) ∧ ra R 6 2 = oRs (sO s) := q.2.2.2.2.1
theorem RS.le (q : RS s R) : LE (sN s) (sW s) (ldR (ra R 14) 0) (sL s) := q.2.2.2.2.2.1
theorem RS.pa (q : RS s R) : ri R 42 = nI (sP s).1 ∧ PaR (sN s) (sW s) (sP s) (ra R 15) := q.2.2.2.2.2.2.1
theorem RS.se (q : RS s R) : ri R 51 = nI (sS s).1 ∧ SeR (sS s) (ra R 24) := q.2.2.2.2.2.2.2.1
theorem RS.hi (q : RS s R) : ri R 57 = oHi (sO s) := q.2.2.2.2.2.2.2.2.1
theorem RS.im (q : RS s R) : oHi (sO s) = 1 → ImR s R := q.2.2.2.2.2.2.2.2.2
theorem RS.n (q : RS s R) : ri R 1 = nI (sN s) := q.tr.1
theorem RS.w (q : RS s R) : ri R 2 = nI (sW s) := q.tr.2.1
theorem LE.qf {n w : Nat} {f f' : AF} {X : LandV} (hn : n ≤ 12) (hw : w ≤ 6) (q : LE n w (ldR f 0) X) (e : ∀ i, i < 49 → f' i = f i) : LE n w (ldR f' 0) X := by
  refine LE.trans (M := ldR f 0) ⟨e 0 (by omega), fun k hk => ⟨?_, ?_, ?_⟩, fun k hk => ⟨?_, ?_⟩⟩ q
  · exact e (0 + 1 + k) (by omega)
  · exact e (0 + 13 + k) (by omega)
  · exact e (0 + 25 + k) (by omega)
  · exact e (0 + 37 + k) (by omega)
  · exact e (0 + 43 + k) (by omega)
theorem TR.qf {T : ToldV} (q : TR T R) (e : QF R R') : TR T R' := by
  obtain ⟨e1, e2, _⟩ := e
  unfold TR
  rw [e1 1 rfl, e1 2 rfl, e1 4 rfl, e1 5 rfl, e1 6 rfl, e2 1 rfl, e2 4 rfl]
  exact q
theorem RS.qf (hI : IV s) (q : RS s R) (e : QF R R') : RS s R' := by
  refine ⟨q.tr.qf e, ?_, ?_, ?_, ?_, q.le.qf hI.o2 hI.o3 e.2.2, ?_, ?_, ?_, ?_⟩
  · unfold KnR; rw [e.1 3 rfl, e.2.1 2 rfl, e.2.1 3 rfl]; exact q.kn
  · rw [e.1 12 rfl, e.2.1 5 rfl]; exact q.tp
  · rw [e.1 14 rfl]; exact q.fp
  · rw [e.2.1 6 rfl]; exact q.rf
  · rw [e.1 42 rfl, e.2.1 15 rfl]; exact q.pa
  · rw [e.1 51 rfl, e.2.1 24 rfl]; exact q.se
  · rw [e.1 57 rfl]; exact q.hi
  · intro z
    have := q.im z
    unfold ImR
    rw [e.2.1 28 rfl, e.1 58 rfl, e.2.1 29 rfl, e.1 59 rfl, e.2.1 30 rfl]
    exact this
end IVs
/-- a public method's answer, by the class's own -/
def PrM (h : Hp) (B : Nat) (cd : Bool → Int32) (s : CoreV) (m : Res) (v : Option Value) (h2 : Hp) : Prop := ∃ R', h2 = pR h B R' ∧ (match m with
  | .inl p => v = some (.int p.1) ∧ ri R' 0 = 0 ∧ RS p.2 R'
  | .inr b => (∃ a, v = some (.int a)) ∧ ri R' 0 = cd b ∧ RS s R')
abbrev cd2 : Bool → Int32 := fun b => if b then 1 else 2
abbrev cd1 : Bool → Int32 := fun _ => 1
/-- a trial: the rows at 49 hold Y -/
def TM (T : ToldV) (Y : LandV) (R : RefV) : Prop := TX T 49 Y R R
section TMs
variable {g : GG} {h : Hp} {B d D kc ks mc ms k : Nat} {T : ToldV} {X Y : LandV} {R R' : RefV} {s : CoreV}
theorem TX.qf {R0 : RefV} (q : TX T 49 Y R0 R) : QF R0 R := by
  obtain ⟨e1, e2, e3⟩ := q.df
  refine ⟨fun k _ => by rw [e1], fun c hc => ?_, fun i hi => q.rw_.2 i (fun z => by unfold InR at z; omega)⟩
  refine e3 c ?_ ?_ ?_ ?_ <;> (intro z; rw [z] at hc; exact absurd hc (by decide))
theorem TX.tm {R0 : RefV} (q : TX T 49 Y R0 R) : TM T Y R := ⟨q.1, q.2.1, q.tr, DF.refl R, q.rw_.1, fun _ _ => rfl⟩
theorem TM.a {c : Nat} {f : AF} (q : TM T Y R) (h1 : c ≠ 1) (h4 : c ≠ 4) (h14 : c ≠ 14) : TM T Y (sA R c f) := by
  refine ⟨q.1, q.2.1, ?_, DF.refl _, ?_, fun _ _ => rfl⟩
  · have := q.tr
    unfold TR at this ⊢
    rw [ra_sAn (fun e => h1 e.symm), ra_sAn (fun e => h4 e.symm)]
    exact this
  · rw [ra_sAn (fun e => h14 e.symm)]; exact q.rw_.1
theorem TM.i {k : Nat} {v : Int32} (q : TM T Y R) (hk : cI k = false) : TM T Y (sI R k v) := by
  refine ⟨q.1, q.2.1, q.tr.qf ((QF.refl R).i hk), DF.refl _, q.rw_.1, fun _ _ => rfl⟩
/-- after a call: the trial's land, what counts as before, ints as before -/
def AF_ (T : ToldV) (Y : LandV) (R R' : RefV) : Prop := TX T 49 Y R R'
theorem q_day {Pt : String → Hp → Prop} {Z : Nat → Nat → Hp → Prop} (hg : GOK g) (hR : RA h B R) (hX : TM T Y R) (hL : LOK (tN_ T) (tW T) Y) (hT : TD T) (hd : 15 ≤ D) (hk : kc ≤ mc ∧ ks ≤ ms) (hz : ∀ R', TX T 49 (dayT T Y) R R' → Z 0 0 (pR h B R')) :
    ∃ d1 P1 E1 m1 n1, CT g d1 yX12_dayGoes (wsC yX12_dayGoes cX12_dayGoes 3 none) [.ref B, .int 49] h m1 n1 P1 E1 ∧ (d1 + 1 ≤ D ∧ kc + m1 ≤ mc ∧ ks + n1 ≤ ms) ∧ (∀ E h', E1 E h' → Pt E h') ∧ (∀ v h1, P1 v h1 → v = none ∧ Z m1 n1 h1) :=
  use_vR (d_dayGoes (b := 49) (d := D - 1) hg (by omega) hR hX hL hT.1 hT.2) (by omega) hk hz
theorem q_days {m : Nat} {Pt : String → Hp → Prop} {Z : Nat → Nat → Hp → Prop} (hg : GOK g) (hR : RA h B R) (hX : TM T Y R) (hL : LOK (tN_ T) (tW T) Y) (hT : TD T) (hm : m < 1000) (hd : 16 ≤ D) (hk : kc ≤ mc ∧ ks ≤ ms) (hz : ∀ R', TX T 49 (daysT T m Y) R R' → Z 0 0 (pR h B R')) :
    ∃ d1 P1 E1 m1 n1, CT g d1 yX12_daysGo (wsC yX12_daysGo cX12_daysGo 3 none) [.ref B, .int (nI m)] h m1 n1 P1 E1 ∧ (d1 + 1 ≤ D ∧ kc + m1 ≤ mc ∧ ks + n1 ≤ ms) ∧ (∀ E h', E1 E h' → Pt E h') ∧ (∀ v h1, P1 v h1 → v = none ∧ Z m1 n1 h1) :=
  use_vR (d_daysGo (d := D - 1) hg (by omega) hR hX hL hT hm) (by omega) hk hz
theorem RS.tx (hI : IV s) (q : RS s R) : TX (sT s) 0 (sL s) R R := ⟨hI.tg.1, by omega, q.tr, DF.refl R, q.le, fun _ _ => rfl⟩
/-- the trial begins -/
def TryQ (s : CoreV) (R R' : RefV) : Prop := QF R R' ∧ TM (sT s) (sL s) R' ∧ ri R' = ri R ∧ ∀ c, c ≠ 14 → ra R' c = ra R c
theorem c_tries (hg : GOK g) (hd : 8 ≤ d) (hR : RA h B R) (hI : IV s) (hS : RS s R) : CT g d yX12_tries (wsC yX12_tries cX12_tries 2 none) [.ref B] h 0 0 (fun r h2 => r = none ∧ ∃ R', h2 = pR h B R' ∧ TryQ s R R') noT := by
  refine (d_tries hg hd hR (hS.tx hI)).mono (fun v h2 q => ?_) (fun _ _ q => q)
  obtain ⟨q1, f, q2, q3⟩ := q
  have hn := hI.o2
  have hw := hI.o3
  have n' : tN_ (sT s) ≤ 12 := hn
  have w' : tW (sT s) ≤ 6 := hw
  refine ⟨q1, _, q2, ⟨fun _ _ => rfl, fun c hc => ra_sAn (fun e => by rw [e] at hc; exact absurd hc (by decide)), fun i hi => by rw [ra_sA]; exact (q3 i hi).1⟩, ⟨hI.tg.1, by omega, ?_, DF.refl _, ?_, fun _ _ => rfl⟩, rfl, fun c hc => ra_sAn hc⟩
  · exact hS.tr.df ((DF.refl R).sA (by omega))
  · rw [ra_sA]
    refine LE.trans (M := ldR (ra R 14) 0) ⟨(q3 0 (by omega)).2, fun k hk => ⟨?_, ?_, ?_⟩, fun k hk => ⟨?_, ?_⟩⟩ hS.le
    · show f (49 + 1 + k) = ra R 14 (0 + 1 + k)
      rw [show 49 + 1 + k = 49 + (0 + 1 + k) by omega]; exact (q3 (0 + 1 + k) (by omega)).2
    · show f (49 + 13 + k) = ra R 14 (0 + 13 + k)
      rw [show 49 + 13 + k = 49 + (0 + 13 + k) by omega]; exact (q3 (0 + 13 + k) (by omega)).2
    · show f (49 + 25 + k) = ra R 14 (0 + 25 + k)
      rw [show 49 + 25 + k = 49 + (0 + 25 + k) by omega]; exact (q3 (0 + 25 + k) (by omega)).2
    · show f (49 + 37 + k) = ra R 14 (0 + 37 + k)
      rw [show 49 + 37 + k = 49 + (0 + 37 + k) by omega]; exact (q3 (0 + 37 + k) (by omega)).2
    · show f (49 + 43 + k) = ra R 14 (0 + 43 + k)
      rw [show 49 + 43 + k = 49 + (0 + 43 + k) by omega]; exact (q3 (0 + 43 + k) (by omega)).2
theorem q_try {Pt : String → Hp → Prop} {Z : Nat → Nat → Hp → Prop} (hg : GOK g) (hR : RA h B R) (hI : IV s) (hS : RS s R) (hd : 9 ≤ D) (hk : kc ≤ mc ∧ ks ≤ ms) (hz : ∀ R', TryQ s R R' → Z 0 0 (pR h B R')) :
    ∃ d1 P1 E1 m1 n1, CT g d1 yX12_tries (wsC yX12_tries cX12_tries 2 none) [.ref B] h m1 n1 P1 E1 ∧ (d1 + 1 ≤ D ∧ kc + m1 ≤ mc ∧ ks + n1 ≤ ms) ∧ (∀ E h', E1 E h' → Pt E h') ∧ (∀ v h1, P1 v h1 → v = none ∧ Z m1 n1 h1) :=
  use_vR (c_tries (d := D - 1) hg (by omega) hR hI hS) (by omega) hk hz
theorem c_goesTo {m : Nat} (hg : GOK g) (hd : 17 ≤ d) (hR : RA h B R) (hI : IV s) (hS : RS s R) (hm : m < 1000) : CT g d yX12_goesTo (wsC yX12_goesTo cX12_goesTo 2 none) [.ref B, .int (nI m)] h 0 0 (fun r h2 => r = none ∧ ∃ R', h2 = pR h B R' ∧ (QF R R' ∧ TM (sT s) (daysT (sT s) m (sL s)) R' ∧ ri R' = ri R)) noT := by
  refine CT_ofB (by decide +kernel) (Nat.le_of_ble_eq_true rfl) rfl fun K XX => ?_
  refine b_X12_goesTo_0 hg (by omega) k00 XX _ _ _ ⟨_, hR.o, q_try hg hR hI hS (by omega) k00 ?_⟩
  rintro R1 ⟨q1, t1, i1, _⟩
  have r1 := hR.put R1
  refine ⟨_, r1.o, q_days hg r1 t1 hI.lok hI.td hm (by omega) k00 ?_⟩
  intro R2 x2
  rw [hR.pp]
  exact ⟨rfl, R2, rfl, q1.trans x2.qf, x2.tm, by rw [x2.df.1, i1]⟩
theorem q_goesTo {m : Nat} {Pt : String → Hp → Prop} {Z : Nat → Nat → Hp → Prop} (hg : GOK g) (hR : RA h B R) (hI : IV s) (hS : RS s R) (hm : m < 1000) (hd : 18 ≤ D) (hk : kc ≤ mc ∧ ks ≤ ms) (hz : ∀ R', QF R R' ∧ TM (sT s) (daysT (sT s) m (sL s)) R' ∧ ri R' = ri R → Z 0 0 (pR h B R')) :
    ∃ d1 P1 E1 m1 n1, CT g d1 yX12_goesTo (wsC yX12_goesTo cX12_goesTo 2 none) [.ref B, .int (nI m)] h m1 n1 P1 E1 ∧ (d1 + 1 ≤ D ∧ kc + m1 ≤ mc ∧ ks + n1 ≤ ms) ∧ (∀ E h', E1 E h' → Pt E h') ∧ (∀ v h1, P1 v h1 → v = none ∧ Z m1 n1 h1) :=
  use_vR (c_goesTo (d := D - 1) hg (by omega) hR hI hS hm) (by omega) hk hz
/-! what calls need -/
theorem use_ck {y : MethodName} {ws : List Cond} {al : List Value} {c : Bool} {w : Int32} {Pt : String → Hp → Prop} {Z : Nat → Nat → Int32 → Hp → Prop} (hc : CT g d y ws al h 0 0 (fun v h2 => v = some (.int (if c then 1 else 0)) ∧ h2 = if c then h else pR h B (sI R 0 w)) noT) (hd : d + 1 ≤ D) (hk : kc ≤ mc ∧ ks ≤ ms) (yes : c = true → Z 0 0 1 h) (no : c = false → Z 0 0 0 (pR h B (sI R 0 w))) :
    ∃ d1 P1 E1 m1 n1, CT g d1 y ws al h m1 n1 P1 E1 ∧ (d1 + 1 ≤ D ∧ kc + m1 ≤ mc ∧ ks + n1 ≤ ms) ∧ (∀ E h', E1 E h' → Pt E h') ∧ (∀ v h1, P1 v h1 → ∃ x, v = some (.int x) ∧ Z m1 n1 x h1) := by
  refine ⟨d, _, _, 0, 0, hc, ⟨hd, hk.1, hk.2⟩, fun _ _ q => q.elim, fun v h1 q => ⟨_, q.1, ?_⟩⟩
  rw [q.2]
  cases c with
  | true => exact yes rfl
  | false => exact no rfl
theorem d_right (hg : GOK g) (hd : 8 ≤ d) (hR : RA h B R) (h0 : ri R 0 = 0) (c : Bool) {w : Int32} (hw : ¬ w = 0) : CT g d yX12_right (wsC yX12_right cX12_right 3 (some .boolean)) [.ref B, .int (if c then 1 else 0), .int w] h 0 0 (fun v h2 => v = some (.int (if c then 1 else 0)) ∧ h2 = if c then h else pR h B (sI R 0 w)) noT := by
  refine CT_ofB (by decide +kernel) (Nat.le_of_ble_eq_true rfl) rfl fun K XX => ?_
  refine b_X12_right_0 hg hd k00 XX _ _ _ _ ⟨_, hR.i0, fun q => absurd h0 q, fun _ => ⟨fun q => ?_, fun q => ⟨_, hR.w0 w, ?_⟩⟩⟩
  · cases c with
    | false => exact absurd rfl q
    | true => exact b_X12_right_16 hg hd k00 XX _ _ ⟨_, hR.i0, fun q => absurd h0 q, fun _ => ⟨Or.inr rfl, rfl, rfl⟩⟩
  · cases c with
    | true => exact absurd q (by decide)
    | false =>
      have r1 := hR.put (sI R 0 w)
      refine b_X12_right_16 hg hd k00 XX _ _ ⟨_, r1.i0, fun _ => ⟨Or.inl rfl, rfl, rfl⟩, fun q => ?_⟩
      rw [ri_sI] at q; exact absurd q hw
theorem d_isStretch {n : Nat} (hg : GOK g) (hd : 9 ≤ d) (hR : RA h B R) (h0 : ri R 0 = 0) (hn : ri R 1 = nI n) (v : Int32) : CT g d yX12_isStretch (wsC yX12_isStretch cX12_isStretch 2 (some .boolean)) [.ref B, .int v] h 0 0 (fun r h2 => r = some (.int (if inB n v then 1 else 0)) ∧ h2 = if inB n v then h else pR h B (sI R 0 1)) noT := by
  refine CT_ofB (by decide +kernel) (Nat.le_of_ble_eq_true rfl) rfl fun K XX => ?_
  have fin : ∀ c : Bool, inB n v = c → VB g K 2 d 0 0 (fun r h2 => r = some (.int (if inB n v then 1 else 0)) ∧ h2 = if inB n v then h else pR h B (sI R 0 1)) noT 0 0 18 [none, none] [.int (if c then 1 else 0), .ref B] h := by
    intro c hc
    rw [hc]
    refine b_X12_isStretch_18 hg (by omega) k00 XX _ _ _ ⟨_, hR.o, use_ck (d_right (d := d - 1) hg (by omega) hR h0 c (by decide)) (by omega) k00 (fun e => ?_) (fun e => ?_)⟩
    · rw [e]; exact ⟨Or.inr rfl, rfl, rfl⟩
    · rw [e]; exact ⟨Or.inl rfl, rfl, rfl⟩
  refine b_X12_isStretch_0 hg (by omega) k00 XX _ _ _ ⟨fun q => b_X12_isStretch_17 hg (by omega) k00 XX _ _ (fin false (by simp [inB, q])), fun q => ⟨_, by rw [hR.i1, hn], fun z => b_X12_isStretch_17 hg (by omega) k00 XX _ _ (fin false ?_), fun z => fin true ?_⟩⟩
  · have : ¬ v < nI n := Int32.not_lt.mpr z
    simp [inB, this]
  · have : v < nI n := Int32.not_le.mp z
    simp [inB, q, this]
theorem d_isWoman {n : Nat} (hg : GOK g) (hd : 9 ≤ d) (hR : RA h B R) (h0 : ri R 0 = 0) (hn : ri R 2 = nI n) (v : Int32) : CT g d yX12_isWoman (wsC yX12_isWoman cX12_isWoman 2 (some .boolean)) [.ref B, .int v] h 0 0 (fun r h2 => r = some (.int (if inB n v then 1 else 0)) ∧ h2 = if inB n v then h else pR h B (sI R 0 1)) noT := by
  refine CT_ofB (by decide +kernel) (Nat.le_of_ble_eq_true rfl) rfl fun K XX => ?_
  have fin : ∀ c : Bool, inB n v = c → VB g K 2 d 0 0 (fun r h2 => r = some (.int (if inB n v then 1 else 0)) ∧ h2 = if inB n v then h else pR h B (sI R 0 1)) noT 0 0 18 [none, none] [.int (if c then 1 else 0), .ref B] h := by
    intro c hc
    rw [hc]
    refine b_X12_isWoman_18 hg (by omega) k00 XX _ _ _ ⟨_, hR.o, use_ck (d_right (d := d - 1) hg (by omega) hR h0 c (by decide)) (by omega) k00 (fun e => ?_) (fun e => ?_)⟩
    · rw [e]; exact ⟨Or.inr rfl, rfl, rfl⟩
    · rw [e]; exact ⟨Or.inl rfl, rfl, rfl⟩
  refine b_X12_isWoman_0 hg (by omega) k00 XX _ _ _ ⟨fun q => b_X12_isWoman_17 hg (by omega) k00 XX _ _ (fin false (by simp [inB, q])), fun q => ⟨_, by rw [hR.i2, hn], fun z => b_X12_isWoman_17 hg (by omega) k00 XX _ _ (fin false ?_), fun z => fin true ?_⟩⟩
  · have : ¬ v < nI n := Int32.not_lt.mpr z
    simp [inB, this]
  · have : v < nI n := Int32.not_le.mp z
    simp [inB, q, this]
theorem wnB_wh (v m : Int32) : wnB v 0 m = whB v m := by
  unfold wnB whB
  by_cases e : m < v
  · have : ¬ v ≤ m := Int32.not_le.mpr e
    simp [e, this]
  · have : v ≤ m := Int32.not_lt.mp e
    simp [e, this]
theorem wnB_dy (v m : Int32) : wnB v m 60 = dyB v m := by
  unfold wnB dyB
  by_cases e : (60 : Int32) < v
  · have : ¬ v ≤ 60 := Int32.not_le.mpr e
    simp [e, this]
  · have : v ≤ 60 := Int32.not_lt.mp e
    simp [e, this]
theorem d_isWhat (hg : GOK g) (hd : 9 ≤ d) (hR : RA h B R) (h0 : ri R 0 = 0) (v m : Int32) : CT g d yX12_isWhat (wsC yX12_isWhat cX12_isWhat 3 (some .boolean)) [.ref B, .int v, .int m] h 0 0 (fun r h2 => r = some (.int (if whB v m then 1 else 0)) ∧ h2 = if whB v m then h else pR h B (sI R 0 1)) noT := by
  refine CT_ofB (by decide +kernel) (Nat.le_of_ble_eq_true rfl) rfl fun K XX => ?_
  refine b_X12_isWhat_0 hg (by omega) k00 XX _ _ _ _ (use_i (d_within (d := d - 1) hg (by omega) v 0 m) (by omega) k00 ?_)
  rw [wnB_wh]
  refine ⟨_, hR.o, use_ck (d_right (d := d - 1) hg (by omega) hR h0 (whB v m) (by decide)) (by omega) k00 (fun e => ?_) (fun e => ?_)⟩
  · rw [e]; exact ⟨Or.inr rfl, rfl, rfl⟩
  · rw [e]; exact ⟨Or.inl rfl, rfl, rfl⟩
theorem d_isDays (hg : GOK g) (hd : 9 ≤ d) (hR : RA h B R) (h0 : ri R 0 = 0) (v m : Int32) {w : Int32} (hw : ¬ w = 0) : CT g d yX12_isDays (wsC yX12_isDays cX12_isDays 4 (some .boolean)) [.ref B, .int v, .int m, .int w] h 0 0 (fun r h2 => r = some (.int (if dyB v m then 1 else 0)) ∧ h2 = if dyB v m then h else pR h B (sI R 0 w)) noT := by
  refine CT_ofB (by decide +kernel) (Nat.le_of_ble_eq_true rfl) rfl fun K XX => ?_
  refine b_X12_isDays_0 hg (by omega) k00 XX _ _ _ _ _ (use_i (d_within (d := d - 1) hg (by omega) v m 60) (by omega) k00 ?_)
  rw [wnB_dy]
  refine ⟨_, hR.o, use_ck (d_right (d := d - 1) hg (by omega) hR h0 (dyB v m) hw) (by omega) k00 (fun e => ?_) (fun e => ?_)⟩
  · rw [e]; exact ⟨Or.inr rfl, rfl, rfl⟩
  · rw [e]; exact ⟨Or.inl rfl, rfl, rfl⟩
end TMs
