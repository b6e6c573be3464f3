/-! THE CLASS: calls within its methods, told over the whole state -/
/-- what must hold of the state: ranges that calls need -/
def RK (T : ToldV) : Prop := TRu T (tF0 T) (tF1 T) (tP0 T) (tP1 T)
def TG (T : ToldV) : Prop := TOK T ∧ RK T ∧ ¬ tWk T ≤ 0
def PG (P : PastV) : Prop := P.1 ≤ 40 ∧ P.2.1 < 40
def SG (n : Nat) (S : SeenV) : Prop := S.1 ≤ 8 ∧ SeOK S n
def IS (s : CoreV) : Prop := TG (sT s) ∧ AtOK (tN_ (sT s)) (tW (sT s)) (sL s) ∧ PG (sP s) ∧ SG (tN_ (sT s)) (sS s)
abbrev sN (s : CoreV) : Nat := tN_ (sT s)
abbrev sW (s : CoreV) : Nat := tW (sT s)
abbrev LEs (s : CoreV) (L M : LandV) : Prop := LE (sN s) (sW s) L M
abbrev Res : Type := (Int32 × CoreV) ⊕ Bool
def nmE (b : Bool) : String := if b then "java/util/NoSuchElementException" else "java/lang/IllegalArgumentException"
def PrC (h0 : Hp) (m : Res) (v : Option Value) (h2 : Hp) : Prop := ∃ a s' x', m = .inl (a, s') ∧ v = some (.int a) ∧ CA h0 h2 s' x'
def PtC (h0 : Hp) (s : CoreV) (m : Res) (E : String) (h2 : Hp) : Prop := ∃ b x', m = .inr b ∧ E = nmE b ∧ CA h0 h2 s x'
def inB (n : Nat) (v : Int32) : Bool := !(decide (v < 0)) && decide (v < nI n)
def whB (v m : Int32) : Bool := !(decide (v < 0)) && decide (v ≤ m)
def dyB (v m : Int32) : Bool := !(decide (v < m)) && decide (v ≤ 60)
abbrev cl (v : Int32) : Nat := v.toNatClampNeg
theorem nI_cl {v : Int32} (q : ¬ v < 0) : v = nI (cl v) := by
  have h1 : 0 ≤ v.toInt := by
    have : ¬ v.toInt < (0 : Int32).toInt := fun z => q (Int32.lt_iff_toInt_lt.mpr z)
    simpa using this
  apply Int32.toInt_inj.mp
  have h2 := Int32.toInt_lt v
  have e : cl v = v.toInt.toNat := rfl
  rw [show nI (cl v) = Int32.ofNat (cl v) from rfl, e, Int32.toInt_ofNat_of_lt (by omega)]
  omega
theorem inB_k {n : Nat} {v : Int32} (hn : n < 2 ^ 31) (q : inB n v = true) : v = nI (cl v) ∧ cl v < n := by
  simp only [inB, Bool.and_eq_true, Bool.not_eq_true', decide_eq_false_iff_not, decide_eq_true_eq] at q
  have e := nI_cl q.1
  refine ⟨e, ?_⟩
  have h2 := q.2
  rw [e] at h2
  have : cl v < 2 ^ 31 := by
    have := Int32.toInt_lt v
    have e : cl v = v.toInt.toNat := rfl
    omega
  exact (nI_ltI this hn).mp h2
theorem dyB_k {v : Int32} {m : Nat} (hm : m < 2 ^ 31) (q : dyB v (nI m) = true) : v = nI (cl v) ∧ m ≤ cl v ∧ cl v ≤ 60 := by
  simp only [dyB, Bool.and_eq_true, Bool.not_eq_true', decide_eq_false_iff_not, decide_eq_true_eq] at q
  have h0 : ¬ v < 0 := fun z => q.1 (by
    have h1 := Int32.lt_iff_toInt_lt.mp z
    refine Int32.lt_iff_toInt_lt.mpr ?_
    have : (nI m).toInt = m := Int32.toInt_ofNat_of_lt hm
    rw [this]
    have : (0 : Int32).toInt = 0 := rfl
    omega)
  have e := nI_cl h0
  have lt : cl v < 2 ^ 31 := by
    have := Int32.toInt_lt v
    have e : cl v = v.toInt.toNat := rfl
    omega
  refine ⟨e, ?_, ?_⟩
  · have h1 := q.1
    rw [e, nI_ltI lt hm] at h1
    omega
  · have h2 := q.2
    rw [e, show (60 : Int32) = nI 60 from rfl, nI_leI lt (by omega)] at h2
    exact h2
section US
variable {g : GG} {h0 h : Hp} {s : CoreV} {x : ScrV} {d D kc ks mc ms : Nat} {Pr : Option Value → Hp → Prop} {Pt : String → Hp → Prop}
theorem use_vT {d m n : Nat} {y : MethodName} {ws : List Cond} {al : List Value} {P : Hp → Prop} {E : String → Hp → Prop} {Z : Nat → Nat → Hp → Prop} (hc : CT g d y ws al h m n (fun v h2 => v = none ∧ P h2) E) (hd : d + 1 ≤ D) (hk : kc + m ≤ mc ∧ ks + n ≤ ms) (hE : ∀ E' h', E E' h' → Pt E' h') (hz : ∀ h', P h' → Z m n h') :
    ∃ d1 P1 E1 m1 n1, CT g d1 y ws al h m1 n1 P1 E1 ∧ (d1 + 1 ≤ D ∧ kc + m1 ≤ mc ∧ ks + n1 ≤ ms) ∧ (∀ E h', E1 E h' → Pt E h') ∧ (∀ v h1, P1 v h1 → v = none ∧ Z m1 n1 h1) :=
  ⟨d, _, _, m, n, hc, ⟨hd, hk.1, hk.2⟩, hE, fun v h1 q => ⟨q.1, hz _ q.2⟩⟩
theorem c_isStretch (hg : GOK g) (hd : 8 ≤ d) (hC : CA h0 h s x) (v : Int32) : CT g d yX11_isStretch (wsC yX11_isStretch cX11_isStretch 2 (some .boolean)) [.ref 0, .int v] h 0 0 (fun r h2 => r = some (.int (if inB (sN s) v then 1 else 0)) ∧ h2 = h) noT := by
  refine CT_ofB (by decide +kernel) (Nat.le_of_ble_eq_true rfl) rfl fun K X => ?_
  refine b_X11_isStretch_0 hg hd k00 X _ _ _ ⟨fun q => ⟨Or.inl rfl, by simp [inB, q], rfl⟩, fun q => ⟨_, hC.g6, _, hC.t.g0, fun z => ⟨Or.inl rfl, ?_, rfl⟩, fun z => ⟨Or.inr rfl, ?_, rfl⟩⟩⟩
  · have : ¬ v < nI (sN s) := Int32.not_lt.mpr z
    simp [inB, q, this]
  · have : v < nI (sN s) := Int32.not_le.mp z
    simp [inB, q, this]
theorem c_needStretch (hg : GOK g) (hd : 9 ≤ d) (hC : CA h0 h s x) (v : Int32) : CT g d yX11_needStretch (wsC yX11_needStretch cX11_needStretch 2 none) [.ref 0, .int v] h 1 6 (fun r h2 => r = none ∧ (inB (sN s) v = true ∧ h2 = h)) (fun E h2 => E = nmE true ∧ inB (sN s) v = false ∧ h2 = h ++ [dead]) := by
  refine CT_ofB (by decide +kernel) (Nat.le_of_ble_eq_true rfl) rfl fun K X => ?_
  refine b_X11_needStretch_0 hg (by omega) (by omega) X _ _ _ ⟨_, hC.o, use_i (c_isStretch (d := d - 1) hg (by omega) hC v) (by omega) (by omega) ⟨fun q => ⟨rfl, ?_, rfl⟩, fun q => ⟨by omega, rfl, ?_, rfl⟩⟩⟩
  · cases hz : inB (sN s) v with
    | true => rfl
    | false => rw [hz] at q; exact absurd rfl q
  · cases hz : inB (sN s) v with
    | false => rfl
    | true => rw [hz] at q; exact absurd q (by decide)
theorem c_needWoman (hg : GOK g) (hd : 8 ≤ d) (hC : CA h0 h s x) (v : Int32) : CT g d yX11_needWoman (wsC yX11_needWoman cX11_needWoman 2 none) [.ref 0, .int v] h 1 6 (fun r h2 => r = none ∧ (inB (sW s) v = true ∧ h2 = h)) (fun E h2 => E = nmE true ∧ inB (sW s) v = false ∧ h2 = h ++ [dead]) := by
  refine CT_ofB (by decide +kernel) (Nat.le_of_ble_eq_true rfl) rfl fun K X => ?_
  refine b_X11_needWoman_0 hg hd (by omega) X _ _ _ ⟨fun q => b_X11_needWoman_15 hg hd (by omega) X _ ⟨by omega, rfl, by simp [inB, q], rfl⟩, fun q => ⟨_, hC.g6, _, hC.t.g1, fun z => ⟨rfl, ?_, rfl⟩, fun z => b_X11_needWoman_15 hg hd (by omega) X _ ⟨by omega, rfl, ?_, rfl⟩⟩⟩
  · have : v < nI (sW s) := z
    simp [inB, q, this]
  · have : ¬ v < nI (sW s) := z
    simp [inB, this]
theorem c_needWhat (hg : GOK g) (hd : 8 ≤ d) (v m : Int32) : CT g d yX11_needWhat (wsC yX11_needWhat cX11_needWhat 2 none) [.int v, .int m] h 1 6 (fun r h2 => r = none ∧ (whB v m = true ∧ h2 = h)) (fun E h2 => E = nmE true ∧ whB v m = false ∧ h2 = h ++ [dead]) := by
  refine CT_ofB (by decide +kernel) (Nat.le_of_ble_eq_true rfl) rfl fun K X => ?_
  refine b_X11_needWhat_0 hg hd (by omega) X _ _ _ ⟨fun q => b_X11_needWhat_9 hg hd (by omega) X _ ⟨by omega, rfl, by simp [whB, q], rfl⟩, fun q => ⟨fun z => ⟨rfl, by simp [whB, q, z], rfl⟩, fun z => b_X11_needWhat_9 hg hd (by omega) X _ ⟨by omega, rfl, by simp [whB, z], rfl⟩⟩⟩
theorem c_needDays (hg : GOK g) (hd : 8 ≤ d) (v m : Int32) : CT g d yX11_needDays (wsC yX11_needDays cX11_needDays 2 none) [.int v, .int m] h 1 6 (fun r h2 => r = none ∧ (dyB v m = true ∧ h2 = h)) (fun E h2 => E = nmE false ∧ dyB v m = false ∧ h2 = h ++ [dead]) := by
  refine CT_ofB (by decide +kernel) (Nat.le_of_ble_eq_true rfl) rfl fun K X => ?_
  refine b_X11_needDays_0 hg hd (by omega) X _ _ _ ⟨fun q => b_X11_needDays_11 hg hd (by omega) X _ ⟨by omega, rfl, by simp [dyB, q], rfl⟩, fun q => ⟨fun z => ⟨rfl, by simp [dyB, q, z], rfl⟩, fun z => b_X11_needDays_11 hg hd (by omega) X _ ⟨by omega, rfl, by simp [dyB, z], rfl⟩⟩⟩
end US
section U2
variable {g : GG} {h0 h : Hp} {s : CoreV} {x : ScrV} {D kc ks mc ms : Nat} {Pt : String → Hp → Prop} {Z : Nat → Nat → Hp → Prop}
theorem st_nS {v : Int32} (hg : GOK g) (hC : CA h0 h s x) (hd : 10 ≤ D) (hk : kc + 1 ≤ mc ∧ ks + 6 ≤ ms) (no : inB (sN s) v = false → Pt (nmE true) (h ++ [dead])) (yes : inB (sN s) v = true → Z 1 6 h) :
    ∃ d1 P1 E1 m1 n1, CT g d1 yX11_needStretch (wsC yX11_needStretch cX11_needStretch 2 none) [.ref 0, .int v] h m1 n1 P1 E1 ∧ (d1 + 1 ≤ D ∧ kc + m1 ≤ mc ∧ ks + n1 ≤ ms) ∧ (∀ E h', E1 E h' → Pt E h') ∧ (∀ v h1, P1 v h1 → v = none ∧ Z m1 n1 h1) :=
  use_vT (c_needStretch (d := D - 1) hg (by omega) hC v) (by omega) hk (fun E' h' q => by rw [q.1, q.2.2]; exact no q.2.1) (fun h' q => by rw [q.2]; exact yes q.1)
theorem st_nW {v : Int32} (hg : GOK g) (hC : CA h0 h s x) (hd : 10 ≤ D) (hk : kc + 1 ≤ mc ∧ ks + 6 ≤ ms) (no : inB (sW s) v = false → Pt (nmE true) (h ++ [dead])) (yes : inB (sW s) v = true → Z 1 6 h) :
    ∃ d1 P1 E1 m1 n1, CT g d1 yX11_needWoman (wsC yX11_needWoman cX11_needWoman 2 none) [.ref 0, .int v] h m1 n1 P1 E1 ∧ (d1 + 1 ≤ D ∧ kc + m1 ≤ mc ∧ ks + n1 ≤ ms) ∧ (∀ E h', E1 E h' → Pt E h') ∧ (∀ v h1, P1 v h1 → v = none ∧ Z m1 n1 h1) :=
  use_vT (c_needWoman (d := D - 1) hg (by omega) hC v) (by omega) hk (fun E' h' q => by rw [q.1, q.2.2]; exact no q.2.1) (fun h' q => by rw [q.2]; exact yes q.1)
theorem st_wh {v m : Int32} (hg : GOK g) (hd : 10 ≤ D) (hk : kc + 1 ≤ mc ∧ ks + 6 ≤ ms) (no : whB v m = false → Pt (nmE true) (h ++ [dead])) (yes : whB v m = true → Z 1 6 h) :
    ∃ d1 P1 E1 m1 n1, CT g d1 yX11_needWhat (wsC yX11_needWhat cX11_needWhat 2 none) [.int v, .int m] h m1 n1 P1 E1 ∧ (d1 + 1 ≤ D ∧ kc + m1 ≤ mc ∧ ks + n1 ≤ ms) ∧ (∀ E h', E1 E h' → Pt E h') ∧ (∀ v h1, P1 v h1 → v = none ∧ Z m1 n1 h1) :=
  use_vT (c_needWhat (d := D - 1) hg (by omega) v m) (by omega) hk (fun E' h' q => by rw [q.1, q.2.2]; exact no q.2.1) (fun h' q => by rw [q.2]; exact yes q.1)
theorem st_dy {v m : Int32} (hg : GOK g) (hd : 10 ≤ D) (hk : kc + 1 ≤ mc ∧ ks + 6 ≤ ms) (no : dyB v m = false → Pt (nmE false) (h ++ [dead])) (yes : dyB v m = true → Z 1 6 h) :
    ∃ d1 P1 E1 m1 n1, CT g d1 yX11_needDays (wsC yX11_needDays cX11_needDays 2 none) [.int v, .int m] h m1 n1 P1 E1 ∧ (d1 + 1 ≤ D ∧ kc + m1 ≤ mc ∧ ks + n1 ≤ ms) ∧ (∀ E h', E1 E h' → Pt E h') ∧ (∀ v h1, P1 v h1 → v = none ∧ Z m1 n1 h1) :=
  use_vT (c_needDays (d := D - 1) hg (by omega) v m) (by omega) hk (fun E' h' q => by rw [q.1, q.2.2]; exact no q.2.1) (fun h' q => by rw [q.2]; exact yes q.1)
/-- the trial is as it is now -/
theorem st_copy (hg : GOK g) (hC : CA h0 h s x) (hd : 10 ≤ D) (hk : kc ≤ mc ∧ ks ≤ ms) (hz : ∀ h' x', CA h0 h' s x' → xSd x' = xSd x → LEs s (xTr x') (sL s) → Z 0 0 h') :
    ∃ d1 P1 E1 m1 n1, CT g d1 yX2_copyFrom (wsC yX2_copyFrom cX2_copyFrom 2 none) [.ref 54, .ref 27] h m1 n1 P1 E1 ∧ (d1 + 1 ≤ D ∧ kc + m1 ≤ mc ∧ ks + n1 ≤ ms) ∧ (∀ E h', E1 E h' → Pt E h') ∧ (∀ v h1, P1 v h1 → v = none ∧ Z m1 n1 h1) :=
  use_v (c_copyFrom (d := D - 1) hg (by omega) hC.tr hC.l (by omega)) (by omega) hk (fun h' q => by rw [q]; exact hz _ _ (hC.u_tr _) rfl (LE.cpy _ _ _ _))
theorem st_day {X : LandV} (hg : GOK g) (hC : CA h0 h s x) (hI : TG (sT s)) (hX : LEs s (xTr x) X) (hA : AtOK (sN s) (sW s) X) (hd : 14 ≤ D) (hk : kc ≤ mc ∧ ks ≤ ms) (hz : ∀ h' x', CA h0 h' s x' → xSd x' = xSd x → xBe x' = xBe x → LEs s (xTr x') (dayT (sT s) X) → Z 0 0 h') :
    ∃ d1 P1 E1 m1 n1, CT g d1 yX2_passDay (wsC yX2_passDay cX2_passDay 3 none) [.ref 54, .ref (tb s)] h m1 n1 P1 E1 ∧ (d1 + 1 ≤ D ∧ kc + m1 ≤ mc ∧ ks + n1 ≤ ms) ∧ (∀ E h', E1 E h' → Pt E h') ∧ (∀ v h1, P1 v h1 → v = none ∧ Z m1 n1 h1) := by
  refine use_v (c_passDay (d := D - 1) hg (by omega) hC.tr hC.t hI.1 hI.2.1 hI.2.2 (hX.symm.aok hA) (by have := tb_or s; omega)) (by omega) hk ?_
  rintro h' ⟨f, q⟩
  rw [q]
  exact hz _ _ ((hC.u_t (f, (xK x).2)).u_tr _) rfl rfl (hX.dT hI.1.2.1)
theorem st_days {X : LandV} {m : Nat} (hg : GOK g) (hC : CA h0 h s x) (hI : TG (sT s)) (hX : LEs s (xTr x) X) (hA : AtOK (sN s) (sW s) X) (hm : m < 1000) (hd : 15 ≤ D) (hk : kc ≤ mc ∧ ks ≤ ms) (hz : ∀ h' x', CA h0 h' s x' → xSd x' = xSd x → LEs s (xTr x') (daysT (sT s) m X) → Z 0 0 h') :
    ∃ d1 P1 E1 m1 n1, CT g d1 yX2_passDays (wsC yX2_passDays cX2_passDays 4 none) [.ref 54, .ref (tb s), .int (nI m)] h m1 n1 P1 E1 ∧ (d1 + 1 ≤ D ∧ kc + m1 ≤ mc ∧ ks + n1 ≤ ms) ∧ (∀ E h', E1 E h' → Pt E h') ∧ (∀ v h1, P1 v h1 → v = none ∧ Z m1 n1 h1) := by
  refine use_v (c_passDays (d := D - 1) hg (by omega) hC.tr hC.t hI.1 hI.2.1 hI.2.2 (hX.symm.aok hA) (by have := tb_or s; omega) hm) (by omega) hk ?_
  rintro h' ⟨f, q⟩
  have e : daysL (tO s x) (tF0 (sT s)) (tF1 (sT s)) (tP0 (sT s)) (tP1 (sT s)) m (xTr x) = daysT (sT s) m (xTr x) := by
    rw [← daysL_T]
    have key : ∀ (k : Nat) (L : LandV), daysL (tO s x) (tF0 (sT s)) (tF1 (sT s)) (tP0 (sT s)) (tP1 (sT s)) k L = daysL (sT s) (tF0 (sT s)) (tF1 (sT s)) (tP0 (sT s)) (tP1 (sT s)) k L := by
      intro k
      induction k with
      | zero => intro L; rfl
      | succ k ih => intro L; exact ih _
    exact key m _
  rw [q]
  refine hz _ _ ((hC.u_t (f, (xK x).2)).u_tr _) rfl ?_
  show LE _ _ (daysL (tO s x) (tF0 (sT s)) (tF1 (sT s)) (tP0 (sT s)) (tP1 (sT s)) m (xTr x)) _
  rw [e]
  exact hX.dsT hI.1.2.1 m
theorem c_lookAhead {d m : Nat} (hg : GOK g) (hd : 15 ≤ d) (hC : CA h0 h s x) (hI : IS s) (hm : m < 1000) : CT g d yX11_lookAhead (wsC yX11_lookAhead cX11_lookAhead 2 none) [.ref 0, .int (nI m)] h 0 0 (fun v h2 => v = none ∧ ∃ x', CA h0 h2 s x' ∧ LEs s (xTr x') (daysT (sT s) m (sL s))) noT := by
  refine CT_ofB (by decide +kernel) (Nat.le_of_ble_eq_true rfl) rfl fun K X => ?_
  refine b_X11_lookAhead_0 hg (by omega) k00 X _ _ _ ⟨_, hC.g11, _, hC.g8, _, hC.m0, _, hC.tr.o, st_copy hg hC (by omega) k00 fun h1 x1 c1 _ e1 => ⟨_, c1.g11, _, c1.g6, _, c1.tr.o, st_days hg c1 hI.1 e1 hI.2.1 hm (by omega) k00 fun h2 x2 c2 _ e2 => ?_⟩⟩
  exact ⟨rfl, x2, c2, e2⟩
theorem st_look {m : Nat} (hg : GOK g) (hC : CA h0 h s x) (hI : IS s) (hm : m < 1000) (hd : 16 ≤ D) (hk : kc ≤ mc ∧ ks ≤ ms) (hz : ∀ h' x', CA h0 h' s x' → LEs s (xTr x') (daysT (sT s) m (sL s)) → Z 0 0 h') :
    ∃ d1 P1 E1 m1 n1, CT g d1 yX11_lookAhead (wsC yX11_lookAhead cX11_lookAhead 2 none) [.ref 0, .int (nI m)] h m1 n1 P1 E1 ∧ (d1 + 1 ≤ D ∧ kc + m1 ≤ mc ∧ ks + n1 ≤ ms) ∧ (∀ E h', E1 E h' → Pt E h') ∧ (∀ v h1, P1 v h1 → v = none ∧ Z m1 n1 h1) :=
  use_v (c_lookAhead (d := D - 1) hg (by omega) hC hI hm) (by omega) hk (fun h' q => by obtain ⟨x', q1, q2⟩ := q; exact hz _ _ q1 q2)
end U2
