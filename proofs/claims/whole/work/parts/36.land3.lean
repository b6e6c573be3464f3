/-! LAND: days, a gale, copies, who is idle -/
theorem cpA_of {h : Hp} {a0 a n0 n1 s t n : Nat} {f f1 : AF} (q0 : aF h 0 a0 = some (n0, f)) (q1 : aF h 0 a = some (n1, f1)) (h1 : s + n ≤ n0) (h2 : t + n ≤ n1) (h3 : n0 < 2 ^ 31) (h4 : n1 < 2 ^ 31) : cpA h a0 (nI s) a (nI t) (nI n) = some (h.set a (.inl (0, n1, .inl (cpyF f f1 s t n n1)))) := by
  unfold cpA
  rw [q0, q1]
  have e1 : (nI s).toNatClampNeg = s := nI_clamp (by omega)
  have e2 : (nI t).toNatClampNeg = t := nI_clamp (by omega)
  have e3 : (nI n).toNatClampNeg = n := nI_clamp (by omega)
  have p1 : ¬ nI s < 0 := nI_pos (by omega)
  have p2 : ¬ nI t < 0 := nI_pos (by omega)
  have p3 : ¬ nI n < 0 := nI_pos (by omega)
  simp only [e1, e2, e3, p1, p2, p3]
  rw [if_neg (by simp; omega)]
theorem cpyF_all (f f1 : AF) (n : Nat) : cpyF f f1 0 0 n n = f := by unfold cpyF; rw [if_pos ⟨rfl, rfl, rfl⟩]
section C7
variable {g : GG} {h : Hp} {a b c d : Nat} {L L2 : LandV} {T : ToldV}
def stSm (L : LandV) (f : AF) : LandV := (lDay L, lStr L, f, L.2.2.2)
def stSt (L : LandV) (f : AF) : LandV := (lDay L, lStr L, lSm L, f, L.2.2.2.2)
def stAt (L : LandV) (f : AF) : LandV := (lDay L, lStr L, lSm L, lSt L, f, L.2.2.2.2.2)
def stTh (L : LandV) (f : AF) : LandV := (lDay L, lStr L, lSm L, lSt L, lAt L, f, lPu L)
theorem LA.k1 (q : LA h a L) (q2 : LA h c L2) : cpA h (c + 1) 0 (a + 1) 0 12 = some (pL h a (setStr L (lStr L2))) := by
  have := cpA_of (s := 0) (t := 0) (n := 12) q2.f1 q.f1 (by omega) (by omega) (by omega) (by omega)
  rw [cpyF_all, q.set (j := 1) (by simp [landC])] at this
  exact this
theorem LA.k2 (q : LA h a L) (q2 : LA h c L2) : cpA h (c + 2) 0 (a + 2) 0 12 = some (pL h a (stSm L (lSm L2))) := by
  have := cpA_of (s := 0) (t := 0) (n := 12) q2.f2 q.f2 (by omega) (by omega) (by omega) (by omega)
  rw [cpyF_all, q.set (j := 2) (by simp [landC])] at this
  exact this
theorem LA.k3 (q : LA h a L) (q2 : LA h c L2) : cpA h (c + 3) 0 (a + 3) 0 12 = some (pL h a (stSt L (lSt L2))) := by
  have := cpA_of (s := 0) (t := 0) (n := 12) q2.f3 q.f3 (by omega) (by omega) (by omega) (by omega)
  rw [cpyF_all, q.set (j := 3) (by simp [landC])] at this
  exact this
theorem LA.k4 (q : LA h a L) (q2 : LA h c L2) : cpA h (c + 4) 0 (a + 4) 0 6 = some (pL h a (stAt L (lAt L2))) := by
  have := cpA_of (s := 0) (t := 0) (n := 6) q2.f4 q.f4 (by omega) (by omega) (by omega) (by omega)
  rw [cpyF_all, q.set (j := 4) (by simp [landC])] at this
  exact this
theorem LA.k5 (q : LA h a L) (q2 : LA h c L2) : cpA h (c + 5) 0 (a + 5) 0 6 = some (pL h a (stTh L (lTh L2))) := by
  have := cpA_of (s := 0) (t := 0) (n := 6) q2.f5 q.f5 (by omega) (by omega) (by omega) (by omega)
  rw [cpyF_all, q.set (j := 5) (by simp [landC])] at this
  exact this
/-- a copy: all but what is pulled -/
def cpyL (L L2 : LandV) : LandV := (lDay L2, lStr L2, lSm L2, lSt L2, lAt L2, lTh L2, lPu L)
theorem c_copyFrom (hg : GOK g) (hd : 8 ≤ d) (hL : LA h a L) (hL2 : LA h c L2) (hj : a + 7 ≤ c ∨ c + 7 ≤ a) : CT g d yX2_copyFrom (wsC yX2_copyFrom cX2_copyFrom 2 none) [.ref a, .ref c] h 0 0 (fun v h2 => v = none ∧ h2 = pL h a (cpyL L L2)) noT := by
  refine CT_ofB (by decide +kernel) (Nat.le_of_ble_eq_true rfl) rfl fun K X => ?_
  have hj' : c + 7 ≤ a ∨ a + 7 ≤ c := hj.symm
  have A1 := hL.put (sDay L (lDay L2))
  have B1 := hL2.offL hj' (sDay L (lDay L2))
  have A2 := hL.put (setStr (sDay L (lDay L2)) (lStr L2))
  have B2 := hL2.offL hj' (setStr (sDay L (lDay L2)) (lStr L2))
  have A3 := hL.put (stSm (setStr (sDay L (lDay L2)) (lStr L2)) (lSm L2))
  have B3 := hL2.offL hj' (stSm (setStr (sDay L (lDay L2)) (lStr L2)) (lSm L2))
  have A4 := hL.put (stSt (stSm (setStr (sDay L (lDay L2)) (lStr L2)) (lSm L2)) (lSt L2))
  have B4 := hL2.offL hj' (stSt (stSm (setStr (sDay L (lDay L2)) (lStr L2)) (lSm L2)) (lSt L2))
  have A5 := hL.put (stAt (stSt (stSm (setStr (sDay L (lDay L2)) (lStr L2)) (lSm L2)) (lSt L2)) (lAt L2))
  have B5 := hL2.offL hj' (stAt (stSt (stSm (setStr (sDay L (lDay L2)) (lStr L2)) (lSm L2)) (lSt L2)) (lAt L2))
  have w1 := A1.k1 B1
  have w2 := A2.k2 B2
  have w3 := A3.k3 B3
  have w4 := A4.k4 B4
  have w5 := A5.k5 B5
  rw [hL.pp] at w1 w2 w3 w4 w5
  exact b_X2_copyFrom_0 hg hd k00 X _ _ _ ⟨_, hL2.g0, _, hL.w0, _, B1.g1, _, A1.g1, _, w1, _, B2.g2, _, A2.g2, _, w2, _, B3.g3, _, A3.g3, _, w3, _, B4.g4, _, A4.g4, _, w4, _, B5.g5, _, A5.g5, _, w5, rfl, rfl⟩
def daysL (T : ToldV) (f0 f1 p0 p1 : Nat) : Nat → LandV → LandV
  | 0, L => L
  | k + 1, L => daysL T f0 f1 p0 p1 k (dayL T f0 f1 p0 p1 L)
theorem AtOK_mendFrom {n wm : Nat} {sk : AF} (h0 : 0 < n) : ∀ (j w : Nat) (L : LandV), AtOK n wm L → AtOK n wm (mendFrom n sk j w L) := by
  intro j
  induction j with
  | zero => intro w L hA; exact hA
  | succ j ih => intro w L hA; exact ih _ _ (AtOK_go h0 (AtOK_mend hA))
theorem AtOK_wearP {n wm : Nat} {fr : LandV → Nat → Int32} : ∀ (j i : Nat) (L : LandV), AtOK n wm L → AtOK n wm (wearP n fr j i L) := by
  intro j
  induction j with
  | zero => intro i L hA; exact hA
  | succ j ih =>
    intro i L hA
    rw [wearP]
    refine ih _ _ ?_
    split
    · exact hA
    · exact AtOK_wearL hA
theorem AtOK_dayP {n wm : Nat} {wk : Int32} {sk : AF} {fr pu : LandV → Nat → Int32} (h0 : 0 < n) (hA : AtOK n wm L) : AtOK n wm (dayP n wm wk sk fr pu L) := by
  have h3 := AtOK_wearP (fr := fr) n 0 (setStr (setPu L (puTo (pullP pu L) (lPu L) n)) (cpyF (puTo (pullP pu L) (lPu L) n) (lStr L) 0 0 n 12)) hA
  intro v hv
  rw [dayP, dayEnd]
  split
  · exact AtOK_mendFrom h0 _ _ _ h3 v hv
  · exact h3 v hv
theorem AtOK_day {f0 f1 p0 p1 : Nat} (h0 : 0 < tN_ T) (hA : AtOK (tN_ T) (tW T) L) : AtOK (tN_ T) (tW T) (dayL T f0 f1 p0 p1 L) := AtOK_dayP h0 hA
theorem c_passDays {f0 f1 p0 p1 : Nat} (hg : GOK g) (hd : 13 ≤ d) (hL : LA h a L) (hT : TA h b T) (hO : TOK T) (hR : TRu T f0 f1 p0 p1) (hw : ¬ tWk T ≤ 0) (hA : AtOK (tN_ T) (tW T) L) (hj : a + 7 ≤ b ∨ b + 12 ≤ a) {m : Nat} (hm : m < 1000) : CT g d yX2_passDays (wsC yX2_passDays cX2_passDays 4 none) [.ref a, .ref b, .int (nI m)] h 0 0 (fun v h2 => v = none ∧ ∃ f, h2 = HH h a b T f (daysL T f0 f1 p0 p1 m L)) noT := by
  refine CT_ofB (by decide +kernel) (Nat.le_of_ble_eq_true rfl) rfl fun K X => ?_
  refine b_X2_passDays_0 hg (by omega) k00 X _ _ _ _ ?_
  have key : ∀ (j k : Nat) (f : AF) (L1 : LandV), k + j = m → AtOK (tN_ T) (tW T) L1 → daysL T f0 f1 p0 p1 j L1 = daysL T f0 f1 p0 p1 m L → VB g K 4 d 0 0 (fun v h2 => v = none ∧ ∃ f, h2 = HH h a b T f (daysL T f0 f1 p0 p1 m L)) noT 0 0 2 [some (.ref a), some (.ref b), some (.int (nI m)), some (.int (nI k))] [] (HH h a b T f L1) := by
    intro j
    induction j with
    | zero =>
      intro k f L1 hk hA1 he
      refine b_X2_passDays_2 hg (by omega) k00 X _ _ _ _ _ ⟨fun _ => ⟨rfl, f, by rw [← he]; rfl⟩, fun q => absurd (nle_nI (by omega) (by omega) q) (by omega)⟩
    | succ j ih =>
      intro k f L1 hk hA1 he
      have l1 := hhL (T := T) hL hj f L1
      have t1 := hhT hT hj f L1
      refine b_X2_passDays_2 hg (by omega) k00 X _ _ _ _ _ ⟨fun q => absurd (le_nI (by omega) (by omega) q) (by omega), fun _ => ⟨_, l1.o, use_v (c_passDay (d := d - 1) (f0 := f0) (f1 := f1) (p0 := p0) (p1 := p1) hg (by omega) l1 t1 hO hR hw hA1 hj) (by omega) k00 ?_⟩⟩
      rintro h3 ⟨f2, hh⟩
      rw [hh]
      have e : HH (HH h a b T f L1) a b (sWt T f) f2 (dayL (sWt T f) f0 f1 p0 p1 L1) = HH h a b T f2 (dayL T f0 f1 p0 p1 L1) := by
        show pL (pT (HH h a b T f L1) b (sWt (sWt T f) f2)) a (dayL T f0 f1 p0 p1 L1) = _
        rw [hhpT hL hT hj, hhpL hL hj]
      rw [e, nI_s]
      exact ih (k + 1) f2 _ (by omega) (AtOK_day (by have := hO.1; omega) hA1) he
  have := key m 0 (tWt T) L (by omega) hA rfl
  rw [hhid hL hT] at this
  exact this
def galeFrom : Nat → Nat → LandV → LandV
  | 0, _, L => L
  | j + 1, i, L => galeFrom j (i + 1) (sifC L i 15)
theorem c_gale (hg : GOK g) (hd : 10 ≤ d) (hL : LA h a L) (hT : TA h b T) (hO : TOK T) (hj : a + 7 ≤ b ∨ b + 12 ≤ a) : CT g d yX2_gale (wsC yX2_gale cX2_gale 3 none) [.ref a, .ref b] h 0 0 (fun v h2 => v = none ∧ h2 = pL h a (galeFrom (tN_ T) 0 L)) noT := by
  obtain ⟨o1, o2, o3⟩ := id hO
  refine CT_ofB (by decide +kernel) (Nat.le_of_ble_eq_true rfl) rfl fun K X => ?_
  refine b_X2_gale_0 hg (by omega) k00 X _ _ _ ?_
  have key : ∀ (j i : Nat) (L1 : LandV), i + j = tN_ T → galeFrom j i L1 = galeFrom (tN_ T) 0 L → VB g K 3 d 0 0 (fun v h2 => v = none ∧ h2 = pL h a (galeFrom (tN_ T) 0 L)) noT 0 0 2 [some (.ref a), some (.ref b), some (.int (nI i))] [] (pL h a L1) := by
    intro j
    induction j with
    | zero =>
      intro i L1 hi he
      exact b_X2_gale_2 hg (by omega) k00 X _ _ _ _ ⟨_, (hT.offL hj L1).g0, fun _ => ⟨rfl, by rw [← he]; rfl⟩, fun q => absurd (nle_nI (by omega) (by omega) q) (by omega)⟩
    | succ j ih =>
      intro i L1 hi he
      have l1 := hL.put L1
      refine b_X2_gale_2 hg (by omega) k00 X _ _ _ _ ⟨_, (hT.offL hj L1).g0, fun q => absurd (le_nI (by omega) (by omega) q) (by omega), fun _ => ⟨_, l1.o, use_v (c_strainIfClosed (d := d - 1) hg (by omega) l1 (k := i) (by omega) 15) (by omega) k00 ?_⟩⟩
      intro h3 hh
      rw [hh, hL.pp, nI_s]
      exact ih (i + 1) _ (by omega) he
  have := key (tN_ T) 0 L (by omega) rfl
  rw [hL.id] at this
  exact this
/-- the idle: bare, or one of lesser number is at the same stretch -/
def idleF (L : LandV) (wm : Nat) : Nat → Int32
  | 0 => bitsF (fun w => lTh L w == 0) wm
  | w + 1 => if (bitsF (fun v => lAt L v == lAt L w) wm &&& ((1 : Int32) <<< (nI w &&& 31) - 1)) = 0 then idleF L wm w else idleF L wm w ||| ((1 : Int32) <<< (nI w &&& 31))
theorem c_idleBits (hg : GOK g) (hd : 9 ≤ d) (hL : LA h a L) (hT : TA h b T) (hO : TOK T) : CT g d yX2_idleBits (wsC yX2_idleBits cX2_idleBits 5 (some .int)) [.ref a, .ref b] h 0 0 (fun v h2 => v = some (.int (idleF L (tW T) (tW T))) ∧ h2 = h) noT := by
  obtain ⟨o1, o2, o3⟩ := id hO
  refine CT_ofB (by decide +kernel) (Nat.le_of_ble_eq_true rfl) rfl fun K X => ?_
  refine b_X2_idleBits_0 hg (by omega) k00 X _ _ _ ⟨_, hL.o, use_i (c_bareBits (d := d - 1) hg (by omega) hL hT hO) (by omega) k00 ?_⟩
  refine upto (n := tW T) (P := fun k => VB g K 5 d 0 0 (fun v h2 => v = some (.int (idleF L (tW T) (tW T))) ∧ h2 = h) noT 0 0 8 [some (.ref a), some (.ref b), some (.int (idleF L (tW T) k)), some (.int (nI k)), none] [] h) ?_ ?_ (tW T) 0 (by omega)
  · exact b_X2_idleBits_8 hg (by omega) k00 X _ _ _ _ _ ⟨_, hT.g1, fun _ => ⟨rfl, rfl⟩, fun q => absurd (nle_nI (by omega) (by omega) q) (by omega)⟩
  · intro k hk ih
    refine b_X2_idleBits_8 hg (by omega) k00 X _ _ _ _ _ ⟨_, hT.g1, fun q => absurd (le_nI (by omega) (by omega) q) (by omega), fun _ => ⟨_, hL.g4, _, hL.r4 (by omega), _, hL.o, use_i (c_womenBits (d := d - 1) hg (by omega) hL hT hO _) (by omega) k00 ⟨fun q => ?_, fun q => ?_⟩⟩⟩
    · refine b_X2_idleBits_46 hg (by omega) k00 X _ _ _ _ _ ?_
      rw [nI_s]
      have e : idleF L (tW T) (k + 1) = idleF L (tW T) k := if_pos q
      rw [e] at ih
      exact ih
    · refine b_X2_idleBits_46 hg (by omega) k00 X _ _ _ _ _ ?_
      rw [nI_s]
      have e : idleF L (tW T) (k + 1) = idleF L (tW T) k ||| ((1 : Int32) <<< (nI k &&& 31)) := if_neg q
      rw [e] at ih
      exact ih
end C7
