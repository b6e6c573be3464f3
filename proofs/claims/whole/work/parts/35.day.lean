/-! LAND: a day -/
section C5
variable {g : GG} {h : Hp} {a b c d : Nat} {L : LandV} {T : ToldV}
def wth (x lo hi : Int32) : Int32 := if lo < (if x < hi then x else hi) then (if x < hi then x else hi) else lo
/-- the frays' rule and the pulls' rule: given or not, their codes' places -/
def TRu (T : ToldV) (f0 f1 p0 p1 : Nat) : Prop := RuOK (tFr T) f0 f1 ∧ RuOK (tPl T) p0 p1
def fraU (L : LandV) (i : Nat) : Int32 := if lSt L i = 1 then lStr L i / 9 / 2 else if lSt L i = 2 then lStr L i / 9 / 3 else lStr L i / 9
def fraE (T : ToldV) (f0 f1 : Nat) (L : LandV) (i : Nat) : Int32 := wth (if (tFr T).1 = 0 then fraU L i else ruE (tN_ T) (tW T) (tCo T) L i f0 f1) 0 20
def pulE (T : ToldV) (p0 p1 : Nat) (L : LandV) (i : Nat) : Int32 := wth (if (tPl T).1 = 0 then (besE (tN_ T) L i - 2 * lStr L i) / 9 else ruE (tN_ T) (tW T) (tCo T) L i p0 p1) (-9) 9
theorem c_fraysUntold (hg : GOK g) (hd : 8 ≤ d) (hL : LA h a L) {i : Nat} (hi : i < 12) : CT g d yX2_fraysUntold (wsC yX2_fraysUntold cX2_fraysUntold 3 (some .int)) [.ref a, .int (nI i)] h 0 0 (fun v h2 => v = some (.int (fraU L i)) ∧ h2 = h) noT := by
  refine CT_ofB (by decide +kernel) (Nat.le_of_ble_eq_true rfl) rfl fun K X => ?_
  refine b_X2_fraysUntold_0 hg hd k00 X _ _ _ ⟨_, hL.g1, _, hL.r1 hi, _, hL.g3, _, hL.r3 hi, fun q => ⟨_, hL.g3, _, hL.r3 hi, fun z => ?_, fun z => ?_⟩, fun q => ?_⟩
  · exact ⟨by simp [fraU, q, z], rfl⟩
  · exact ⟨by simp [fraU, z], rfl⟩
  · exact ⟨by simp [fraU, q], rfl⟩
theorem c_pullsBy {f0 f1 p0 p1 : Nat} (hg : GOK g) (hd : 11 ≤ d) (hL : LA h a L) (hT : TA h b T) (hO : TOK T) (hR : TRu T f0 f1 p0 p1) (hj : a + 7 ≤ b ∨ b + 12 ≤ a) {i : Nat} (hi : i < tN_ T) : CT g d yX2_pullsBy (wsC yX2_pullsBy cX2_pullsBy 4 (some .int)) [.ref a, .ref b, .int (nI i)] h 0 0 (fun v h2 => ∃ r, v = some (.int r) ∧ r = pulE T p0 p1 L i ∧ ∃ f, h2 = pT h b (sWt T f)) noT := by
  have hT0 : TA h b (sWt T (tWt T)) := hT
  refine CT_ofB (by decide +kernel) (Nat.le_of_ble_eq_true rfl) rfl fun K X => ?_
  have fin : ∀ (x : Int32) (f : AF), wth x (-9) 9 = pulE T p0 p1 L i → VB g K 4 d 0 0 (fun v h2 => ∃ r, v = some (.int r) ∧ r = pulE T p0 p1 L i ∧ ∃ f, h2 = pT h b (sWt T f)) noT 0 0 41 [none, none, none, none] [.int x] (pT h b (sWt T f)) := by
    intro x f hx
    exact b_X2_pullsBy_41 hg (by omega) k00 X _ _ (use_iN (c_within (d := d - 1) hg (by omega) x (-9) 9) (by omega) k00 ⟨_, rfl, hx, f, rfl⟩)
  have g0 : gI h (b + 9) 6 0 = some (tPl T).1 := by unfold gI; rw [hT.o9]; rfl
  have hi2 : i < 12 := by have := hO.2.1; omega
  refine b_X2_pullsBy_0 hg (by omega) k00 X _ _ _ _ ⟨_, hT.g8, _, g0, fun q => ⟨_, hL.o, use_i (c_besideOf (d := d - 1) hg (by omega) hL hT hO hi) (by omega) k00 ⟨_, hL.g1, _, hL.r1 hi2, ?_⟩⟩, fun q => ⟨_, hT.g8, _, hT.o, use_iP (c_worthOf (d := d - 1) hg (by omega) hL hT hO hj (RuAt_pl b T) hR.2 hi) (by omega) k00 ?_⟩⟩
  · have := fin ((besE (tN_ T) L i - 2 * lStr L i) / 9) (tWt T) (by rw [pulE, if_pos q])
    rw [show pT h b (sWt T (tWt T)) = h from hT0.id] at this
    exact this
  · rintro r h' ⟨rfl, f, rfl⟩
    exact fin _ f (by rw [pulE, if_neg q])
theorem c_fraysBy {f0 f1 p0 p1 : Nat} (hg : GOK g) (hd : 11 ≤ d) (hL : LA h a L) (hT : TA h b T) (hO : TOK T) (hR : TRu T f0 f1 p0 p1) (hj : a + 7 ≤ b ∨ b + 12 ≤ a) {i : Nat} (hi : i < tN_ T) : CT g d yX2_fraysBy (wsC yX2_fraysBy cX2_fraysBy 4 (some .int)) [.ref a, .ref b, .int (nI i)] h 0 0 (fun v h2 => ∃ r, v = some (.int r) ∧ r = fraE T f0 f1 L i ∧ ∃ f, h2 = pT h b (sWt T f)) noT := by
  have hT0 : TA h b (sWt T (tWt T)) := hT
  refine CT_ofB (by decide +kernel) (Nat.le_of_ble_eq_true rfl) rfl fun K X => ?_
  have fin : ∀ (x : Int32) (f : AF), wth x 0 20 = fraE T f0 f1 L i → VB g K 4 d 0 0 (fun v h2 => ∃ r, v = some (.int r) ∧ r = fraE T f0 f1 L i ∧ ∃ f, h2 = pT h b (sWt T f)) noT 0 0 28 [none, none, none, none] [.int x] (pT h b (sWt T f)) := by
    intro x f hx
    exact b_X2_fraysBy_28 hg (by omega) k00 X _ _ (use_iN (c_within (d := d - 1) hg (by omega) x 0 20) (by omega) k00 ⟨_, rfl, hx, f, rfl⟩)
  have g0 : gI h (b + 8) 6 0 = some (tFr T).1 := by unfold gI; rw [hT.o8]; rfl
  have hi2 : i < 12 := by have := hO.2.1; omega
  refine b_X2_fraysBy_0 hg (by omega) k00 X _ _ _ _ ⟨_, hT.g7, _, g0, fun q => ⟨_, hL.o, use_i (c_fraysUntold (d := d - 1) hg (by omega) hL hi2) (by omega) k00 ?_⟩, fun q => ⟨_, hT.g7, _, hT.o, use_iP (c_worthOf (d := d - 1) hg (by omega) hL hT hO hj (RuAt_fr b T) hR.1 hi) (by omega) k00 ?_⟩⟩
  · have := fin (fraU L i) (tWt T) (by rw [fraE, if_pos q])
    rw [show pT h b (sWt T (tWt T)) = h from hT0.id] at this
    exact this
  · rintro r h' ⟨rfl, f, rfl⟩
    exact fin _ f (by rw [fraE, if_neg q])
/-- the strains that are pulled, up to k -/
def setPu (L : LandV) (f : AF) : LandV := (lDay L, lStr L, lSm L, lSt L, lAt L, lTh L, f)
def setStr (L : LandV) (f : AF) : LandV := (lDay L, f, L.2.2)
def puTo (F : AF) (f : AF) : Nat → AF
  | 0 => f
  | k + 1 => upd (puTo F f k) k (F k)
theorem puTo_at (F f : AF) : ∀ (k i : Nat), puTo F f k i = if i < k then F i else f i := by
  intro k
  induction k with
  | zero => intro i; simp [puTo]
  | succ k ih =>
    intro i
    unfold puTo
    by_cases hik : i = k
    · subst hik; rw [pk_us, if_pos (by omega)]
    · rw [pk_un hik, ih]
      by_cases hi : i < k
      · rw [if_pos hi, if_pos (by omega)]
      · rw [if_neg hi, if_neg (by omega)]
/-- the frays, from i on, j of them -/
def wearP (n : Nat) (fr : LandV → Nat → Int32) : Nat → Nat → LandV → LandV
  | 0, _, L => L
  | j + 1, i, L => wearP n fr j (i + 1) (if lSm L i = 0 then L else wearL n L i (fr L i))
def pullP (pu : LandV → Nat → Int32) (L : LandV) (i : Nat) : Int32 := if lSm L i = 0 then lStr L i else wth (lStr L i + pu L i) 0 99
/-- the day's end: on a Thursday the women mend and go on -/
def dayEnd (n w : Nat) (wk : Int32) (sk : AF) (L : LandV) : LandV := if thuB wk (lDay L) then sDay (mendFrom n sk w 0 L) (lDay (mendFrom n sk w 0 L) + 1) else sDay L (lDay L + 1)
/-- a day, by the rules fr and pu -/
def dayP (n w : Nat) (wk : Int32) (sk : AF) (fr pu : LandV → Nat → Int32) (L : LandV) : LandV :=
  dayEnd n w wk sk (wearP n fr n 0 (setStr (setPu L (puTo (pullP pu L) (lPu L) n)) (cpyF (puTo (pullP pu L) (lPu L) n) (lStr L) 0 0 n 12)))
def dayL (T : ToldV) (f0 f1 p0 p1 : Nat) (L : LandV) : LandV := dayP (tN_ T) (tW T) (tWk T) (tSk T) (fraE T f0 f1) (pulE T p0 p1) L
end C5
section C6
variable {g : GG} {h : Hp} {a b c d : Nat} {L : LandV} {T : ToldV}
/-- h with what waits in Told replaced, and the Land -/
abbrev HH (h : Hp) (a b : Nat) (T : ToldV) (f : AF) (L : LandV) : Hp := pL (pT h b (sWt T f)) a L
theorem hhL (hL : LA h a L) (hj : a + 7 ≤ b ∨ b + 12 ≤ a) (f : AF) (L1 : LandV) : LA (HH h a b T f L1) a L1 := (hL.offT hj (sWt T f)).put L1
theorem hhT (hT : TA h b T) (hj : a + 7 ≤ b ∨ b + 12 ≤ a) (f : AF) (L1 : LandV) : TA (HH h a b T f L1) b (sWt T f) := (hT.put (sWt T f)).offL hj L1
theorem hhpL (hL : LA h a L) (hj : a + 7 ≤ b ∨ b + 12 ≤ a) (f : AF) (L1 L2 : LandV) : pL (HH h a b T f L1) a L2 = HH h a b T f L2 := (hL.offT hj (sWt T f)).pp L1 L2
theorem hhpT (hL : LA h a L) (hT : TA h b T) (hj : a + 7 ≤ b ∨ b + 12 ≤ a) (f f2 : AF) (L1 : LandV) : pT (HH h a b T f L1) b (sWt (sWt T f) f2) = HH h a b T f2 L1 := by
  have e1 : (landC a L1).length = 7 := rfl
  have e2 : (toldC b (sWt T f)).length = 12 := rfl
  have e3 : (toldC b (sWt T f2)).length = 12 := rfl
  have q1 := hL.le (by simp [landC])
  have q2 := hT.le (by simp [toldC])
  have e4 : (landC a L).length = 7 := rfl
  have e5 : (toldC b T).length = 12 := rfl
  show putC (putC (putC h b (toldC b (sWt T f))) a (landC a L1)) b (toldC b (sWt T f2)) = putC (putC h b (toldC b (sWt T f2))) a (landC a L1)
  rw [putC_swap (by omega) (by rw [putC_len]; omega) (by rw [putC_len]; omega), putC_putC (by rw [e2, e3]) (by omega)]
theorem hhid (hL : LA h a L) (hT : TA h b T) : HH h a b T (tWt T) L = h := by
  have hT0 : TA h b (sWt T (tWt T)) := hT
  show pL (pT h b (sWt T (tWt T))) a L = h
  rw [hT0.id, hL.id]
theorem LA.cp (q : LA h a L) {n : Nat} (hn : n ≤ 12) : cpA h (a + 6) 0 (a + 1) 0 (nI n) = some (pL h a (setStr L (cpyF (lPu L) (lStr L) 0 0 n 12))) := by
  unfold cpA
  rw [q.f6, q.f1]
  have e : (nI n).toNatClampNeg = n := nI_clamp (by omega)
  have e0 : (0 : Int32).toNatClampNeg = 0 := rfl
  have e1 : ¬ nI n < 0 := nI_pos (by omega)
  simp only [e, e0, e1]
  rw [if_neg (by simp; omega), q.set (j := 1) (by simp [landC])]
  rfl
theorem AtOK_wearL {n wm k m : Nat} {x : Int32} (hA : AtOK n wm L) : AtOK n wm (wearL m L k x) := by
  intro v hv
  obtain ⟨j, h1, h2⟩ := hA v hv
  refine ⟨j, h1, ?_⟩
  have key : ∀ (L : LandV) (i : Nat) (y : Int32), lAt (sifC L i y) = lAt L := by
    intro L i y; unfold sifC; split <;> rfl
  unfold wearL
  dsimp only
  split
  · show lAt (sifC (sifC (sSm L k _) _ _) _ _) v = _
    rw [key, key]; exact h2
  · exact h2
theorem pd_end {K : KX} {R L4 : LandV} {f : AF} (hg : GOK g) (hd : 12 ≤ d) (X : CB g K cX2_passDay 3 yX2_passDay none []) (hL : LA h a L) (hj : a + 7 ≤ b ∨ b + 12 ≤ a) (he : sDay L4 (lDay L4 + 1) = R) : VB g K 3 d 0 0 (fun v h2 => v = none ∧ ∃ f, h2 = HH h a b T f R) noT 0 0 127 [some (.ref a), none, none] [] (HH h a b T f L4) := by
  have l1 := hhL (T := T) hL hj f L4
  refine b_X2_passDay_127 hg (by omega) k00 X _ _ ⟨_, l1.g0, _, l1.w0, rfl, f, ?_⟩
  rw [hhpL hL hj, he]
theorem pd_mid {K : KX} {R L1 : LandV} {f : AF} {i : Nat} (hg : GOK g) (hd : 12 ≤ d) (X : CB g K cX2_passDay 3 yX2_passDay none []) (hL : LA h a L) (hT : TA h b T) (hO : TOK T) (hw : ¬ tWk T ≤ 0) (hA : AtOK (tN_ T) (tW T) L1) (hj : a + 7 ≤ b ∨ b + 12 ≤ a) (hi : i = tN_ T) (he : dayEnd (tN_ T) (tW T) (tWk T) (tSk T) L1 = R) : VB g K 3 d 0 0 (fun v h2 => v = none ∧ ∃ f, h2 = HH h a b T f R) noT 0 0 77 [some (.ref a), some (.ref b), some (.int (nI i))] [] (HH h a b T f L1) := by
  obtain ⟨o1, o2, o3⟩ := id hO
  have l1 := hhL (T := T) hL hj f L1
  have t1 := hhT hT hj f L1
  have hi2 : i < 13 := by omega
  refine b_X2_passDay_77 hg (by omega) k00 X _ _ _ _ ⟨_, t1.g0, fun _ => ⟨_, l1.g0, _, t1.o, use_i (c_isThursday (d := d - 1) hg (by omega) t1 hw _) (by omega) k00 ⟨fun q => ?_, fun q => ⟨_, l1.o, use_v (c_mendAll (d := d - 1) hg (by omega) t1 hO hj l1 hA) (by omega) k00 ?_⟩⟩⟩, fun q => absurd (nle_nI (x := tN_ T) (by omega) (by omega) q) (by omega)⟩
  · have hb : thuB (tWk T) (lDay L1) = false := by
      cases hz : thuB (tWk T) (lDay L1) with
      | false => rfl
      | true => rw [show thuB (tWk (sWt T f)) (lDay L1) = true from hz] at q; exact absurd q (by decide)
    rw [dayEnd, hb] at he
    exact pd_end hg hd X hL hj he
  · intro h' hh
    have hb : thuB (tWk T) (lDay L1) = true := by
      cases hz : thuB (tWk T) (lDay L1) with
      | true => rfl
      | false => rw [show thuB (tWk (sWt T f)) (lDay L1) = false from hz] at q; exact absurd rfl q
    rw [dayEnd, hb] at he
    rw [hh, hhpL hL hj]
    exact pd_end hg hd X hL hj he
theorem pd_loop2 {K : KX} {R : LandV} {f0 f1 p0 p1 : Nat} (hg : GOK g) (hd : 12 ≤ d) (X : CB g K cX2_passDay 3 yX2_passDay none []) (hL : LA h a L) (hT : TA h b T) (hO : TOK T) (hR : TRu T f0 f1 p0 p1) (hw : ¬ tWk T ≤ 0) (hj : a + 7 ≤ b ∨ b + 12 ≤ a) : ∀ (j i : Nat) (f : AF) (L1 : LandV), i + j = tN_ T → AtOK (tN_ T) (tW T) L1 → dayEnd (tN_ T) (tW T) (tWk T) (tSk T) (wearP (tN_ T) (fraE T f0 f1) j i L1) = R →
    VB g K 3 d 0 0 (fun v h2 => v = none ∧ ∃ f, h2 = HH h a b T f R) noT 0 0 77 [some (.ref a), some (.ref b), some (.int (nI i))] [] (HH h a b T f L1) := by
  obtain ⟨o1, o2, o3⟩ := id hO
  have hR' : ∀ f, TRu (sWt T f) f0 f1 p0 p1 := fun _ => hR
  intro j
  induction j with
  | zero =>
    intro i f L1 hi hA1 he
    exact pd_mid hg hd X hL hT hO hw hA1 hj (by omega) he
  | succ j ih =>
    intro i f L1 hi hA1 he
    have l1 := hhL (T := T) hL hj f L1
    have t1 := hhT hT hj f L1
    refine b_X2_passDay_77 hg (by omega) k00 X _ _ _ _ ⟨_, t1.g0, fun q => absurd (le_nI (by show tN_ T < _; omega) (by omega) q) (by show ¬ tN_ T ≤ _; omega), fun _ => ⟨_, l1.o, use_i (c_isOpen (d := d - 1) hg (by omega) l1 (k := i) (by omega)) (by omega) k00 ⟨fun q => ?_, fun q => ⟨_, l1.o, use_iP (c_fraysBy (d := d - 1) hg (by omega) l1 t1 hO (hR' f) hj (i := i) (by show i < tN_ T; omega)) (by omega) k00 ?_⟩⟩⟩⟩
    · have z : lSm L1 i = 0 := Classical.byContradiction fun z => by rw [if_neg z] at q; exact q rfl
      refine b_X2_passDay_105 hg (by omega) k00 X _ _ _ _ ?_
      rw [nI_s]
      refine ih (i + 1) f L1 (by omega) hA1 ?_
      rw [wearP, if_pos z] at he
      exact he
    · have z : ¬ lSm L1 i = 0 := fun z => by rw [if_pos z] at q; exact absurd q (by decide)
      rintro r h' ⟨hr, f2, hh⟩
      rw [hh, hhpT hL hT hj, hr]
      have l2 := hhL (T := T) hL hj f2 L1
      have t2 := hhT hT hj f2 L1
      refine ⟨_, l2.o, use_v (c_wear (d := d - 1) hg (by omega) l2 t2 hO hj (k := i) (by show i < tN_ T; omega) _) (by omega) k00 ?_⟩
      intro h3 hh3
      rw [hh3, hhpL hL hj]
      refine b_X2_passDay_105 hg (by omega) k00 X _ _ _ _ ?_
      rw [nI_s]
      rw [wearP, if_neg z] at he
      exact ih (i + 1) f2 _ (by omega) (AtOK_wearL hA1) he
theorem pd_loop1 {K : KX} {R : LandV} {f0 f1 p0 p1 : Nat} (hg : GOK g) (hd : 12 ≤ d) (X : CB g K cX2_passDay 3 yX2_passDay none []) (hL : LA h a L) (hT : TA h b T) (hO : TOK T) (hR : TRu T f0 f1 p0 p1) (hw : ¬ tWk T ≤ 0) (hA : AtOK (tN_ T) (tW T) L) (hj : a + 7 ≤ b ∨ b + 12 ≤ a) (he : dayL T f0 f1 p0 p1 L = R) : ∀ (j k : Nat) (f : AF), k + j = tN_ T → VB g K 3 d 0 0 (fun v h2 => v = none ∧ ∃ f, h2 = HH h a b T f R) noT 0 0 2 [some (.ref a), some (.ref b), some (.int (nI k))] [] (HH h a b T f (setPu L (puTo (pullP (pulE T p0 p1) L) (lPu L) k))) := by
  obtain ⟨o1, o2, o3⟩ := id hO
  have hR' : ∀ f, TRu (sWt T f) f0 f1 p0 p1 := fun _ => hR
  intro j
  induction j with
  | zero =>
    intro k f hk
    have hk' : k = tN_ T := by omega
    subst hk'
    have l1 := hhL (T := T) hL hj f (setPu L (puTo (pullP (pulE T p0 p1) L) (lPu L) (tN_ T)))
    have t1 := hhT hT hj f (setPu L (puTo (pullP (pulE T p0 p1) L) (lPu L) (tN_ T)))
    refine b_X2_passDay_2 hg (by omega) k00 X _ _ _ _ ⟨_, t1.g0, fun _ => ⟨_, l1.g6, _, l1.g1, _, t1.g0, _, l1.cp (n := tN_ T) (by omega), ?_⟩, fun q => absurd (nle_nI (x := tN_ T) (by omega) (by omega) q) (by omega)⟩
    rw [hhpL hL hj]
    exact pd_loop2 hg hd X hL hT hO hR hw hj (tN_ T) 0 f _ (by omega) hA he
  | succ j ih =>
    intro k f hk
    have l1 := hhL (T := T) hL hj f (setPu L (puTo (pullP (pulE T p0 p1) L) (lPu L) k))
    have t1 := hhT hT hj f (setPu L (puTo (pullP (pulE T p0 p1) L) (lPu L) k))
    have fin : ∀ (f2 : AF) (x : Int32), x = pullP (pulE T p0 p1) L k → VB g K 3 d 0 0 (fun v h2 => v = none ∧ ∃ f, h2 = HH h a b T f R) noT 0 0 51 [some (.ref a), some (.ref b), some (.int (nI k))] [.int x, .int (nI k), .ref (a + 6)] (HH h a b T f2 (setPu L (puTo (pullP (pulE T p0 p1) L) (lPu L) k))) := by
      intro f2 x hx
      have l2 := hhL (T := T) hL hj f2 (setPu L (puTo (pullP (pulE T p0 p1) L) (lPu L) k))
      refine b_X2_passDay_51 hg (by omega) k00 X _ _ _ _ _ _ _ ⟨_, l2.w6 (by omega), ?_⟩
      rw [hhpL hL hj, nI_s, hx]
      exact ih (k + 1) f2 (by omega)
    refine b_X2_passDay_2 hg (by omega) k00 X _ _ _ _ ⟨_, t1.g0, fun q => absurd (le_nI (by show tN_ T < _; omega) (by omega) q) (by show ¬ tN_ T ≤ _; omega), fun _ => ⟨_, l1.g6, _, l1.o, use_i (c_isOpen (d := d - 1) hg (by omega) l1 (k := k) (by omega)) (by omega) k00 ⟨fun q => ⟨_, l1.g1, _, l1.r1 (by omega), _, l1.o, use_iP (c_pullsBy (d := d - 1) hg (by omega) l1 t1 hO (hR' f) hj (i := k) (by show k < tN_ T; omega)) (by omega) k00 ?_⟩, fun q => ⟨_, l1.g1, _, l1.r1 (by omega), ?_⟩⟩⟩⟩
    · rintro r h' ⟨hr, f2, hh⟩
      rw [hh, hhpT hL hT hj, hr]
      have z : ¬ lSm L k = 0 := fun z => by
        have : (if lSm (setPu L (puTo (pullP (pulE T p0 p1) L) (lPu L) k)) k = 0 then (1 : Int32) else 0) = 1 := if_pos z
        rw [this] at q; exact absurd q (by decide)
      refine use_iN (c_within (d := d - 1) hg (by omega) _ 0 99) (by omega) k00 (fin f2 _ ?_)
      rw [pullP, if_neg z]
      rfl
    · have z : lSm L k = 0 := Classical.byContradiction fun z => by
        have : (if lSm (setPu L (puTo (pullP (pulE T p0 p1) L) (lPu L) k)) k = 0 then (1 : Int32) else 0) = 0 := if_neg z
        rw [this] at q; exact q rfl
      exact fin f _ (by rw [pullP, if_pos z]; rfl)
theorem c_passDay {f0 f1 p0 p1 : Nat} (hg : GOK g) (hd : 12 ≤ d) (hL : LA h a L) (hT : TA h b T) (hO : TOK T) (hR : TRu T f0 f1 p0 p1) (hw : ¬ tWk T ≤ 0) (hA : AtOK (tN_ T) (tW T) L) (hj : a + 7 ≤ b ∨ b + 12 ≤ a) : CT g d yX2_passDay (wsC yX2_passDay cX2_passDay 3 none) [.ref a, .ref b] h 0 0 (fun v h2 => v = none ∧ ∃ f, h2 = HH h a b T f (dayL T f0 f1 p0 p1 L)) noT := by
  refine CT_ofB (by decide +kernel) (Nat.le_of_ble_eq_true rfl) rfl fun K X => ?_
  refine b_X2_passDay_0 hg (by omega) k00 X _ _ _ ?_
  have := pd_loop1 hg hd X hL hT hO hR hw hA hj rfl (tN_ T) 0 (tWt T) (by omega)
  rw [show setPu L (puTo (pullP (pulE T p0 p1) L) (lPu L) 0) = L from rfl, hhid hL hT] at this
  exact this
end C6
