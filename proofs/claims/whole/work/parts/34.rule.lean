/-! RULES: what a rule's code gives -/
def bc1 (x : Int32) : Int32 := x - ((Int32.toUInt32 x >>> (Int32.toUInt32 (1 : Int32) &&& Int32.toUInt32 31)).toInt32 &&& (1431655765 : Int32))
def bc2 (x : Int32) : Int32 := (x &&& (858993459 : Int32)) + ((Int32.toUInt32 x >>> (Int32.toUInt32 (2 : Int32) &&& Int32.toUInt32 31)).toInt32 &&& (858993459 : Int32))
def bc3 (x : Int32) : Int32 := (x + (Int32.toUInt32 x >>> (Int32.toUInt32 (4 : Int32) &&& Int32.toUInt32 31)).toInt32) &&& (252645135 : Int32)
def bc4 (x : Int32) : Int32 := x + (Int32.toUInt32 x >>> (Int32.toUInt32 (8 : Int32) &&& Int32.toUInt32 31)).toInt32
def bc5 (x : Int32) : Int32 := x + (Int32.toUInt32 x >>> (Int32.toUInt32 (16 : Int32) &&& Int32.toUInt32 31)).toInt32
def bcE (x : Int32) : Int32 := bc5 (bc4 (bc3 (bc2 (bc1 x)))) &&& (63 : Int32)
def joinE (o x y : Int32) : Int32 := if o = -14 then x * y else if o = -13 then x - y else if o = -12 then x + y else if o = -11 then (if x = y then 1 else 0) else if o = -10 then (if y ≤ x then 0 else 1) else if o = -9 then (if x = 0 then 0 else if y = 0 then 0 else 1) else if o = -8 then (if x = 0 then (if y = 0 then 0 else 1) else 1) else (if y = 0 then 0 else x / y)
def besE (n : Nat) (L : LandV) (i : Nat) : Int32 := lStr L (aheN n i) + lStr L (aftN n i)
def valE (n wm : Nat) (L : LandV) (i : Nat) (v : Int32) : Int32 := if v = -5 then bcE (bitsF (fun w => lAt L w == nI i) wm) else if v = -4 then besE n L i else if v = -3 then lSt L i else if v = -2 then lSm L i else if v = -1 then lStr L i else lDay L
/-- from place k on, j codes; the stack, its top first -/
def evalR (co : AF) (val : Int32 → Int32) : Nat → Nat → List Int32 → Int32
  | 0, _, st => st.getLast?.getD 0
  | j + 1, k, st =>
    if ¬ co k ≤ -7 then (if st.length < 64 then evalR co val j (k + 1) ((if co k < 0 then val (co k) else co k) :: st) else 0)
    else if co k = -7 then (match st with
      | [] => 0
      | x :: r => evalR co val j (k + 1) ((if x = 0 then 1 else 0) :: r))
    else (match st with
      | y :: x :: r => evalR co val j (k + 1) (joinE (co k) x y :: r)
      | _ => 0)
theorem tI_eq {x y : Int32} (q : x.toInt = y.toInt) : x = y := Int32.toInt_inj.mp q
def sWt (T : ToldV) (f : AF) : ToldV := (tN_ T, tW T, tWk T, tWg T, tKg T, tSk T, tK T, tFr T, tPl T, tCo T, tCl T, f)
section TT
variable {h : Hp} {a b : Nat} {L : LandV} {T : ToldV}
theorem TA.put (q : TA h b T) (T' : ToldV) : TA (pT h b T') b T' := Chunk.put (q.le (by simp [toldC]))
theorem TA.pp (q : TA h b T) (T1 T2 : ToldV) : pT (pT h b T1) b T2 = pT h b T2 := putC_putC rfl (q.le (by simp [toldC]))
theorem TA.id (q : TA h b T) : pT h b T = h := putC_self q
theorem TA.f10 (q : TA h b T) : aF h 0 (b + 10) = some (700, tCo T) := aF_of (q 10 _ rfl)
theorem TA.f11 (q : TA h b T) : aF h 0 (b + 11) = some (64, tWt T) := aF_of (q 11 _ rfl)
theorem TA.r10 (q : TA h b T) {k : Nat} (hk : k < 700) : aI h 0 (b + 10) (nI k) = some (tCo T k) := aI_of q.f10 hk (by omega)
theorem TA.r11 (q : TA h b T) {k : Nat} (hk : k < 64) : aI h 0 (b + 11) (nI k) = some (tWt T k) := aI_of q.f11 hk (by omega)
theorem TA.w11 (q : TA h b T) {k : Nat} {x : Int32} (hk : k < 64) : uI h 0 (b + 11) (nI k) x = some (pT h b (sWt T (upd (tWt T) k x))) := by
  rw [uI_of q.f11 hk (by omega), q.set (j := 11) (by simp [toldC])]; rfl
theorem TA.l10 (q : TA h b T) : lenA h (b + 10) = some (nI 700) := by
  unfold lenA; rw [show h[b + 10]? = _ from q 10 _ rfl]; rfl
theorem TA.l11 (q : TA h b T) : lenA h (b + 11) = some (nI 64) := by
  unfold lenA; rw [show h[b + 11]? = _ from q 11 _ rfl]; rfl
theorem TA.o8 (q : TA h b T) : oF h (b + 8) 6 = some [.int (tFr T).1, .int (tFr T).2.1, .int (tFr T).2.2] := oF_of (q 8 _ rfl)
theorem TA.o9 (q : TA h b T) : oF h (b + 9) 6 = some [.int (tPl T).1, .int (tPl T).2.1, .int (tPl T).2.2] := oF_of (q 9 _ rfl)
end TT
section C4
variable {g : GG} {h : Hp} {a b d : Nat} {L : LandV} {T : ToldV}
theorem c_bitCount (hg : GOK g) (hd : 8 ≤ d) (x : Int32) : CT g d yJ6_bitCount_0f7a4 (wsC yJ6_bitCount_0f7a4 cJ6_bitCount_0f7a4 1 (some .int)) [.int x] h 0 0 (fun v h2 => v = some (.int (bcE x)) ∧ h2 = h) noT := by
  refine CT_ofB (by decide +kernel) (Nat.le_of_ble_eq_true rfl) rfl fun K X => ?_
  exact b_J6_bitCount_0f7a4_0 hg hd k00 X _ _ ⟨rfl, rfl⟩
theorem c_join (hg : GOK g) (hd : 8 ≤ d) (o x y : Int32) : CT g d yX9_join (wsC yX9_join cX9_join 3 (some .int)) [.int o, .int x, .int y] h 0 0 (fun v h2 => v = some (.int (joinE o x y)) ∧ h2 = h) noT := by
  refine CT_ofB (by decide +kernel) (Nat.le_of_ble_eq_true rfl) rfl fun K X => ?_
  refine b_X9_join_0 hg hd k00 X _ _ _ _ ⟨fun q => ?_, fun q => ?_, fun q => ?_, fun q => ?_, fun q => ?_, fun q => ?_, fun q => ?_, fun q => ?_⟩
  · have n1 : ¬ o = -14 := fun e => by rw [e] at q; revert q; decide
    have n2 : ¬ o = -13 := fun e => by rw [e] at q; revert q; decide
    have n3 : ¬ o = -12 := fun e => by rw [e] at q; revert q; decide
    have n4 : ¬ o = -11 := fun e => by rw [e] at q; revert q; decide
    have n5 : ¬ o = -10 := fun e => by rw [e] at q; revert q; decide
    have n6 : ¬ o = -9 := fun e => by rw [e] at q; revert q; decide
    have n7 : ¬ o = -8 := fun e => by rw [e] at q; revert q; decide
    exact ⟨fun z => ⟨z, by simp [joinE, n1, n2, n3, n4, n5, n6, n7, z], rfl⟩, fun z => ⟨by simp [joinE, n1, n2, n3, n4, n5, n6, n7, z], rfl⟩⟩
  · have e : o = -14 := tI_eq (by rw [q]; rfl)
    subst e; exact ⟨rfl, rfl⟩
  · have e : o = -13 := tI_eq (by rw [q]; rfl)
    subst e; exact ⟨rfl, rfl⟩
  · have e : o = -12 := tI_eq (by rw [q]; rfl)
    subst e; exact ⟨rfl, rfl⟩
  · have e : o = -11 := tI_eq (by rw [q]; rfl)
    subst e; exact ⟨fun z => ⟨by simp [joinE, z], rfl⟩, fun z => ⟨by simp [joinE, z], rfl⟩⟩
  · have e : o = -10 := tI_eq (by rw [q]; rfl)
    subst e; exact ⟨fun z => ⟨by simp [joinE, z], rfl⟩, fun z => ⟨by simp [joinE, z], rfl⟩⟩
  · have e : o = -9 := tI_eq (by rw [q]; rfl)
    subst e; exact ⟨fun z => ⟨by simp [joinE, z], rfl⟩, fun z => ⟨fun y1 => ⟨by simp [joinE, z, y1], rfl⟩, fun y1 => ⟨by simp [joinE, z, y1], rfl⟩⟩⟩
  · have e : o = -8 := tI_eq (by rw [q]; rfl)
    subst e
    exact ⟨fun z => b_X9_join_52 hg hd k00 X _ ⟨by simp [joinE, z], rfl⟩, fun z => ⟨fun y1 => ⟨by simp [joinE, z, y1], rfl⟩, fun y1 => b_X9_join_52 hg hd k00 X _ ⟨by simp [joinE, z, y1], rfl⟩⟩⟩
theorem c_besideOf (hg : GOK g) (hd : 8 ≤ d) (hL : LA h a L) (hT : TA h b T) (hO : TOK T) {k : Nat} (hk : k < tN_ T) : CT g d yX2_besideOf (wsC yX2_besideOf cX2_besideOf 4 (some .int)) [.ref a, .ref b, .int (nI k)] h 0 0 (fun v h2 => v = some (.int (besE (tN_ T) L k)) ∧ h2 = h) noT := by
  obtain ⟨o1, o2, o3⟩ := hO
  refine CT_ofB (by decide +kernel) (Nat.le_of_ble_eq_true rfl) rfl fun K X => ?_
  have hh := aheN_lt (n := tN_ T) (k := k) (by omega) hk
  have key : VB g K 4 d 0 0 (fun v h2 => v = some (.int (besE (tN_ T) L k)) ∧ h2 = h) noT 0 0 23 [some (.ref a), none, some (.int (nI k)), some (.int (nI (tN_ T - 1)))] [.int (nI (aheN (tN_ T) k)), .ref (a + 1)] h := by
    refine b_X2_besideOf_23 hg hd k00 X _ _ _ _ _ _ ⟨_, hL.r1 (by omega), _, hL.g1, fun q => ?_, fun q => ?_⟩
    · rw [nI_ltI (by omega) (by omega)] at q
      rw [nI_s]
      exact ⟨_, hL.r1 (by omega), by simp only [besE, aftN, if_pos (show k + 1 < tN_ T by omega)], rfl⟩
    · rw [nI_ltI (by omega) (by omega)] at q
      exact ⟨_, hL.r1 (k := 0) (by omega), by simp only [besE, aftN, if_neg (show ¬ k + 1 < tN_ T by omega)], rfl⟩
  refine b_X2_besideOf_0 hg hd k00 X _ _ _ _ ⟨_, hT.g0, _, hL.g1, fun q => ?_, fun q => ?_⟩
  · rw [nI_o, nI_leI (by omega) (by omega)] at q
    rw [nI_o, pk_sub (by omega), pk_sub q]
    have e : aheN (tN_ T) k = k - 1 := by simp only [aheN, if_neg (show ¬ k < 1 by omega)]
    rw [e] at key
    exact key
  · rw [nI_o, nI_leI (by omega) (by omega)] at q
    rw [nI_o, pk_sub (by omega)]
    have e : aheN (tN_ T) k = tN_ T - 1 := by simp only [aheN, if_pos (show k < 1 by omega)]
    rw [e] at key
    exact key
theorem c_valueOf (hg : GOK g) (hd : 9 ≤ d) (hL : LA h a L) (hT : TA h b T) (hO : TOK T) {k : Nat} (hk : k < tN_ T) (v : Int32) : CT g d yX2_valueOf (wsC yX2_valueOf cX2_valueOf 4 (some .int)) [.ref a, .ref b, .int v, .int (nI k)] h 0 0 (fun r h2 => r = some (.int (valE (tN_ T) (tW T) L k v)) ∧ h2 = h) noT := by
  obtain ⟨o1, o2, o3⟩ := id hO
  refine CT_ofB (by decide +kernel) (Nat.le_of_ble_eq_true rfl) rfl fun K X => ?_
  refine b_X2_valueOf_0 hg (by omega) k00 X _ _ _ _ _ ⟨fun q => ⟨_, hL.g0, ?_, rfl⟩, fun q => ⟨_, hL.o, use_i (c_womenBits (d := d - 1) hg (by omega) hL hT hO (nI k)) (by omega) k00 (use_i (c_bitCount (d := d - 1) hg (by omega) _) (by omega) k00 ⟨?_, rfl⟩)⟩, fun q => ⟨_, hL.o, use_i (c_besideOf (d := d - 1) hg (by omega) hL hT hO hk) (by omega) k00 ⟨?_, rfl⟩⟩, fun q => ⟨_, hL.g3, _, hL.r3 (by omega), ?_, rfl⟩, fun q => ⟨_, hL.g2, _, hL.r2 (by omega), ?_, rfl⟩, fun q => ⟨_, hL.g1, _, hL.r1 (by omega), ?_, rfl⟩⟩
  · have n1 : ¬ v = -5 := fun e => by rw [e] at q; revert q; decide
    have n2 : ¬ v = -4 := fun e => by rw [e] at q; revert q; decide
    have n3 : ¬ v = -3 := fun e => by rw [e] at q; revert q; decide
    have n4 : ¬ v = -2 := fun e => by rw [e] at q; revert q; decide
    have n5 : ¬ v = -1 := fun e => by rw [e] at q; revert q; decide
    simp [valE, n1, n2, n3, n4, n5]
  · have e : v = -5 := tI_eq (by rw [q]; rfl)
    subst e; rfl
  · have e : v = -4 := tI_eq (by rw [q]; rfl)
    subst e; rfl
  · have e : v = -3 := tI_eq (by rw [q]; rfl)
    subst e; rfl
  · have e : v = -2 := tI_eq (by rw [q]; rfl)
    subst e; rfl
  · have e : v = -1 := tI_eq (by rw [q]; rfl)
    subst e; rfl
/-- the stack lies in the row, its bottom first -/
def Stk (f : AF) : List Int32 → Prop
  | [] => True
  | x :: r => f r.length = x ∧ Stk f r
theorem Stk_upd {f : AF} {x : Int32} : ∀ {st : List Int32} {k : Nat}, st.length ≤ k → Stk f st → Stk (upd f k x) st := by
  intro st
  induction st with
  | nil => intro k _ _; trivial
  | cons y r ih =>
    intro k hk hs
    simp only [List.length_cons] at hk
    exact ⟨by rw [pk_un (by omega)]; exact hs.1, ih (by omega) hs.2⟩
theorem Stk_last {f : AF} : ∀ {st : List Int32}, Stk f st → 0 < st.length → st.getLast?.getD 0 = f 0 := by
  intro st
  induction st with
  | nil => intro _ h; simp at h
  | cons y r ih =>
    intro hs _
    cases r with
    | nil => simpa using hs.1.symm
    | cons z r => rw [List.getLast?_cons_cons]; exact ih hs.2 (by simp)
/-- a rule of T: where it lies, what it holds, whatever waits -/
def RuAt (b : Nat) (T : ToldV) (rr : Nat) (R : RuV) : Prop := ∀ (h' : Hp) (f : AF), TA h' b (sWt T f) → oF h' rr 6 = some [.int R.1, .int R.2.1, .int R.2.2]
theorem RuAt_fr (b : Nat) (T : ToldV) : RuAt b T (b + 8) (tFr T) := fun _ _ q => q.o8
theorem RuAt_pl (b : Nat) (T : ToldV) : RuAt b T (b + 9) (tPl T) := fun _ _ q => q.o9
/-- a rule's code: from p to q -/
def RuOK (R : RuV) (p q : Nat) : Prop := R.2.1 = nI p ∧ R.2.2 = nI q ∧ p ≤ q ∧ q ≤ 700
def ruE (n wm : Nat) (co : AF) (L : LandV) (i p q : Nat) : Int32 := evalR co (valE n wm L i) (q - p) p []
theorem c_worthOf {rr p q : Nat} {R : RuV} (hg : GOK g) (hd : 10 ≤ d) (hL : LA h a L) (hT : TA h b T) (hO : TOK T) (hj : a + 7 ≤ b ∨ b + 12 ≤ a) (hR : RuAt b T rr R) (hk2 : RuOK R p q) {i : Nat} (hi : i < tN_ T) : CT g d yX9_worthOf (wsC yX9_worthOf cX9_worthOf 7 (some .int)) [.ref b, .ref rr, .ref a, .int (nI i)] h 0 0 (fun v h2 => ∃ r, v = some (.int r) ∧ r = ruE (tN_ T) (tW T) (tCo T) L i p q ∧ ∃ f, h2 = pT h b (sWt T f)) noT := by
  obtain ⟨r1, r2, r3, r4⟩ := hk2
  refine CT_ofB (by decide +kernel) (Nat.le_of_ble_eq_true rfl) rfl fun K X => ?_
  have hT0 : TA h b (sWt T (tWt T)) := hT
  have hg1 : ∀ (h' : Hp) (f : AF), TA h' b (sWt T f) → gI h' rr 6 1 = some (nI p) ∧ gI h' rr 6 2 = some (nI q) := by
    intro h' f z
    have := hR h' f z
    constructor
    · unfold gI; rw [this, ← r1]; rfl
    · unfold gI; rw [this, ← r2]; rfl
  refine b_X9_worthOf_0 hg (by omega) k00 X _ _ _ _ _ ⟨_, (hg1 h _ hT0).1, ?_⟩
  have key : ∀ (j k : Nat) (st : List Int32) (f : AF), k + j = q → st.length ≤ 64 → Stk f st → evalR (tCo T) (valE (tN_ T) (tW T) L i) j k st = ruE (tN_ T) (tW T) (tCo T) L i p q → VB g K 7 d 0 0 (fun v h2 => ∃ r, v = some (.int r) ∧ r = ruE (tN_ T) (tW T) (tCo T) L i p q ∧ ∃ f, h2 = pT h b (sWt T f)) noT 0 0 9 [some (.ref b), some (.ref rr), some (.ref a), some (.int (nI i)), some (.int (nI st.length)), some (.int (nI k)), none] [] (pT h b (sWt T f)) := by
    intro j
    induction j with
    | zero =>
      intro k st f hkq hs hS he
      have t1 := hT.put (sWt T f)
      refine b_X9_worthOf_9 hg (by omega) k00 X _ _ _ _ _ _ _ ⟨_, (hg1 _ f t1).2, fun _ => ?_, fun z => absurd (nle_nI (by omega) (by omega) z) (by omega)⟩
      refine b_X9_worthOf_178 hg (by omega) k00 X _ _ _ ⟨fun z => ⟨_, t1.g11, _, t1.r11 (k := 0) (by omega), _, rfl, ?_, f, rfl⟩, fun z => ⟨_, rfl, ?_, f, rfl⟩⟩
      · rw [nI_o, nI_leI (by omega) (by omega)] at z
        rw [← he]
        exact (Stk_last hS (by omega)).symm
      · rw [nI_o, nI_leI (by omega) (by omega)] at z
        have : st = [] := List.length_eq_zero_iff.mp (by omega)
        rw [← he, this]
        rfl
    | succ j ih =>
      intro k st f hkq hs hS he
      have t1 := hT.put (sWt T f)
      have l1 := hL.offT hj (sWt T f)
      refine b_X9_worthOf_9 hg (by omega) k00 X _ _ _ _ _ _ _ ⟨_, (hg1 _ f t1).2, fun z => absurd (le_nI (by omega) (by omega) z) (by omega), fun _ => ⟨_, t1.g9, _, t1.l10, fun z => absurd (le_nI (by omega) (by omega) z) (by omega), fun _ => ⟨_, t1.g9, _, t1.r10 (by omega), fun c1 => ⟨fun c2 => ⟨fun c3 => ?_, fun c3 => ?_⟩, fun c2 => ⟨fun c3 => ?_, fun c3 => ?_⟩⟩, fun c1 => ⟨_, t1.g11, _, t1.l11, fun c2 => ⟨_, t1.g11, fun c3 => ⟨_, l1.o, ?_⟩, fun c3 => ?_⟩, fun c2 => ?_⟩⟩⟩⟩
      · -- a joint of two
        rw [show (2 : Int32) = nI 2 from rfl, nI_leI (by omega) (by omega)] at c3
        match st, hs, hS, he, c3 with
        | [], _, _, _, c3 => simp at c3
        | [_], _, _, _, c3 => simp at c3
        | y :: x :: r, hs, hS, he, c3 =>
          have c1' : tCo T k ≤ -7 := c1
          have c2' : ¬ tCo T k = -7 := c2
          simp only [List.length_cons] at hs ⊢
          rw [pk_m1, nI_o, pk_sub (by omega), show r.length + 1 - 1 = r.length by omega]
          refine ⟨_, t1.g11, _, t1.g11, _, t1.r11 (by omega), _, t1.g11, _, t1.r11 (by omega), use_i (c_join (d := d - 1) hg (by omega) _ _ _) (by omega) k00 ⟨_, t1.w11 (by omega), ?_⟩⟩
          rw [hT.pp]
          refine b_X9_worthOf_172 hg (by omega) k00 X _ _ _ _ _ _ _ ?_
          rw [nI_s]
          have e1 : tWt (sWt T f) r.length = x := hS.2.1
          have e2 : tWt (sWt T f) (r.length + 1) = y := hS.1
          rw [e1, e2]
          refine ih (k + 1) (joinE (tCo T k) x y :: r) (upd f r.length (joinE (tCo T k) x y)) (by omega) (by simp only [List.length_cons]; omega) ⟨pk_us, Stk_upd (Nat.le_refl _) hS.2.2⟩ ?_
          rw [← he]
          simp [evalR, c1', c2']
      · rw [show (2 : Int32) = nI 2 from rfl, nI_leI (by omega) (by omega)] at c3
        have c1' : tCo T k ≤ -7 := c1
        have c2' : ¬ tCo T k = -7 := c2
        refine ⟨_, rfl, ?_, f, rfl⟩
        rw [← he]
        match st, c3 with
        | [], _ => simp [evalR, c1', c2']
        | [_], _ => simp [evalR, c1', c2']
        | _ :: _ :: _, c3 => simp at c3
      · -- not
        rw [nI_o, nI_leI (by omega) (by omega)] at c3
        match st, hs, hS, he, c3 with
        | [], _, _, _, c3 => simp at c3
        | x :: r, hs, hS, he, c3 =>
          have c2' : tCo T k = -7 := c2
          have c1' : tCo T k ≤ -7 := c1
          simp only [List.length_cons] at hs ⊢
          rw [nI_o, pk_sub (by omega), show r.length + 1 - 1 = r.length by omega]
          have e1 : tWt (sWt T f) r.length = x := hS.1
          have fin : ∀ z : Int32, z = (if x = 0 then 1 else 0) → VB g K 7 d 0 0 (fun v h2 => ∃ r, v = some (.int r) ∧ r = ruE (tN_ T) (tW T) (tCo T) L i p q ∧ ∃ f, h2 = pT h b (sWt T f)) noT 0 0 127 [some (.ref b), some (.ref rr), some (.ref a), some (.int (nI i)), some (.int (nI (r.length + 1))), some (.int (nI k)), none] [.int z, .int (nI r.length), .ref (b + 11)] (pT h b (sWt T f)) := by
            intro z hz
            refine b_X9_worthOf_127 hg (by omega) k00 X _ _ _ _ _ _ _ _ _ _ ⟨_, t1.w11 (by omega), ?_⟩
            rw [hT.pp]
            refine b_X9_worthOf_172 hg (by omega) k00 X _ _ _ _ _ _ _ ?_
            rw [nI_s]
            refine ih (k + 1) (z :: r) (upd f r.length z) (by omega) (by simp only [List.length_cons]; omega) ⟨pk_us, Stk_upd (Nat.le_refl _) hS.2⟩ ?_
            rw [← he, hz]
            simp [evalR, c2']
          refine ⟨_, t1.g11, _, t1.g11, _, t1.r11 (by omega), fun z => ?_, fun z => ?_⟩
          · rw [e1] at z
            exact fin 0 (by rw [if_neg z])
          · rw [e1] at z
            exact fin 1 (by rw [if_pos z])
      · rw [nI_o, nI_leI (by omega) (by omega)] at c3
        have c2' : tCo T k = -7 := c2
        have : st = [] := List.length_eq_zero_iff.mp (by omega)
        refine ⟨_, rfl, ?_, f, rfl⟩
        rw [← he, this]
        simp [evalR, c2']
      · -- a value
        have c1' : ¬ tCo T k ≤ -7 := c1
        rw [nI_ltI (by omega) (by omega)] at c2
        refine use_i (c_valueOf (d := d - 1) hg (by omega) l1 t1 hO hi _) (by omega) k00 ?_
        refine b_X9_worthOf_80 hg (by omega) k00 X _ _ _ _ _ _ _ _ _ _ ⟨_, t1.w11 (by omega), ?_⟩
        rw [hT.pp]
        refine b_X9_worthOf_172 hg (by omega) k00 X _ _ _ _ _ _ _ ?_
        rw [nI_s, nI_s]
        refine ih (k + 1) (valE (tN_ T) (tW T) L i (tCo T k) :: st) (upd f st.length _) (by omega) (by simp only [List.length_cons]; omega) ⟨pk_us, Stk_upd (Nat.le_refl _) hS⟩ ?_
        rw [← he]
        have c3' : tCo T k < 0 := c3
        simp [evalR, c1', c2, c3']
      · have c1' : ¬ tCo T k ≤ -7 := c1
        have c3' : ¬ tCo T k < 0 := c3
        rw [nI_ltI (by omega) (by omega)] at c2
        refine b_X9_worthOf_80 hg (by omega) k00 X _ _ _ _ _ _ _ _ _ _ ⟨_, t1.w11 (by omega), ?_⟩
        rw [hT.pp]
        refine b_X9_worthOf_172 hg (by omega) k00 X _ _ _ _ _ _ _ ?_
        rw [nI_s, nI_s]
        refine ih (k + 1) (tCo T k :: st) (upd f st.length _) (by omega) (by simp only [List.length_cons]; omega) ⟨pk_us, Stk_upd (Nat.le_refl _) hS⟩ ?_
        rw [← he]
        simp [evalR, c1', c2, c3']
      · have c1' : ¬ tCo T k ≤ -7 := c1
        rw [nI_ltI (by omega) (by omega)] at c2
        refine ⟨_, rfl, ?_, f, rfl⟩
        rw [← he]
        simp [evalR, c1', c2]
  have := key (q - p) p [] (tWt T) (by omega) (by simp) trivial rfl
  rw [show pT h b (sWt T (tWt T)) = h from hT0.id] at this
  exact this
end C4
