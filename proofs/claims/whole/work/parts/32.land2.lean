/-! LAND: wear, tear, mend, go on, bits and sums -/
section C2
variable {g : GG} {h : Hp} {a b d : Nat} {L : LandV} {T : ToldV}
theorem k00 : (0 : Nat) ≤ 0 ∧ (0 : Nat) ≤ 0 := ⟨Nat.le_refl _, Nat.le_refl _⟩
/-- the ring has 3 to 12 stretches, at most 6 women -/
def TOK (T : ToldV) : Prop := 3 ≤ tN_ T ∧ tN_ T ≤ 12 ∧ tW T ≤ 6
/-- the women stand on stretches -/
def AtOK (n wm : Nat) (L : LandV) : Prop := ∀ w, w < wm → ∃ j, j < n ∧ lAt L w = nI j
theorem c_within (hg : GOK g) (hd : 8 ≤ d) (x lo hi : Int32) : CT g d yX11_within (wsC yX11_within cX11_within 3 (some .int)) [.int x, .int lo, .int hi] h 0 0 (fun v h2 => v = some (.int (if lo < (if x < hi then x else hi) then (if x < hi then x else hi) else lo)) ∧ h2 = h) noT := by
  refine CT_ofB (by decide +kernel) (Nat.le_of_ble_eq_true rfl) rfl fun K X => ?_
  exact b_X11_within_0 hg hd k00 X _ _ _ _ ⟨rfl, rfl⟩
def wthn (x lo hi : Int32) : Int32 := if lo < (if x < hi then x else hi) then (if x < hi then x else hi) else lo
def max0 (x : Int32) : Int32 := if 0 < x then x else 0
/-- what is left of a seam; if nothing, half the strain goes over -/
def wearL (n : Nat) (L : LandV) (k : Nat) (x : Int32) : LandV :=
  let L1 := sSm L k (max0 (lSm L k - x))
  if lSm L1 k = 0 then
    let L2 := sifC L1 (aheN n k) (lStr L1 k / 2)
    let L3 := sifC L2 (aftN n k) (lStr L1 k / 2)
    sStr L3 k 0
  else L1
theorem c_wear (hg : GOK g) (hd : 10 ≤ d) (hL : LA h a L) (hT : TA h b T) (hO : TOK T) (hj : a + 7 ≤ b ∨ b + 12 ≤ a) {k : Nat} (hk : k < tN_ T) (x : Int32) : CT g d yX2_wear (wsC yX2_wear cX2_wear 5 none) [.ref a, .ref b, .int (nI k), .int x] h 0 0 (fun v h2 => v = none ∧ h2 = pL h a (wearL (tN_ T) L k x)) noT := by
  obtain ⟨o1, o2, o3⟩ := hO
  refine CT_ofB (by decide +kernel) (Nat.le_of_ble_eq_true rfl) rfl fun K X => ?_
  have q1 := hL.put (sSm L k (max0 (lSm L k - x)))
  have t1 := hT.offL hj (sSm L k (max0 (lSm L k - x)))
  refine b_X2_wear_0 hg (by omega) k00 X _ _ _ _ _ ⟨_, hL.g2, _, hL.g2, _, hL.r2 (by omega), _, hL.w2 (by omega), _, q1.g2, _, q1.r2 (by omega), fun z => ?_, fun z => ⟨_, q1.g1, _, q1.r1 (by omega), _, t1.o, use_i (c_ahead (d := d - 1) hg (by omega) t1 (by omega) o2 (by omega)) (by omega) k00 ⟨_, q1.o, use_v (c_strainIfClosed (d := d - 1) hg (by omega) q1 (k := aheN (tN_ T) k) (by have := aheN_lt (n := tN_ T) (k := k) (by omega) hk; omega) _) (by omega) k00 ?_⟩⟩⟩
  · refine ⟨rfl, ?_⟩
    simp only [wearL]
    rw [if_neg z]
    rfl
  · rintro _ rfl
    rw [hL.pp]
    have q2 := hL.put (sifC (sSm L k (max0 (lSm L k - x))) (aheN (tN_ T) k) (lStr (sSm L k (max0 (lSm L k - x))) k / 2))
    have t2 := hT.offL hj (sifC (sSm L k (max0 (lSm L k - x))) (aheN (tN_ T) k) (lStr (sSm L k (max0 (lSm L k - x))) k / 2))
    refine ⟨_, t2.o, use_i (c_after (d := d - 1) hg (by omega) t2 (by omega) o2) (by omega) k00 ⟨_, q2.o, use_v (c_strainIfClosed (d := d - 1) hg (by omega) q2 (k := aftN (tN_ T) k) (by have := aftN_lt (n := tN_ T) (k := k) (by omega); omega) _) (by omega) k00 ?_⟩⟩
    rintro _ rfl
    rw [hL.pp]
    have q3 := hL.put (sifC (sifC (sSm L k (max0 (lSm L k - x))) (aheN (tN_ T) k) (lStr (sSm L k (max0 (lSm L k - x))) k / 2)) (aftN (tN_ T) k) (lStr (sSm L k (max0 (lSm L k - x))) k / 2))
    refine ⟨_, q3.g1, _, q3.w1 (by omega), rfl, ?_⟩
    rw [hL.pp]
    simp only [wearL]
    rw [if_pos z]
def tearL (n : Nat) (L : LandV) (k : Nat) (x : Int32) : LandV := if lSm L k = 0 then L else wearL n L k x
theorem c_tearOff (hg : GOK g) (hd : 11 ≤ d) (hL : LA h a L) (hT : TA h b T) (hO : TOK T) (hj : a + 7 ≤ b ∨ b + 12 ≤ a) {k : Nat} (hk : k < tN_ T) (x : Int32) : CT g d yX2_tearOff (wsC yX2_tearOff cX2_tearOff 4 none) [.ref a, .ref b, .int (nI k), .int x] h 0 0 (fun v h2 => v = none ∧ h2 = pL h a (tearL (tN_ T) L k x)) noT := by
  refine CT_ofB (by decide +kernel) (Nat.le_of_ble_eq_true rfl) rfl fun K X => ?_
  have hk2 : k < 12 := by have := hO.2.1; omega
  refine b_X2_tearOff_0 hg (by omega) k00 X _ _ _ _ _ ⟨_, hL.o, use_i (c_isOpen (d := d - 1) hg (by omega) hL hk2) (by omega) k00 ⟨fun q => ?_, fun q => ⟨_, hL.o, use_v (c_wear (d := d - 1) hg (by omega) hL hT hO hj hk x) (by omega) k00 fun h' hh => ?_⟩⟩⟩
  · by_cases z : lSm L k = 0
    · exact ⟨rfl, by rw [tearL, if_pos z, hL.id]⟩
    · rw [if_neg z] at q; exact absurd rfl q
  · by_cases z : lSm L k = 0
    · rw [if_pos z] at q; cases q
    · exact ⟨rfl, by rw [tearL, if_neg z]; exact hh⟩
def giveL (L : LandV) (w : Nat) (x : Int32) : LandV := sTh L w (min99 (lTh L w + x))
theorem c_giveThread (hg : GOK g) (hd : 8 ≤ d) (hL : LA h a L) {k : Nat} (hk : k < 6) (x : Int32) : CT g d yX2_giveThread (wsC yX2_giveThread cX2_giveThread 3 none) [.ref a, .int (nI k), .int x] h 0 0 (fun v h2 => v = none ∧ h2 = pL h a (giveL L k x)) noT := by
  refine CT_ofB (by decide +kernel) (Nat.le_of_ble_eq_true rfl) rfl fun K X => ?_
  exact b_X2_giveThread_0 hg hd k00 X _ _ _ _ ⟨_, hL.g5, _, hL.g5, _, hL.r5 hk, _, hL.w5 hk, rfl, rfl⟩
/-- she mends where she is, if she has thread -/
def mendL (sk : AF) (L : LandV) (w : Nat) : LandV :=
  if lTh L w ≤ 0 then L else
    let j := (lAt L w).toNatClampNeg
    sSm (sTh L w (lTh L w - 1)) j (min99 (lSm L j + 2 * sk w + 3))
theorem c_mendBy (hg : GOK g) (hd : 8 ≤ d) (hL : LA h a L) (hT : TA h b T) (hj : a + 7 ≤ b ∨ b + 12 ≤ a) {w : Nat} (hw : w < 6) {j : Nat} (hjj : j < 12) (ha : lAt L w = nI j) : CT g d yX2_mendBy (wsC yX2_mendBy cX2_mendBy 4 none) [.ref a, .ref b, .int (nI w)] h 0 0 (fun v h2 => v = none ∧ h2 = pL h a (mendL (tSk T) L w)) noT := by
  refine CT_ofB (by decide +kernel) (Nat.le_of_ble_eq_true rfl) rfl fun K X => ?_
  have hc : (lAt L w).toNatClampNeg = j := by rw [ha]; exact nI_clamp (by omega)
  have q1 := hL.put (sTh L w (lTh L w - 1))
  have t1 := hT.offL hj (sTh L w (lTh L w - 1))
  refine b_X2_mendBy_0 hg hd k00 X _ _ _ _ ⟨_, hL.g4, _, hL.r4 hw, _, hL.g5, _, hL.r5 hw, fun z => ?_, fun z => ⟨fun y => ?_, fun y => ⟨fun x => ?_, fun x => ⟨_, hL.g5, _, hL.r5 hw, _, hL.w5 hw, _, q1.g2, _, q1.g2, ?_⟩⟩⟩⟩
  · exact ⟨rfl, by rw [mendL, if_pos z, hL.id]⟩
  · rw [ha] at y; exact absurd y (nI_pos (by omega))
  · rw [ha] at x; exact absurd x (nI_ge (b := 12) (by omega) (by omega))
  · rw [ha]
    refine ⟨_, q1.r2 hjj, _, t1.g5, _, t1.r1 hw, _, q1.w2 hjj, rfl, ?_⟩
    rw [hL.pp, mendL, if_neg z]
    simp only [hc]
    rfl
def goL (n : Nat) (L : LandV) (w : Nat) : LandV := sAt L w (nI (aftN n (lAt L w).toNatClampNeg))
theorem c_goOn (hg : GOK g) (hd : 9 ≤ d) (hL : LA h a L) (hT : TA h b T) (hO : TOK T) {w : Nat} (hw : w < 6) {j : Nat} (hjj : j < 12) (ha : lAt L w = nI j) : CT g d yX2_goOn (wsC yX2_goOn cX2_goOn 3 none) [.ref a, .ref b, .int (nI w)] h 0 0 (fun v h2 => v = none ∧ h2 = pL h a (goL (tN_ T) L w)) noT := by
  refine CT_ofB (by decide +kernel) (Nat.le_of_ble_eq_true rfl) rfl fun K X => ?_
  have hc : (lAt L w).toNatClampNeg = j := by rw [ha]; exact nI_clamp (by omega)
  refine b_X2_goOn_0 hg (by omega) k00 X _ _ _ _ ⟨_, hL.g4, _, hL.g4, _, hL.r4 hw, _, hT.o, ?_⟩
  rw [ha]
  exact use_i (c_after (d := d - 1) hg (by omega) hT (by omega) hO.2.1) (by omega) k00 ⟨_, hL.w4 hw, rfl, by rw [goL, hc]⟩
/-- a loop from k on, with n - k turns left -/
theorem upto {n : Nat} {P : Nat → Prop} (hn : P n) (hs : ∀ k, k < n → P (k + 1) → P k) : ∀ j k, k + j = n → P k := by
  intro j
  induction j with
  | zero => intro k hk; have : k = n := by omega
            rw [this]; exact hn
  | succ j ih => intro k hk; exact hs k (by omega) (ih (k + 1) (by omega))
/-- the women from w on mend and go on -/
def mendFrom (n : Nat) (sk : AF) : Nat → Nat → LandV → LandV
  | 0, _, L => L
  | j + 1, w, L => mendFrom n sk j (w + 1) (goL n (mendL sk L w) w)
theorem upd_ne {f : AF} {k j : Nat} {x : Int32} (hne : j ≠ k) : upd f k x j = f j := pk_un hne
theorem AtOK_mend {n wm : Nat} {sk : AF} {w : Nat} (hA : AtOK n wm L) : AtOK n wm (mendL sk L w) := by
  intro v hv
  obtain ⟨j, h1, h2⟩ := hA v hv
  refine ⟨j, h1, ?_⟩
  unfold mendL
  split
  · exact h2
  · exact h2
theorem AtOK_go {n wm : Nat} {w : Nat} (h0 : 0 < n) (hA : AtOK n wm L) : AtOK n wm (goL n L w) := by
  intro v hv
  by_cases hvw : v = w
  · subst hvw
    exact ⟨_, aftN_lt h0, pk_us⟩
  · obtain ⟨j, h1, h2⟩ := hA v hv
    exact ⟨j, h1, by show upd (lAt L) w _ v = _; rw [pk_un hvw]; exact h2⟩
theorem c_mendAll (hg : GOK g) (hd : 10 ≤ d) (hT : TA h b T) (hO : TOK T) (hj : a + 7 ≤ b ∨ b + 12 ≤ a) (hL : LA h a L) (hA : AtOK (tN_ T) (tW T) L) : CT g d yX2_mendAll (wsC yX2_mendAll cX2_mendAll 3 none) [.ref a, .ref b] h 0 0 (fun v h2 => v = none ∧ h2 = pL h a (mendFrom (tN_ T) (tSk T) (tW T) 0 L)) noT := by
  obtain ⟨o1, o2, o3⟩ := id hO
  refine CT_ofB (by decide +kernel) (Nat.le_of_ble_eq_true rfl) rfl fun K X => ?_
  refine b_X2_mendAll_0 hg (by omega) k00 X _ _ _ ?_
  have key : ∀ (j w : Nat) (L1 : LandV), w + j = tW T → AtOK (tN_ T) (tW T) L1 → mendFrom (tN_ T) (tSk T) j w L1 = mendFrom (tN_ T) (tSk T) (tW T) 0 L → VB g K 3 d 0 0 (fun v h2 => v = none ∧ h2 = pL h a (mendFrom (tN_ T) (tSk T) (tW T) 0 L)) noT 0 0 2 [some (.ref a), some (.ref b), some (.int (nI w))] [] (pL h a L1) := by
    intro j
    induction j with
    | zero =>
      intro w L1 hw hA1 he
      refine b_X2_mendAll_2 hg (by omega) k00 X _ _ _ _ ⟨_, (hT.offL hj L1).g1, fun z => ⟨rfl, ?_⟩, fun z => ?_⟩
      · rw [← he]; rfl
      · rw [nI_leI (by omega) (by omega)] at z; omega
    | succ j ih =>
      intro w L1 hw hA1 he
      have q1 := hL.put L1
      have t1 := hT.offL hj L1
      obtain ⟨i, i1, i2⟩ := hA1 w (by omega)
      refine b_X2_mendAll_2 hg (by omega) k00 X _ _ _ _ ⟨_, t1.g1, fun z => ?_, fun z => ⟨_, q1.o, use_v (c_mendBy (d := d - 1) hg (by omega) q1 t1 hj (by omega) (j := i) (by omega) i2) (by omega) k00 ?_⟩⟩
      · rw [nI_leI (by omega) (by omega)] at z; omega
      · rintro _ rfl
        rw [hL.pp]
        have hA2 := AtOK_mend (sk := tSk T) (w := w) hA1
        obtain ⟨i', i1', i2'⟩ := hA2 w (by omega)
        have q2 := hL.put (mendL (tSk T) L1 w)
        refine ⟨_, q2.o, use_v (c_goOn (d := d - 1) hg (by omega) q2 (hT.offL hj _) hO (by omega) (j := i') (by omega) i2') (by omega) k00 ?_⟩
        rintro _ rfl
        rw [hL.pp, nI_s]
        exact ih (w + 1) _ (by omega) (AtOK_go (by omega) hA2) he
  have := key (tW T) 0 L (by omega) hA rfl
  rw [hL.id] at this
  exact this
end C2
