/-! LAND: bits, sums, places -/
def bitsF (p : Nat → Bool) : Nat → Int32
  | 0 => 0
  | k + 1 => if p k then bitsF p k ||| ((1 : Int32) <<< (nI k &&& 31)) else bitsF p k
def sumF (f : AF) : Nat → Int32
  | 0 => 0
  | k + 1 => sumF f k + f k
/-- the first of the largest, from 1 on -/
def bestF (f : AF) : Nat → Nat
  | 0 => 0
  | k + 1 => if f (k + 1) ≤ f (bestF f k) then bestF f k else k + 1
def mostF (f : AF) : Nat → Int32
  | 0 => f 0
  | k + 1 => if mostF f k < f (k + 1) then f (k + 1) else mostF f k
def leastF (f : AF) : Nat → Int32
  | 0 => f 0
  | k + 1 => if f (k + 1) < leastF f k then f (k + 1) else leastF f k
section C3
variable {g : GG} {h : Hp} {a b d : Nat} {L : LandV} {T : ToldV}
theorem nle_nI {x y : Nat} (hx : x < 2 ^ 31) (hy : y < 2 ^ 31) (q : ¬ nI x ≤ nI y) : y < x := by
  rw [nI_leI hx hy] at q; omega
theorem le_nI {x y : Nat} (hx : x < 2 ^ 31) (hy : y < 2 ^ 31) (q : nI x ≤ nI y) : x ≤ y := (nI_leI hx hy).mp q
theorem c_openBits (hg : GOK g) (hd : 8 ≤ d) (hL : LA h a L) (hT : TA h b T) (hO : TOK T) : CT g d yX2_openBits (wsC yX2_openBits cX2_openBits 4 (some .int)) [.ref a, .ref b] h 0 0 (fun v h2 => v = some (.int (bitsF (fun k => lSm L k == 0) (tN_ T))) ∧ h2 = h) noT := by
  obtain ⟨o1, o2, o3⟩ := hO
  refine CT_ofB (by decide +kernel) (Nat.le_of_ble_eq_true rfl) rfl fun K X => ?_
  refine b_X2_openBits_0 hg hd k00 X _ _ _ ?_
  refine upto (n := tN_ T) (P := fun k => VB g K 4 d 0 0 (fun v h2 => v = some (.int (bitsF (fun k => lSm L k == 0) (tN_ T))) ∧ h2 = h) noT 0 0 4 [some (.ref a), some (.ref b), some (.int (bitsF (fun k => lSm L k == 0) k)), some (.int (nI k))] [] h) ?_ ?_ (tN_ T) 0 (by omega)
  · exact b_X2_openBits_4 hg hd k00 X _ _ _ _ _ ⟨_, hT.g0, fun _ => ⟨rfl, rfl⟩, fun q => absurd (nle_nI (by omega) (by omega) q) (by omega)⟩
  · intro k hk ih
    refine b_X2_openBits_4 hg hd k00 X _ _ _ _ _ ⟨_, hT.g0, fun q => absurd (le_nI (by omega) (by omega) q) (by omega), fun _ => ⟨_, hL.g2, _, hL.r2 (by omega), fun q => ?_, fun q => ?_⟩⟩
    · refine b_X2_openBits_27 hg hd k00 X _ _ _ _ _ ?_
      rw [nI_s]; simpa [bitsF, q] using ih
    · refine b_X2_openBits_27 hg hd k00 X _ _ _ _ _ ?_
      rw [nI_s]; simpa [bitsF, q] using ih
theorem c_strainedBits (hg : GOK g) (hd : 8 ≤ d) (hL : LA h a L) (hT : TA h b T) (hO : TOK T) (x : Int32) : CT g d yX2_strainedBits (wsC yX2_strainedBits cX2_strainedBits 5 (some .int)) [.ref a, .ref b, .int x] h 0 0 (fun v h2 => v = some (.int (bitsF (fun k => !decide (lStr L k < x)) (tN_ T))) ∧ h2 = h) noT := by
  obtain ⟨o1, o2, o3⟩ := hO
  refine CT_ofB (by decide +kernel) (Nat.le_of_ble_eq_true rfl) rfl fun K X => ?_
  refine b_X2_strainedBits_0 hg hd k00 X _ _ _ _ ?_
  refine upto (n := tN_ T) (P := fun k => VB g K 5 d 0 0 (fun v h2 => v = some (.int (bitsF (fun k => !decide (lStr L k < x)) (tN_ T))) ∧ h2 = h) noT 0 0 5 [some (.ref a), some (.ref b), some (.int x), some (.int (bitsF (fun k => !decide (lStr L k < x)) k)), some (.int (nI k))] [] h) ?_ ?_ (tN_ T) 0 (by omega)
  · exact b_X2_strainedBits_5 hg hd k00 X _ _ _ _ _ _ ⟨_, hT.g0, fun _ => ⟨rfl, rfl⟩, fun q => absurd (nle_nI (by omega) (by omega) q) (by omega)⟩
  · intro k hk ih
    refine b_X2_strainedBits_5 hg hd k00 X _ _ _ _ _ _ ⟨_, hT.g0, fun q => absurd (le_nI (by omega) (by omega) q) (by omega), fun _ => ⟨_, hL.g1, _, hL.r1 (by omega), fun q => ?_, fun q => ?_⟩⟩
    · refine b_X2_strainedBits_32 hg hd k00 X _ _ _ _ _ _ ?_
      rw [nI_s]; simpa [bitsF, q] using ih
    · refine b_X2_strainedBits_32 hg hd k00 X _ _ _ _ _ _ ?_
      rw [nI_s]; simpa [bitsF, q] using ih
theorem c_womenBits (hg : GOK g) (hd : 8 ≤ d) (hL : LA h a L) (hT : TA h b T) (hO : TOK T) (x : Int32) : CT g d yX2_womenBits (wsC yX2_womenBits cX2_womenBits 5 (some .int)) [.ref a, .ref b, .int x] h 0 0 (fun v h2 => v = some (.int (bitsF (fun w => lAt L w == x) (tW T))) ∧ h2 = h) noT := by
  obtain ⟨o1, o2, o3⟩ := hO
  refine CT_ofB (by decide +kernel) (Nat.le_of_ble_eq_true rfl) rfl fun K X => ?_
  refine b_X2_womenBits_0 hg hd k00 X _ _ _ _ ?_
  refine upto (n := tW T) (P := fun k => VB g K 5 d 0 0 (fun v h2 => v = some (.int (bitsF (fun w => lAt L w == x) (tW T))) ∧ h2 = h) noT 0 0 5 [some (.ref a), some (.ref b), some (.int x), some (.int (bitsF (fun w => lAt L w == x) k)), some (.int (nI k))] [] h) ?_ ?_ (tW T) 0 (by omega)
  · exact b_X2_womenBits_5 hg hd k00 X _ _ _ _ _ _ ⟨_, hT.g1, fun _ => ⟨rfl, rfl⟩, fun q => absurd (nle_nI (by omega) (by omega) q) (by omega)⟩
  · intro k hk ih
    refine b_X2_womenBits_5 hg hd k00 X _ _ _ _ _ _ ⟨_, hT.g1, fun q => absurd (le_nI (by omega) (by omega) q) (by omega), fun _ => ⟨_, hL.g4, _, hL.r4 (by omega), fun q => ?_, fun q => ?_⟩⟩
    · refine b_X2_womenBits_32 hg hd k00 X _ _ _ _ _ _ ?_
      rw [nI_s]; simpa [bitsF, q] using ih
    · refine b_X2_womenBits_32 hg hd k00 X _ _ _ _ _ _ ?_
      rw [nI_s]; simpa [bitsF, q] using ih
theorem c_bareBits (hg : GOK g) (hd : 8 ≤ d) (hL : LA h a L) (hT : TA h b T) (hO : TOK T) : CT g d yX2_bareBits (wsC yX2_bareBits cX2_bareBits 4 (some .int)) [.ref a, .ref b] h 0 0 (fun v h2 => v = some (.int (bitsF (fun w => lTh L w == 0) (tW T))) ∧ h2 = h) noT := by
  obtain ⟨o1, o2, o3⟩ := hO
  refine CT_ofB (by decide +kernel) (Nat.le_of_ble_eq_true rfl) rfl fun K X => ?_
  refine b_X2_bareBits_0 hg hd k00 X _ _ _ ?_
  refine upto (n := tW T) (P := fun k => VB g K 4 d 0 0 (fun v h2 => v = some (.int (bitsF (fun w => lTh L w == 0) (tW T))) ∧ h2 = h) noT 0 0 4 [some (.ref a), some (.ref b), some (.int (bitsF (fun w => lTh L w == 0) k)), some (.int (nI k))] [] h) ?_ ?_ (tW T) 0 (by omega)
  · exact b_X2_bareBits_4 hg hd k00 X _ _ _ _ _ ⟨_, hT.g1, fun _ => ⟨rfl, rfl⟩, fun q => absurd (nle_nI (by omega) (by omega) q) (by omega)⟩
  · intro k hk ih
    refine b_X2_bareBits_4 hg hd k00 X _ _ _ _ _ ⟨_, hT.g1, fun q => absurd (le_nI (by omega) (by omega) q) (by omega), fun _ => ⟨_, hL.g5, _, hL.r5 (by omega), fun q => ?_, fun q => ?_⟩⟩
    · refine b_X2_bareBits_27 hg hd k00 X _ _ _ _ _ ?_
      rw [nI_s]; simpa [bitsF, q] using ih
    · refine b_X2_bareBits_27 hg hd k00 X _ _ _ _ _ ?_
      rw [nI_s]; simpa [bitsF, q] using ih
theorem c_seamOfAll (hg : GOK g) (hd : 8 ≤ d) (hL : LA h a L) (hT : TA h b T) (hO : TOK T) : CT g d yX2_seamOfAll (wsC yX2_seamOfAll cX2_seamOfAll 4 (some .int)) [.ref a, .ref b] h 0 0 (fun v h2 => v = some (.int (sumF (lSm L) (tN_ T))) ∧ h2 = h) noT := by
  obtain ⟨o1, o2, o3⟩ := hO
  refine CT_ofB (by decide +kernel) (Nat.le_of_ble_eq_true rfl) rfl fun K X => ?_
  refine b_X2_seamOfAll_0 hg hd k00 X _ _ _ ?_
  refine upto (n := tN_ T) (P := fun k => VB g K 4 d 0 0 (fun v h2 => v = some (.int (sumF (lSm L) (tN_ T))) ∧ h2 = h) noT 0 0 4 [some (.ref a), some (.ref b), some (.int (sumF (lSm L) k)), some (.int (nI k))] [] h) ?_ ?_ (tN_ T) 0 (by omega)
  · exact b_X2_seamOfAll_4 hg hd k00 X _ _ _ _ _ ⟨_, hT.g0, fun _ => ⟨rfl, rfl⟩, fun q => absurd (nle_nI (by omega) (by omega) q) (by omega)⟩
  · intro k hk ih
    refine b_X2_seamOfAll_4 hg hd k00 X _ _ _ _ _ ⟨_, hT.g0, fun q => absurd (le_nI (by omega) (by omega) q) (by omega), fun _ => ⟨_, hL.g2, _, hL.r2 (by omega), ?_⟩⟩
    rw [nI_s]; exact ih
theorem c_threadOfAll (hg : GOK g) (hd : 8 ≤ d) (hL : LA h a L) (hT : TA h b T) (hO : TOK T) : CT g d yX2_threadOfAll (wsC yX2_threadOfAll cX2_threadOfAll 4 (some .int)) [.ref a, .ref b] h 0 0 (fun v h2 => v = some (.int (sumF (lTh L) (tW T))) ∧ h2 = h) noT := by
  obtain ⟨o1, o2, o3⟩ := hO
  refine CT_ofB (by decide +kernel) (Nat.le_of_ble_eq_true rfl) rfl fun K X => ?_
  refine b_X2_threadOfAll_0 hg hd k00 X _ _ _ ?_
  refine upto (n := tW T) (P := fun k => VB g K 4 d 0 0 (fun v h2 => v = some (.int (sumF (lTh L) (tW T))) ∧ h2 = h) noT 0 0 4 [some (.ref a), some (.ref b), some (.int (sumF (lTh L) k)), some (.int (nI k))] [] h) ?_ ?_ (tW T) 0 (by omega)
  · exact b_X2_threadOfAll_4 hg hd k00 X _ _ _ _ _ ⟨_, hT.g1, fun _ => ⟨rfl, rfl⟩, fun q => absurd (nle_nI (by omega) (by omega) q) (by omega)⟩
  · intro k hk ih
    refine b_X2_threadOfAll_4 hg hd k00 X _ _ _ _ _ ⟨_, hT.g1, fun q => absurd (le_nI (by omega) (by omega) q) (by omega), fun _ => ⟨_, hL.g5, _, hL.r5 (by omega), ?_⟩⟩
    rw [nI_s]; exact ih
theorem bestF_le (f : AF) (k : Nat) : bestF f k ≤ k := by
  induction k with
  | zero => exact Nat.le_refl _
  | succ k ih => unfold bestF; split <;> omega
theorem c_tightest (hg : GOK g) (hd : 8 ≤ d) (hL : LA h a L) (hT : TA h b T) (hO : TOK T) : CT g d yX2_tightest (wsC yX2_tightest cX2_tightest 4 (some .int)) [.ref a, .ref b] h 0 0 (fun v h2 => v = some (.int (nI (bestF (lStr L) (tN_ T - 1)))) ∧ h2 = h) noT := by
  obtain ⟨o1, o2, o3⟩ := hO
  refine CT_ofB (by decide +kernel) (Nat.le_of_ble_eq_true rfl) rfl fun K X => ?_
  refine b_X2_tightest_0 hg hd k00 X _ _ _ ?_
  refine upto (n := tN_ T - 1) (P := fun k => VB g K 4 d 0 0 (fun v h2 => v = some (.int (nI (bestF (lStr L) (tN_ T - 1)))) ∧ h2 = h) noT 0 0 4 [some (.ref a), some (.ref b), some (.int (nI (bestF (lStr L) k))), some (.int (nI (k + 1)))] [] h) ?_ ?_ (tN_ T - 1) 0 (by omega)
  · exact b_X2_tightest_4 hg hd k00 X _ _ _ _ _ ⟨_, hT.g0, fun _ => ⟨rfl, rfl⟩, fun q => absurd (nle_nI (by omega) (by omega) q) (by omega)⟩
  · intro k hk ih
    have hb := bestF_le (lStr L) k
    refine b_X2_tightest_4 hg hd k00 X _ _ _ _ _ ⟨_, hT.g0, fun q => absurd (le_nI (by omega) (by omega) q) (by omega), fun _ => ⟨_, hL.g1, _, hL.r1 (by omega), _, hL.g1, _, hL.r1 (by omega), fun q => ?_, fun q => ?_⟩⟩
    · refine b_X2_tightest_29 hg hd k00 X _ _ _ _ _ ?_
      rw [nI_s]; simpa [bestF, q] using ih
    · refine b_X2_tightest_29 hg hd k00 X _ _ _ _ _ ?_
      rw [nI_s]; simpa [bestF, q] using ih
theorem c_mostStrain (hg : GOK g) (hd : 8 ≤ d) (hL : LA h a L) (hT : TA h b T) (hO : TOK T) : CT g d yX2_mostStrain (wsC yX2_mostStrain cX2_mostStrain 4 (some .int)) [.ref a, .ref b] h 0 0 (fun v h2 => v = some (.int (mostF (lStr L) (tN_ T - 1))) ∧ h2 = h) noT := by
  obtain ⟨o1, o2, o3⟩ := hO
  refine CT_ofB (by decide +kernel) (Nat.le_of_ble_eq_true rfl) rfl fun K X => ?_
  refine b_X2_mostStrain_0 hg hd k00 X _ _ _ ⟨_, hL.g1, _, hL.r1 (k := 0) (by omega), ?_⟩
  refine upto (n := tN_ T - 1) (P := fun k => VB g K 4 d 0 0 (fun v h2 => v = some (.int (mostF (lStr L) (tN_ T - 1))) ∧ h2 = h) noT 0 0 9 [some (.ref a), some (.ref b), some (.int (mostF (lStr L) k)), some (.int (nI (k + 1)))] [] h) ?_ ?_ (tN_ T - 1) 0 (by omega)
  · exact b_X2_mostStrain_9 hg hd k00 X _ _ _ _ _ ⟨_, hT.g0, fun _ => ⟨rfl, rfl⟩, fun q => absurd (nle_nI (by omega) (by omega) q) (by omega)⟩
  · intro k hk ih
    refine b_X2_mostStrain_9 hg hd k00 X _ _ _ _ _ ⟨_, hT.g0, fun q => absurd (le_nI (by omega) (by omega) q) (by omega), fun _ => ⟨_, hL.g1, _, hL.r1 (by omega), ?_⟩⟩
    rw [nI_s]; exact ih
theorem c_leastStrain (hg : GOK g) (hd : 8 ≤ d) (hL : LA h a L) (hT : TA h b T) (hO : TOK T) : CT g d yX2_leastStrain (wsC yX2_leastStrain cX2_leastStrain 4 (some .int)) [.ref a, .ref b] h 0 0 (fun v h2 => v = some (.int (leastF (lStr L) (tN_ T - 1))) ∧ h2 = h) noT := by
  obtain ⟨o1, o2, o3⟩ := hO
  refine CT_ofB (by decide +kernel) (Nat.le_of_ble_eq_true rfl) rfl fun K X => ?_
  refine b_X2_leastStrain_0 hg hd k00 X _ _ _ ⟨_, hL.g1, _, hL.r1 (k := 0) (by omega), ?_⟩
  refine upto (n := tN_ T - 1) (P := fun k => VB g K 4 d 0 0 (fun v h2 => v = some (.int (leastF (lStr L) (tN_ T - 1))) ∧ h2 = h) noT 0 0 9 [some (.ref a), some (.ref b), some (.int (leastF (lStr L) k)), some (.int (nI (k + 1)))] [] h) ?_ ?_ (tN_ T - 1) 0 (by omega)
  · exact b_X2_leastStrain_9 hg hd k00 X _ _ _ _ _ ⟨_, hT.g0, fun _ => ⟨rfl, rfl⟩, fun q => absurd (nle_nI (by omega) (by omega) q) (by omega)⟩
  · intro k hk ih
    refine b_X2_leastStrain_9 hg hd k00 X _ _ _ _ _ ⟨_, hT.g0, fun q => absurd (le_nI (by omega) (by omega) q) (by omega), fun _ => ⟨_, hL.g1, _, hL.r1 (by omega), ?_⟩⟩
    rw [nI_s]; exact ih
/-- whether strains and seams are alike up to k -/
def likeF (f1 f2 s1 s2 : AF) (k : Nat) : Bool := (List.range k).all (fun i => f1 i == f2 i && s1 i == s2 i)
theorem likeF_no {f1 f2 s1 s2 : AF} {n k : Nat} (hk : k < n) (q : ¬ (f1 k = f2 k ∧ s1 k = s2 k)) : likeF f1 f2 s1 s2 n = false := by
  cases hb : likeF f1 f2 s1 s2 n with
  | false => rfl
  | true =>
    have := List.all_eq_true.mp hb k (List.mem_range.mpr hk)
    simp only [Bool.and_eq_true, beq_iff_eq] at this
    exact absurd this q
theorem likeF_yes {f1 f2 s1 s2 : AF} {n : Nat} (q : ∀ k, k < n → f1 k = f2 k ∧ s1 k = s2 k) : likeF f1 f2 s1 s2 n = true := by
  refine List.all_eq_true.mpr fun i hi => ?_
  have := q i (List.mem_range.mp hi)
  simp [this.1, this.2]
theorem c_isLike {c : Nat} {L2 : LandV} (hg : GOK g) (hd : 8 ≤ d) (hL : LA h a L) (hL2 : LA h c L2) (hT : TA h b T) (hO : TOK T) : CT g d yX2_isLike (wsC yX2_isLike cX2_isLike 4 (some .boolean)) [.ref a, .ref c, .ref b] h 0 0 (fun v h2 => v = some (.int (if likeF (lStr L) (lStr L2) (lSm L) (lSm L2) (tN_ T) then 1 else 0)) ∧ h2 = h) noT := by
  obtain ⟨o1, o2, o3⟩ := hO
  refine CT_ofB (by decide +kernel) (Nat.le_of_ble_eq_true rfl) rfl fun K X => ?_
  refine b_X2_isLike_0 hg hd k00 X _ _ _ _ ?_
  have key := upto (n := tN_ T) (P := fun k => (∀ i, i < k → lStr L i = lStr L2 i ∧ lSm L i = lSm L2 i) → VB g K 4 d 0 0 (fun v h2 => v = some (.int (if likeF (lStr L) (lStr L2) (lSm L) (lSm L2) (tN_ T) then 1 else 0)) ∧ h2 = h) noT 0 0 2 [some (.ref a), some (.ref c), some (.ref b), some (.int (nI k))] [] h) ?_ ?_ (tN_ T) 0 (by omega)
  · exact key (fun i hi => by omega)
  · intro hp
    refine b_X2_isLike_2 hg hd k00 X _ _ _ _ _ ⟨_, hT.g0, fun _ => ⟨Or.inr rfl, by rw [likeF_yes hp]; rfl, rfl⟩, fun q => absurd (nle_nI (by omega) (by omega) q) (by omega)⟩
  · intro k hk ih hp
    refine b_X2_isLike_2 hg hd k00 X _ _ _ _ _ ⟨_, hT.g0, fun q => absurd (le_nI (by omega) (by omega) q) (by omega), fun _ => ⟨_, hL.g1, _, hL.r1 (by omega), _, hL2.g1, _, hL2.r1 (by omega), fun q => ?_, fun q => ⟨_, hL.g2, _, hL.r2 (by omega), _, hL2.g2, _, hL2.r2 (by omega), fun z => ?_, fun z => ?_⟩⟩⟩
    · exact ⟨Or.inl rfl, by rw [likeF_no hk (fun w => q w.1)]; rfl, rfl⟩
    · rw [nI_s]
      exact ih (fun i hi => by
        by_cases hik : i = k
        · subst hik; exact ⟨q, z⟩
        · exact hp i (by omega))
    · exact ⟨Or.inl rfl, by rw [likeF_no hk (fun w => z w.2)]; rfl, rfl⟩
theorem c_seamWhere (hg : GOK g) (hd : 8 ≤ d) (hL : LA h a L) {w : Nat} (hw : w < 6) {j : Nat} (hj : j < 12) (ha : lAt L w = nI j) : CT g d yX2_seamWhere (wsC yX2_seamWhere cX2_seamWhere 3 (some .int)) [.ref a, .int (nI w)] h 0 0 (fun v h2 => v = some (.int (lSm L j)) ∧ h2 = h) noT := by
  refine CT_ofB (by decide +kernel) (Nat.le_of_ble_eq_true rfl) rfl fun K X => ?_
  refine b_X2_seamWhere_0 hg hd k00 X _ _ _ ⟨_, hL.g4, _, hL.r4 hw, fun q => ?_, fun q => ⟨fun z => ⟨_, hL.g2, ?_⟩, fun z => ?_⟩⟩
  · rw [ha] at q; exact absurd q (nI_pos (by omega))
  · rw [ha]; exact ⟨_, hL.r2 hj, rfl, rfl⟩
  · rw [ha] at z; exact absurd (nI_lt (b := 12) hj (by omega)) z
theorem c_putStretch (hg : GOK g) (hd : 8 ≤ d) (hL : LA h a L) {k : Nat} (hk : k < 12) (x y z : Int32) : CT g d yX2_putStretch (wsC yX2_putStretch cX2_putStretch 5 none) [.ref a, .int (nI k), .int x, .int y, .int z] h 0 0 (fun v h2 => v = none ∧ h2 = pL h a (sSt (sSm (sStr L k x) k y) k z)) noT := by
  refine CT_ofB (by decide +kernel) (Nat.le_of_ble_eq_true rfl) rfl fun K X => ?_
  have q1 := hL.put (sStr L k x)
  have q2 := hL.put (sSm (sStr L k x) k y)
  refine b_X2_putStretch_0 hg hd k00 X _ _ _ _ _ _ ⟨fun q => absurd q (nI_pos (by omega)), fun _ => ⟨fun q => absurd q (nI_ge (b := 12) hk (by omega)), fun _ => ⟨_, hL.g1, _, hL.w1 hk, _, q1.g2, _, q1.w2 hk, ?_⟩⟩⟩
  rw [hL.pp]
  refine ⟨_, q2.g3, _, q2.w3 hk, rfl, ?_⟩
  rw [hL.pp]
theorem c_putWoman (hg : GOK g) (hd : 8 ≤ d) (hL : LA h a L) {k : Nat} (hk : k < 6) (x y : Int32) : CT g d yX2_putWoman (wsC yX2_putWoman cX2_putWoman 4 none) [.ref a, .int (nI k), .int x, .int y] h 0 0 (fun v h2 => v = none ∧ h2 = pL h a (sTh (sAt L k x) k y)) noT := by
  refine CT_ofB (by decide +kernel) (Nat.le_of_ble_eq_true rfl) rfl fun K X => ?_
  have q1 := hL.put (sAt L k x)
  refine b_X2_putWoman_0 hg hd k00 X _ _ _ _ _ ⟨fun q => absurd q (nI_pos (by omega)), fun _ => ⟨fun q => absurd q (nI_ge (b := 6) hk (by omega)), fun _ => ⟨_, hL.g4, _, hL.w4 hk, _, q1.g5, _, q1.w5 hk, rfl, ?_⟩⟩⟩
  rw [hL.pp]
/-- whether the day is a Thursday -/
def thuB (wk day : Int32) : Bool := decide (¬ wk ≤ 0) && (day - day / wk * wk == wk - 1)
theorem c_isThursday (hg : GOK g) (hd : 8 ≤ d) (hT : TA h b T) (hw : ¬ tWk T ≤ 0) (x : Int32) : CT g d yX9_isThursday (wsC yX9_isThursday cX9_isThursday 2 (some .boolean)) [.ref b, .int x] h 0 0 (fun v h2 => v = some (.int (if thuB (tWk T) x then 1 else 0)) ∧ h2 = h) noT := by
  refine CT_ofB (by decide +kernel) (Nat.le_of_ble_eq_true rfl) rfl fun K X => ?_
  refine b_X9_isThursday_0 hg hd k00 X _ _ _ ⟨_, hT.g2, fun q => absurd q hw, fun q => ⟨_, hT.g2, fun z => q (by rw [z]; decide), _, hT.g2, fun z => ?_, fun z => ?_⟩⟩
  · exact ⟨Or.inl rfl, by simp [thuB, z], rfl⟩
  · exact ⟨Or.inr rfl, by simp [thuB, z, hw], rfl⟩
end C3
