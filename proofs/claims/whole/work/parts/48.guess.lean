/-! HorizonSeam: what was torn, where to look -/
section GU
variable {g : GG} {h0 h : Hp} {s : CoreV} {x : ScrV} {d D kc ks mc ms : Nat} {Pt : String → Hp → Prop}
def bj1 (x : Int64) : Int64 := x - ((Int64.toUInt64 x >>> ((Int32.toInt64 (1 : Int32)).toUInt64 &&& Int64.toUInt64 63)).toInt64 &&& (6148914691236517205 : Int64))
def bj2 (x : Int64) : Int64 := (x &&& (3689348814741910323 : Int64)) + ((Int64.toUInt64 x >>> ((Int32.toInt64 (2 : Int32)).toUInt64 &&& Int64.toUInt64 63)).toInt64 &&& (3689348814741910323 : Int64))
def bj3 (x : Int64) : Int64 := (x + (Int64.toUInt64 x >>> ((Int32.toInt64 (4 : Int32)).toUInt64 &&& Int64.toUInt64 63)).toInt64) &&& (1085102592571150095 : Int64)
def bj4 (x : Int64) : Int64 := x + (Int64.toUInt64 x >>> ((Int32.toInt64 (8 : Int32)).toUInt64 &&& Int64.toUInt64 63)).toInt64
def bj5 (x : Int64) : Int64 := x + (Int64.toUInt64 x >>> ((Int32.toInt64 (16 : Int32)).toUInt64 &&& Int64.toUInt64 63)).toInt64
def bj6 (x : Int64) : Int64 := x + (Int64.toUInt64 x >>> ((Int32.toInt64 (32 : Int32)).toUInt64 &&& Int64.toUInt64 63)).toInt64
def bjE (x : Int64) : Int32 := Int64.toInt32 (bj6 (bj5 (bj4 (bj3 (bj2 (bj1 x)))))) &&& 127
theorem c_bitCountJ (hg : GOK g) (hd : 8 ≤ d) (v : Int64) : CT g d yJ13_bitCount_95d88 (wsC yJ13_bitCount_95d88 cJ13_bitCount_95d88 2 (some .int)) [.long v] h 0 0 (fun r h2 => r = some (.int (bjE v)) ∧ h2 = h) noT := by
  refine CT_ofB (by decide +kernel) (Nat.le_of_ble_eq_true rfl) rfl fun K X => ?_
  exact b_J13_bitCount_95d88_0 hg hd k00 X _ _ ⟨rfl, rfl⟩
/-- what is seen lies within 20 days -/
def SeD (S : SeenV) : Prop := ∀ k, k < S.1 → ∃ q, q ≤ 20 ∧ S.2.2.1 k = nI q
theorem lastF_nI {S : SeenV} (hd : SeD S) : ∃ m, m ≤ 20 ∧ lastF S.2.2.1 S.1 = nI m := by
  have key : ∀ k, k ≤ S.1 → ∃ m, m ≤ 20 ∧ lastF S.2.2.1 k = nI m := by
    intro k
    induction k with
    | zero => intro _; exact ⟨0, by omega, rfl⟩
    | succ k ih =>
      intro hk
      obtain ⟨m, hm, e⟩ := ih (by omega)
      obtain ⟨q, hq, eq⟩ := hd k (by omega)
      rw [lastF]
      split
      · exact ⟨q, hq, eq⟩
      · exact ⟨m, hm, e⟩
  exact key S.1 (Nat.le_refl _)
def lastN (S : SeenV) (l : Nat) : Nat := Nat.max (cl (lastF S.2.2.1 S.1)) l
/-- whether all that is seen comes so: day i, j days more -/
def isF (T : ToldV) (S : SeenV) : Nat → Nat → LandV → Bool
  | 0, i, X => soF S (lSm X) (nI i)
  | j + 1, i, X => soF S (lSm X) (nI i) && isF T S j (i + 1) (dayT T X)
theorem soF_congr {n : Nat} {S : SeenV} {f f2 : AF} (hS : SeOK S n) (hn : n < 2 ^ 31) (q : ∀ k, k < n → f k = f2 k) (v : Int32) : soF S f v = soF S f2 v := by
  unfold soF
  apply Bool.eq_iff_iff.mpr
  rw [List.all_eq_true, List.all_eq_true]
  constructor
  all_goals
    intro a k hk
    have := a k hk
    obtain ⟨j, hj, ej⟩ := hS k (List.mem_range.mp hk)
    have e : (S.2.1 k).toNatClampNeg = j := by rw [ej]; exact nI_clamp (by omega)
    rw [e] at this ⊢
  · rw [← q j hj]; exact this
  · rw [q j hj]; exact this
theorem LE.so {n w : Nat} {L M : LandV} {S : SeenV} (q : LE n w L M) (hS : SeOK S n) (hn : n < 2 ^ 31) (v : Int32) : soF S (lSm L) v = soF S (lSm M) v := soF_congr hS hn (fun _ hk => q.sm hk) v
theorem LE.isf {T : ToldV} {S : SeenV} (hn : tN_ T ≤ 12) (hS : SeOK S (tN_ T)) : ∀ (j i : Nat) {L M : LandV}, LE (tN_ T) (tW T) L M → isF T S j i L = isF T S j i M := by
  intro j
  induction j with
  | zero => intro i L M q; exact q.so hS (by omega) _
  | succ j ih =>
    intro i L M q
    show (soF S (lSm L) (nI i) && isF T S j (i + 1) (dayT T L)) = (soF S (lSm M) (nI i) && isF T S j (i + 1) (dayT T M))
    rw [q.so hS (by omega), ih (i + 1) (q.dT hn)]
theorem gu_o (hC : CA h0 h s x) : oF h 68 0 = some [.int (xG x).1, .int (xG x).2, .ref 69, .ref 76, .ref 77, .ref 78] := oF_of (hC.gu 0 _ rfl)
theorem gu_0 (hC : CA h0 h s x) : gI h 68 0 0 = some (xG x).1 := by unfold gI; rw [gu_o hC]; rfl
theorem gu_1 (hC : CA h0 h s x) : gI h 68 0 1 = some (xG x).2 := by unfold gI; rw [gu_o hC]; rfl
theorem gu_2 (hC : CA h0 h s x) : gN h 68 0 2 = some 69 := by unfold gN; rw [gu_o hC]; rfl
theorem gu_3 (hC : CA h0 h s x) : gN h 68 0 3 = some 76 := by unfold gN; rw [gu_o hC]; rfl
theorem gu_4 (hC : CA h0 h s x) : gN h 68 0 4 = some 77 := by unfold gN; rw [gu_o hC]; rfl
theorem gu_5 (hC : CA h0 h s x) : gN h 68 0 5 = some 78 := by unfold gN; rw [gu_o hC]; rfl
theorem gu_w0 (hC : CA h0 h s x) (v : Int32) : pF h 68 0 0 (.int v) = some (putC h 68 (gueC (v, (xG x).2))) := by
  unfold pF
  rw [gu_o hC]
  simp only [List.length_cons, List.length_nil, Nat.zero_add, Nat.reduceAdd, Nat.reduceLT, Nat.zero_lt_succ, if_true]
  rw [show h.set 68 = h.set (68 + 0) from rfl, hC.gu.set (j := 0) (by simp [gueC])]
  rfl
theorem gu_w1 (hC : CA h0 h s x) (v : Int32) : pF h 68 0 1 (.int v) = some (putC h 68 (gueC ((xG x).1, v))) := by
  unfold pF
  rw [gu_o hC]
  simp only [List.length_cons, List.length_nil, Nat.zero_add, Nat.reduceAdd, Nat.reduceLT, Nat.zero_lt_succ, if_true]
  rw [show h.set 68 = h.set (68 + 0) from rfl, hC.gu.set (j := 0) (by simp [gueC])]
  rfl
theorem aJ_of {h : Hp} {a n k : Nat} {f : JF} (q : h[a]? = some (.inl (2, n, .inr (.inl f)))) (hk : k < n) (hn : n < 2 ^ 31) : aJ h a (nI k) = some (f k) := by
  unfold aJ
  rw [aG_of q]
  simp only [ixo_nI hk hn, if_true]
  rw [nI_clamp (by omega)]
theorem uJ_of {h : Hp} {a n k : Nat} {f : JF} {v : Int64} (q : h[a]? = some (.inl (2, n, .inr (.inl f)))) (hk : k < n) (hn : n < 2 ^ 31) : uJ h a (nI k) v = some (h.set a (.inl (2, n, .inr (.inl (vp_updL f k v))))) := by
  unfold uJ
  rw [aG_of q]
  simp only [ixo_nI hk hn, if_true]
  rw [nI_clamp (by omega)]
theorem lo_w {k : Nat} {v : Int64} (hC : CA h0 h s x) (hk : k < 12) : uJ h 77 (nI k) v = some (putC h 77 (lonC (vp_updL (xLo x) k v))) := by
  rw [uJ_of (hC.lo 0 _ rfl) hk (by omega), show h.set 77 = h.set (77 + 0) from rfl, hC.lo.set (j := 0) (by simp [lonC])]
  rfl
theorem hi_w {k : Nat} {v : Int64} (hC : CA h0 h s x) (hk : k < 12) : uJ h 78 (nI k) v = some (putC h 78 (lonC (vp_updL (xHi x) k v))) := by
  rw [uJ_of (hC.hi 0 _ rfl) hk (by omega), show h.set 78 = h.set (78 + 0) from rfl, hC.hi.set (j := 0) (by simp [lonC])]
  rfl
theorem lo_r {k : Nat} (hC : CA h0 h s x) (hk : k < 12) : aJ h 77 (nI k) = some (xLo x k) := aJ_of (hC.lo 0 _ rfl) hk (by omega)
theorem hi_r {k : Nat} (hC : CA h0 h s x) (hk : k < 12) : aJ h 78 (nI k) = some (xHi x k) := aJ_of (hC.hi 0 _ rfl) hk (by omega)
theorem lk_r {k : Nat} (hC : CA h0 h s x) (hk : k < 12) : aI h 0 76 (nI k) = some (xLk x k) := aI_of (aF_of (hC.lk 0 _ rfl)) hk (by omega)
theorem c_gIsSo {l : Nat} {Y : LandV} (hg : GOK g) (hd : 14 ≤ d) (hC : CA h0 h s x) (hI : IS s) (hD : SeD (sS s)) (hX : LEs s (xGL x) Y) (hA : AtOK (sN s) (sW s) Y) (hl : l ≤ 20) : CT g d yX0_isSo (wsC yX0_isSo cX0_isSo 6 (some .boolean)) [.ref 68, .ref (tb s), .ref 36, .int (nI l)] h 0 0 (fun v h2 => ∃ r, v = some (.int r) ∧ r = (if isF (sT s) (sS s) (lastN (sS s) l) 0 Y then 1 else 0) ∧ ∃ x', CA h0 h2 s x' ∧ xG x' = xG x ∧ xLo x' = xLo x ∧ xHi x' = xHi x ∧ (isF (sT s) (sS s) (lastN (sS s) l) 0 Y = true → ∀ k, k < sN s → xLk x' k = lSm (daysT (sT s) l Y) k)) noT := by
  have o1 := hI.1.1.1
  have o2 := hI.1.1.2.1
  obtain ⟨S1, S2⟩ := hI.2.2.2
  have S2' : SeOK (sS s) (tN_ (sT s)) := S2
  have S12 : SeOK (sS s) 12 := fun k hk => by obtain ⟨j, h1, h2⟩ := S2' k hk; exact ⟨j, by omega, h2⟩
  obtain ⟨m, hm, em⟩ := lastF_nI hD
  have eL : lastN (sS s) l = Nat.max m l := by rw [lastN, em, show cl (nI m) = m from nI_clamp (by omega)]
  refine CT_ofB (by decide +kernel) (Nat.le_of_ble_eq_true rfl) rfl fun K X => ?_
  have hla : Nat.max m l ≤ 20 := Nat.max_le.mpr ⟨hm, hl⟩
  have hll : l ≤ Nat.max m l := Nat.le_max_right m l
  rw [eL]
  generalize hla2 : Nat.max m l = la at *
  generalize hR : isF (sT s) (sS s) la 0 Y = R
  have emx : (if nI m < nI l then nI l else nI m) = nI la := by
    rw [← hla2]
    by_cases e : m < l
    · rw [if_pos ((nI_ltI (by omega) (by omega)).mpr e), show Nat.max m l = l from Nat.max_eq_right (by omega)]
    · rw [if_neg (fun z => e ((nI_ltI (by omega) (by omega)).mp z)), show Nat.max m l = m from Nat.max_eq_left (by omega)]
  have loop : ∀ (j i : Nat) (h : Hp) (x1 : ScrV), i + j = la → CA h0 h s x1 → xG x1 = xG x ∧ xLo x1 = xLo x ∧ xHi x1 = xHi x → LEs s (xGL x1) (daysT (sT s) i Y) → (l < i → ∀ k, k < sN s → xLk x1 k = lSm (daysT (sT s) l Y) k) → isF (sT s) (sS s) j i (daysT (sT s) i Y) = R → VB g K 6 d 0 0 (fun v h2 => ∃ r, v = some (.int r) ∧ r = (if R then 1 else 0) ∧ ∃ x', CA h0 h2 s x' ∧ xG x' = xG x ∧ xLo x' = xLo x ∧ xHi x' = xHi x ∧ (R = true → ∀ k, k < sN s → xLk x' k = lSm (daysT (sT s) l Y) k)) noT 0 0 13 [some (.ref 68), some (.ref (tb s)), some (.ref 36), some (.int (nI l)), some (.int (nI la)), some (.int (nI i))] [] h := by
    intro j
    induction j with
    | zero =>
      intro i h x1 hi hC hG hX hL he
      have hs : soF (sS s) (lSm (xGL x1)) (nI i) = R := by rw [hX.so S2' (by show tN_ (sT s) < _; omega)]; exact he
      have fin : ∀ (h : Hp) (x2 : ScrV), CA h0 h s x2 → xG x2 = xG x ∧ xLo x2 = xLo x ∧ xHi x2 = xHi x → (∀ k, k < sN s → xLk x2 k = lSm (daysT (sT s) l Y) k) → R = true → VB g K 6 d 0 0 (fun v h2 => ∃ r, v = some (.int r) ∧ r = (if R then 1 else 0) ∧ ∃ x', CA h0 h2 s x' ∧ xG x' = xG x ∧ xLo x' = xLo x ∧ xHi x' = xHi x ∧ (R = true → ∀ k, k < sN s → xLk x' k = lSm (daysT (sT s) l Y) k)) noT 0 0 59 [some (.ref 68), some (.ref (tb s)), some (.ref 36), some (.int (nI l)), some (.int (nI la)), some (.int (nI i))] [] h := by
        intro h x2 c2 g2 k2 r2
        refine b_X0_isSo_59 hg (by omega) k00 X _ _ _ _ _ _ _ ⟨fun _ => b_X0_isSo_74 hg (by omega) k00 X _ _ _ _ _ _ _ ?_, fun q => absurd (nle_nI (by omega) (by omega) q) (by omega)⟩
        rw [nI_s]
        refine b_X0_isSo_13 hg (by omega) k00 X _ _ _ _ _ _ _ ⟨fun _ => ⟨Or.inr rfl, 1, rfl, by rw [r2]; rfl, x2, c2, g2.1, g2.2.1, g2.2.2, fun _ => k2⟩, fun q => absurd (nlt_nI (by omega) (by omega) q) (by omega)⟩
      refine b_X0_isSo_13 hg (by omega) k00 X _ _ _ _ _ _ _ ⟨fun q => absurd (lt_nI (by omega) (by omega) q) (by omega), fun _ => ⟨_, gu_2 hC, _, hC.sn.o, use_i (c_seenIsSo (d := d - 1) hg (by omega) hC.sn hC.gl S1 S12 (nI i)) (by omega) k00 ⟨fun z => ?_, fun z => ?_⟩⟩⟩
      · have r2 : R = true := by
          cases hr : R with
          | true => rfl
          | false => rw [hs, hr] at z; exact absurd rfl z
        refine ⟨fun y => ?_, fun y => ⟨_, gu_2 hC, _, hC.gl.g2, _, gu_3 hC, ?_⟩⟩
        · have : l < i := by
            have : l ≠ i := fun e => y (by rw [e])
            omega
          exact fin h x1 hC hG (hL this) r2
        · have e : i = l := by
            have := congrArg (fun v => cl v) y
            simp only [show ∀ k, k < 2 ^ 31 → cl (nI k) = k from fun k hk => nI_clamp hk, show i < 2 ^ 31 by omega, show l < 2 ^ 31 by omega] at this
            exact this
          refine ⟨_, cpA_of (s := 0) (t := 0) (n := 12) hC.gl.f2 (aF_of (hC.lk 0 _ rfl)) (by omega) (by omega) (by omega) (by omega), ?_⟩
          rw [cpyF_all]
          have ew : h.set 76 (.inl (0, 12, .inl (lSm (xGL x1)))) = putC h 76 (arrC 12 (lSm (xGL x1))) := by
            rw [show h.set 76 = h.set (76 + 0) from rfl, hC.lk.set (j := 0) (by simp [arrC])]; rfl
          rw [ew]
          refine fin _ _ (hC.u_lk (lSm (xGL x1))) hG (fun k hk => ?_) r2
          show lSm (xGL x1) k = _
          rw [← e]; exact hX.sm hk
      · have r2 : R = false := by
          cases hr : R with
          | false => rfl
          | true => rw [hs, hr] at z; exact absurd z (by decide)
        exact ⟨Or.inl rfl, 0, rfl, by rw [r2]; rfl, x1, hC, hG.1, hG.2.1, hG.2.2, fun e => by rw [r2] at e; exact absurd e (by decide)⟩
    | succ j ih =>
      intro i h x1 hi hC hG hX hL he
      have he2 : (soF (sS s) (lSm (xGL x1)) (nI i) && isF (sT s) (sS s) j (i + 1) (daysT (sT s) (i + 1) Y)) = R := by
        rw [hX.so S2' (by show tN_ (sT s) < _; omega), daysT_succ]; exact he
      have fin : ∀ (h : Hp) (x2 : ScrV), CA h0 h s x2 → xG x2 = xG x ∧ xLo x2 = xLo x ∧ xHi x2 = xHi x → LEs s (xGL x2) (daysT (sT s) i Y) → (l < i + 1 → ∀ k, k < sN s → xLk x2 k = lSm (daysT (sT s) l Y) k) → isF (sT s) (sS s) j (i + 1) (daysT (sT s) (i + 1) Y) = R → VB g K 6 d 0 0 (fun v h2 => ∃ r, v = some (.int r) ∧ r = (if R then 1 else 0) ∧ ∃ x', CA h0 h2 s x' ∧ xG x' = xG x ∧ xLo x' = xLo x ∧ xHi x' = xHi x ∧ (R = true → ∀ k, k < sN s → xLk x' k = lSm (daysT (sT s) l Y) k)) noT 0 0 59 [some (.ref 68), some (.ref (tb s)), some (.ref 36), some (.int (nI l)), some (.int (nI la)), some (.int (nI i))] [] h := by
        intro h x2 c2 g2 e2 k2 r2
        refine b_X0_isSo_59 hg (by omega) k00 X _ _ _ _ _ _ _ ⟨fun q => absurd (le_nI (by omega) (by omega) q) (by omega), fun q => ⟨_, gu_2 c2, _, c2.gl.o, use_v (c_passDay (d := d - 1) hg (by omega) c2.gl c2.t hI.1.1 hI.1.2.1 hI.1.2.2 (e2.symm.aok (AtOK_daysT (by omega) i hA)) (by have := tb_or s; omega)) (by omega) k00 ?_⟩⟩
        rintro h3 ⟨f, q3⟩
        rw [q3]
        refine b_X0_isSo_74 hg (by omega) k00 X _ _ _ _ _ _ _ ?_
        rw [nI_s]
        refine ih (i + 1) _ _ (by omega) ((c2.u_t (f, (xK x2).2)).u_gl _) g2 ?_ k2 r2
        rw [daysT_succ]
        exact e2.dT o2
      refine b_X0_isSo_13 hg (by omega) k00 X _ _ _ _ _ _ _ ⟨fun q => absurd (lt_nI (by omega) (by omega) q) (by omega), fun _ => ⟨_, gu_2 hC, _, hC.sn.o, use_i (c_seenIsSo (d := d - 1) hg (by omega) hC.sn hC.gl S1 S12 (nI i)) (by omega) k00 ⟨fun z => ?_, fun z => ?_⟩⟩⟩
      · have r2 : isF (sT s) (sS s) j (i + 1) (daysT (sT s) (i + 1) Y) = R := by
          cases hr : soF (sS s) (lSm (xGL x1)) (nI i) with
          | true => rw [hr] at he2; exact he2
          | false => rw [hr] at z; exact absurd rfl z
        refine ⟨fun y => ?_, fun y => ⟨_, gu_2 hC, _, hC.gl.g2, _, gu_3 hC, ?_⟩⟩
        · have ne : l ≠ i := fun e => y (by rw [e])
          exact fin h x1 hC hG hX (fun hlt => hL (by omega)) r2
        · have e : i = l := by
            have := congrArg (fun v => cl v) y
            simp only [show ∀ k, k < 2 ^ 31 → cl (nI k) = k from fun k hk => nI_clamp hk, show i < 2 ^ 31 by omega, show l < 2 ^ 31 by omega] at this
            exact this
          refine ⟨_, cpA_of (s := 0) (t := 0) (n := 12) hC.gl.f2 (aF_of (hC.lk 0 _ rfl)) (by omega) (by omega) (by omega) (by omega), ?_⟩
          rw [cpyF_all]
          have ew : h.set 76 (.inl (0, 12, .inl (lSm (xGL x1)))) = putC h 76 (arrC 12 (lSm (xGL x1))) := by
            rw [show h.set 76 = h.set (76 + 0) from rfl, hC.lk.set (j := 0) (by simp [arrC])]; rfl
          rw [ew]
          refine fin _ _ (hC.u_lk (lSm (xGL x1))) hG hX (fun _ k hk => ?_) r2
          show lSm (xGL x1) k = _
          rw [← e]; exact hX.sm hk
      · have r2 : R = false := by
          cases hr : soF (sS s) (lSm (xGL x1)) (nI i) with
          | false => rw [hr] at he2; exact he2.symm
          | true => rw [hr] at z; exact absurd z (by decide)
        exact ⟨Or.inl rfl, 0, rfl, by rw [r2]; rfl, x1, hC, hG.1, hG.2.1, hG.2.2, fun e => by rw [r2] at e; exact absurd e (by decide)⟩
  refine b_X0_isSo_0 hg (by omega) k00 X _ _ _ _ _ ⟨_, hC.sn.o, use_i (c_lastDay (d := d - 1) hg (by omega) hC.sn S1) (by omega) k00 ?_⟩
  rw [em, emx]
  exact loop la 0 h x (by omega) hC ⟨rfl, rfl, rfl⟩ hX (fun e => absurd e (by omega)) hR
end GU
