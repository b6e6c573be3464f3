/-! THE REFERENCE: what is seen, and guesses -/
theorem soF_none {S : SeenV} {f : AF} {v : Int32} (h : ∀ k, k < S.1 → ¬ S.2.2.1 k = v) : soF S f v = true := by
  unfold soF
  refine List.all_eq_true.mpr fun k hk => ?_
  rw [beq_eq_false_iff_ne.mpr (h k (List.mem_range.mp hk))]
  rfl
theorem soF_yes {S : SeenV} {f : AF} {v : Int32} (h : ∀ k, k < S.1 → S.2.2.1 k = v → f (cl (S.2.1 k)) = S.2.2.2 k) : soF S f v = true := by
  unfold soF
  refine List.all_eq_true.mpr fun k hk => ?_
  by_cases y : S.2.2.1 k = v
  · rw [beq_iff_eq.mpr (h k (List.mem_range.mp hk) y), Bool.or_true]
  · rw [beq_eq_false_iff_ne.mpr y]; rfl
theorem soF_no {S : SeenV} {f : AF} {v : Int32} {k : Nat} (hk : k < S.1) (h1 : S.2.2.1 k = v) (h2 : ¬ f (cl (S.2.1 k)) = S.2.2.2 k) : soF S f v = false := by
  cases hb : soF S f v with
  | false => rfl
  | true =>
    unfold soF at hb
    have := List.all_eq_true.mp hb k (List.mem_range.mpr hk)
    rw [h1, beq_self_eq_true, Bool.not_true, Bool.false_or, beq_iff_eq] at this
    exact absurd this h2
theorem isF_true {T : ToldV} {S : SeenV} : ∀ (j i : Nat) (X : LandV), (∀ k v, k < S.1 → i ≤ v → v ≤ i + j → ¬ S.2.2.1 k = nI v) → isF T S j i X = true := by
  intro j
  induction j with
  | zero => intro i X h; exact soF_none (fun k hk => h k i hk (by omega) (by omega))
  | succ j ih =>
    intro i X h
    show (soF S (lSm X) (nI i) && isF T S j (i + 1) (dayT T X)) = true
    rw [soF_none (fun k hk => h k i hk (by omega) (by omega)), ih (i + 1) _ (fun k v hk h1 h2 => h k v hk (by omega) (by omega))]
    rfl
theorem isF_ext {T : ToldV} {S : SeenV} {e : Nat} : ∀ (j i : Nat) (X : LandV), (∀ k v, k < S.1 → i + j < v → v ≤ i + j + e → ¬ S.2.2.1 k = nI v) → isF T S (j + e) i X = isF T S j i X := by
  intro j
  induction j with
  | zero =>
    intro i X h
    cases e with
    | zero => rfl
    | succ e =>
      show isF T S (0 + (e + 1)) i X = soF S (lSm X) (nI i)
      rw [Nat.zero_add]
      show (soF S (lSm X) (nI i) && isF T S e (i + 1) (dayT T X)) = soF S (lSm X) (nI i)
      rw [isF_true e (i + 1) _ (fun k v hk h1 h2 => h k v hk (by omega) (by omega)), Bool.and_true]
  | succ j ih =>
    intro i X h
    rw [show j + 1 + e = (j + e) + 1 by omega]
    show (soF S (lSm X) (nI i) && isF T S (j + e) (i + 1) (dayT T X)) = (soF S (lSm X) (nI i) && isF T S j (i + 1) (dayT T X))
    rw [ih (i + 1) _ (fun k v hk h1 h2 => h k v hk (by omega) (by omega))]
theorem lastF_ge {S : SeenV} (hd : SeD S) : ∀ K, K ≤ S.1 → ∃ m, m ≤ 20 ∧ lastF S.2.2.1 K = nI m ∧ ∀ k, k < K → ∃ q, q ≤ m ∧ S.2.2.1 k = nI q := by
  intro K
  induction K with
  | zero => intro _; exact ⟨0, by omega, rfl, fun k hk => absurd hk (Nat.not_lt_zero k)⟩
  | succ K ih =>
    intro hK
    obtain ⟨m, m1, m2, m3⟩ := ih (by omega)
    obtain ⟨q, q1, q2⟩ := hd K (by omega)
    rw [lastF, m2, q2]
    by_cases y : m < q
    · refine ⟨q, q1, if_pos ((nI_ltI (by omega) (by omega)).mpr y), fun k hk => ?_⟩
      by_cases e : k = K
      · subst e; exact ⟨q, by omega, q2⟩
      · obtain ⟨r, r1, r2⟩ := m3 k (by omega); exact ⟨r, by omega, r2⟩
    · refine ⟨m, m1, if_neg (fun e => y ((nI_ltI (by omega) (by omega)).mp e)), fun k hk => ?_⟩
      by_cases e : k = K
      · subst e; exact ⟨q, by omega, q2⟩
      · exact m3 k (by omega)
theorem isF_20 {T : ToldV} {S : SeenV} {l : Nat} {X : LandV} (hd : SeD S) (hl : l ≤ 20) : isF T S (lastN S l) 0 X = isF T S 20 0 X := by
  obtain ⟨m, m1, m2, m3⟩ := lastF_ge hd S.1 (Nat.le_refl _)
  have hm : lastN S l = max m l := by rw [lastN, m2, show cl (nI m) = m from nI_clamp (by omega)]
  have := isF_ext (T := T) (S := S) (e := 20 - max m l) (max m l) 0 X (fun k v hk h1 h2 e => by
    obtain ⟨q, q1, q2⟩ := m3 k hk
    rw [q2] at e
    have := congrArg Int32.toInt e
    rw [nI_toInt (by omega), nI_toInt (by omega)] at this
    omega)
  rw [hm, ← this]
  congr 1
  omega
section RSN
variable {g : GG} {h : Hp} {B d : Nat} {R : RefV} {s : CoreV} {T : ToldV} {S : SeenV} {Y0 : LandV}
/-- what a guess leaves behind -/
def SnQ (T : ToldV) (S : SeenV) (Y0 : LandV) (R0 R' : RefV) : Prop := QF R0 R' ∧ ri R' 0 = ri R0 0 ∧ ra R' 26 = ra R0 26 ∧ (isF T S 20 0 Y0 = true → ∀ k, k < tN_ T → ra R' 25 k = lSm (daysT T 5 Y0) k)
theorem d_isSeen (hg : GOK g) (hd : 17 ≤ d) (hR : RA h B R) (hX : TM T Y0 R) (hL : LOK (tN_ T) (tW T) Y0) (hT : TD T) (o1 : 3 ≤ tN_ T) (hS8 : S.1 ≤ 8) (hSO : SeOK S (tN_ T)) (hSD : SeD S) (e51 : ri R 51 = nI S.1) (e24 : SeR S (ra R 24)) : CT g d yX12_isSeen (wsC yX12_isSeen cX12_isSeen 3 (some .boolean)) [.ref B] h 0 0 (fun v h2 => v = some (.int (if isF T S 20 0 Y0 then 1 else 0)) ∧ ∃ R', h2 = pR h B R' ∧ SnQ T S Y0 R R') noT := by
  have o2 : tN_ T ≤ 12 := hX.tok.2.1
  refine CT_ofB (by decide +kernel) (Nat.le_of_ble_eq_true rfl) rfl fun K XX => ?_
  refine b_X12_isSeen_0 hg (by omega) k00 XX _ _ ?_
  have day : ∀ (i : Nat) (R2 : RefV), i ≤ 20 → QF R R2 → ri R2 0 = ri R 0 → ra R2 26 = ra R 26 → TM T (daysT T i Y0) R2 → (5 < i → ∀ k, k < tN_ T → ra R2 25 k = lSm (daysT T 5 Y0) k) → (soF S (lSm (daysT T i Y0)) (nI i) = false → isF T S 20 0 Y0 = false) → (soF S (lSm (daysT T i Y0)) (nI i) = true → ∀ R3, QF R R3 → ri R3 0 = ri R 0 → ra R3 26 = ra R 26 → TM T (daysT T (i + 1) Y0) R3 → (5 < i + 1 → ∀ k, k < tN_ T → ra R3 25 k = lSm (daysT T 5 Y0) k) → VB g K 3 d 0 0 (fun v h2 => v = some (.int (if isF T S 20 0 Y0 then 1 else 0)) ∧ ∃ R', h2 = pR h B R' ∧ SnQ T S Y0 R R') noT 0 0 2 [some (.ref B), some (.int (nI (i + 1))), none] [] (pR h B R3)) → VB g K 3 d 0 0 (fun v h2 => v = some (.int (if isF T S 20 0 Y0 then 1 else 0)) ∧ ∃ R', h2 = pR h B R' ∧ SnQ T S Y0 R R') noT 0 0 2 [some (.ref B), some (.int (nI i)), none] [] (pR h B R2) := by
    intro i R2 hi q2 z2 a2 t2 h5 no nx
    have r2 := hR.put R2
    have c51 : ri R2 51 = nI S.1 := by rw [q2.1 51 rfl, e51]
    have c24 : ra R2 24 = ra R 24 := q2.2.1 24 rfl
    have l2 : LOK (tN_ T) (tW T) (daysT T i Y0) := LOK.days o2 (by omega) hT.1 i hL
    -- the day goes
    have go : soF S (lSm (daysT T i Y0)) (nI i) = true → ∀ R3, QF R R3 → ri R3 0 = ri R 0 → ra R3 26 = ra R 26 → TM T (daysT T i Y0) R3 → (5 < i + 1 → ∀ k, k < tN_ T → ra R3 25 k = lSm (daysT T 5 Y0) k) → VB g K 3 d 0 0 (fun v h2 => v = some (.int (if isF T S 20 0 Y0 then 1 else 0)) ∧ ∃ R', h2 = pR h B R' ∧ SnQ T S Y0 R R') noT 0 0 105 [some (.ref B), some (.int (nI i)), none] [] (pR h B R3) := by
      intro hs R3 q3 z3 a3 t3 g5
      have r3 := hR.put R3
      refine b_X12_isSeen_105 hg (by omega) k00 XX _ _ _ ⟨_, r3.o, q_day hg r3 t3 l2 hT (by omega) k00 ?_⟩
      intro R4 x4
      rw [hR.pp, nI_s]
      have d4 := x4.df
      refine nx hs R4 (q3.trans x4.qf) (by rw [d4.1]; exact z3) (by rw [d4.2.2 26 (by decide) (by decide) (by decide) (by decide)]; exact a3) (by rw [daysT_succ]; exact x4.tm) (fun e k hk => ?_)
      rw [d4.2.2 25 (by decide) (by decide) (by decide) (by decide)]
      exact g5 e k hk
    -- the seams of the fifth day
    have cp : i = 5 → soF S (lSm (daysT T i Y0)) (nI i) = true → ∀ (j k : Nat) (R3 : RefV), k + j = tN_ T → QF R R3 → ri R3 0 = ri R 0 → ra R3 26 = ra R 26 → TM T (daysT T i Y0) R3 → (∀ e, e < k → ra R3 25 e = lSm (daysT T 5 Y0) e) → VB g K 3 d 0 0 (fun v h2 => v = some (.int (if isF T S 20 0 Y0 then 1 else 0)) ∧ ∃ R', h2 = pR h B R' ∧ SnQ T S Y0 R R') noT 0 0 76 [some (.ref B), some (.int (nI i)), some (.int (nI k))] [] (pR h B R3) := by
      intro e5 hs j
      induction j with
      | zero =>
        intro k R3 hk q3 z3 a3 t3 hr
        have r3 := hR.put R3
        exact b_X12_isSeen_76 hg (by omega) k00 XX _ _ _ _ ⟨_, by rw [r3.i1, t3.n], fun _ => go hs R3 q3 z3 a3 t3 (fun _ e he => hr e (by omega)), fun q => absurd (nle_nI (by omega) (by omega) q) (by omega)⟩
      | succ j ih =>
        intro k R3 hk q3 z3 a3 t3 hr
        have r3 := hR.put R3
        refine b_X12_isSeen_76 hg (by omega) k00 XX _ _ _ _ ⟨_, by rw [r3.i1, t3.n], fun q => absurd (le_nI (by omega) (by omega) q) (by omega), fun _ => ⟨_, r3.n53, _, r3.n40, ?_⟩⟩
        rw [show (62 : Int32) + nI k = nI (62 + k) from nI_add 62 k]
        have e62 : ra R3 14 (62 + k) = lSm (daysT T i Y0) k := t3.rw_.sm (by omega)
        refine ⟨_, by rw [r3.r14 (by omega), e62], _, r3.u25 (by omega), ?_⟩
        rw [hR.pp, nI_s]
        refine ih (k + 1) _ (by omega) (q3.a rfl (by decide)) z3 (by rw [ra_sAn (by decide)]; exact a3) (t3.a (by decide) (by decide) (by decide)) (fun e he => ?_)
        rw [ra_sA]
        by_cases y : e = k
        · subst y; rw [pk_us, e5]
        · rw [pk_un y]; exact hr e (by omega)
    -- what is seen on this day
    have sl : ∀ (j k : Nat), k + j = S.1 → (∀ e, e < k → S.2.2.1 e = nI i → lSm (daysT T i Y0) (cl (S.2.1 e)) = S.2.2.2 e) → VB g K 3 d 0 0 (fun v h2 => v = some (.int (if isF T S 20 0 Y0 then 1 else 0)) ∧ ∃ R', h2 = pR h B R' ∧ SnQ T S Y0 R R') noT 0 0 10 [some (.ref B), some (.int (nI i)), some (.int (nI k))] [] (pR h B R2) := by
      intro j
      induction j with
      | zero =>
        intro k hk hall
        have hs : soF S (lSm (daysT T i Y0)) (nI i) = true := soF_yes (fun e he => hall e (by omega))
        refine b_X12_isSeen_10 hg (by omega) k00 XX _ _ _ _ ⟨_, by rw [r2.i51, c51], fun _ => ⟨fun y => go hs R2 q2 z2 a2 t2 (fun e => h5 ?_), fun y => ?_⟩, fun q => absurd (nle_nI (by omega) (by omega) q) (by omega)⟩
        · have : i ≠ 5 := fun e => y (by rw [e]; rfl)
          omega
        · have e5 : i = 5 := by
            have := congrArg Int32.toInt y
            rw [nI_toInt (by omega), show (5 : Int32).toInt = 5 from rfl] at this
            omega
          exact cp e5 hs (tN_ T) 0 R2 (by omega) q2 z2 a2 t2 (fun e he => absurd he (Nat.not_lt_zero e))
      | succ j ih =>
        intro k hk hall
        obtain ⟨f0, f1, f2⟩ := e24 k (by omega)
        obtain ⟨st, st1, st2⟩ := hSO k (by omega)
        have nxt : (S.2.2.1 k = nI i → lSm (daysT T i Y0) (cl (S.2.1 k)) = S.2.2.2 k) → VB g K 3 d 0 0 (fun v h2 => v = some (.int (if isF T S 20 0 Y0 then 1 else 0)) ∧ ∃ R', h2 = pR h B R' ∧ SnQ T S Y0 R R') noT 0 0 63 [some (.ref B), some (.int (nI i)), some (.int (nI k))] [] (pR h B R2) := by
          intro hk2
          refine b_X12_isSeen_63 hg (by omega) k00 XX _ _ _ _ ?_
          rw [nI_s]
          refine ih (k + 1) (by omega) (fun e he => ?_)
          by_cases y : e = k
          · subst y; exact hk2
          · exact hall e (by omega)
        refine b_X12_isSeen_10 hg (by omega) k00 XX _ _ _ _ ⟨_, by rw [r2.i51, c51], fun q => absurd (le_nI (by omega) (by omega) q) (by omega), fun _ => ⟨_, r2.n52, ?_⟩⟩
        rw [show (3 : Int32) * nI k = nI (3 * k) from pk_mul 3 k, nI_s]
        refine ⟨_, by rw [r2.r24 (by omega), c24, f1], fun y => nxt (fun e => absurd e y), fun y => ⟨_, r2.n40, _, r2.n52, _, by rw [r2.r24 (by omega), c24, f0, st2], ?_⟩⟩
        rw [show (62 : Int32) + nI st = nI (62 + st) from nI_add 62 st, show nI (3 * k) + 2 = nI (3 * k + 2) from nI_add (3 * k) 2]
        have e62 : ra R2 14 (62 + st) = lSm (daysT T i Y0) st := t2.rw_.sm (by omega)
        have ecl : cl (S.2.1 k) = st := by rw [st2]; exact nI_clamp (by omega)
        refine ⟨_, by rw [r2.r14 (by omega), e62], _, r2.n52, _, by rw [r2.r24 (by omega), c24, f2], fun w => nxt (fun _ => by rw [ecl]; exact w), fun w => ⟨Or.inl rfl, ?_, R2, rfl, q2, z2, a2, ?_⟩⟩
        · rw [no (soF_no (by omega) y (by rw [ecl]; exact w))]; rfl
        · intro e
          rw [no (soF_no (by omega) y (by rw [ecl]; exact w))] at e
          exact absurd e (by decide)
    refine b_X12_isSeen_2 hg (by omega) k00 XX _ _ _ ⟨fun q => absurd (lt_nI (x := 20) (by omega) (by omega) q) (by omega), fun _ => ?_⟩
    exact sl S.1 0 (by omega) (fun e he => absurd he (Nat.not_lt_zero e))
  have lp : ∀ (j i : Nat) (R2 : RefV), i + j = 20 → QF R R2 → ri R2 0 = ri R 0 → ra R2 26 = ra R 26 → TM T (daysT T i Y0) R2 → isF T S j i (daysT T i Y0) = isF T S 20 0 Y0 → (5 < i → ∀ k, k < tN_ T → ra R2 25 k = lSm (daysT T 5 Y0) k) → VB g K 3 d 0 0 (fun v h2 => v = some (.int (if isF T S 20 0 Y0 then 1 else 0)) ∧ ∃ R', h2 = pR h B R' ∧ SnQ T S Y0 R R') noT 0 0 2 [some (.ref B), some (.int (nI i)), none] [] (pR h B R2) := by
    intro j
    induction j with
    | zero =>
      intro i R2 hi q2 z2 a2 t2 hf h5
      have hf' : soF S (lSm (daysT T i Y0)) (nI i) = isF T S 20 0 Y0 := hf
      refine day i R2 (by omega) q2 z2 a2 t2 h5 (fun e => by rw [← hf', e]) (fun hs R3 q3 z3 a3 t3 g5 => ?_)
      have hy : isF T S 20 0 Y0 = true := by rw [← hf', hs]
      refine b_X12_isSeen_2 hg (by omega) k00 XX _ _ _ ⟨fun _ => ⟨Or.inr rfl, by rw [hy]; rfl, R3, rfl, q3, z3, a3, fun _ => g5 (by omega)⟩, fun q => absurd (nlt_nI (x := 20) (by omega) (by omega) q) (by omega)⟩
    | succ j ih =>
      intro i R2 hi q2 z2 a2 t2 hf h5
      have hf' : (soF S (lSm (daysT T i Y0)) (nI i) && isF T S j (i + 1) (dayT T (daysT T i Y0))) = isF T S 20 0 Y0 := hf
      rw [← daysT_succ] at hf'
      refine day i R2 (by omega) q2 z2 a2 t2 h5 (fun e => by rw [← hf', e]; rfl) (fun hs R3 q3 z3 a3 t3 g5 => ?_)
      exact ih (i + 1) R3 (by omega) q3 z3 a3 t3 (by rw [← hf', hs]; rfl) g5
  have := lp 20 0 R (by omega) (QF.refl _) rfl rfl hX rfl (fun e => absurd e (by omega))
  rw [hR.id] at this
  exact this
end RSN
