/-! THE REFERENCE: TORN -/
section RGS
variable {s : CoreV} {l b i : Nat} {p : WgV} {q : RgV}
theorem row_ok (hI : IV s) (hi : i < sN s) {m : Nat} (hm : m ≤ 50) : ∀ k, k < sN s → ∃ v, v ≤ 99 ∧ rowS s l i m k = nI v := fun k hk =>
  ((LOK.days hI.o2 (by have := hI.o1; show 0 < sN s; omega) hI.sk l (hI.lok.tear hi (c := m) (by omega))).1 k hk).2.1
theorem tg_one (hI : IV s) (hl : l ≤ 20) (hi : i < sN s) {m : Nat} (h1 : 1 ≤ m) (h2 : m < unN (sL s) i) (hz : ¬ lSm (sL s) i = 0) (hb : b < 2 ^ 30) (h : RgR (sN s) b p q) : RgR (sN s) (b + 1) (tgW s l i m p) (rgG s l i m q) := by
  have hu : unN (sL s) i ≤ 50 := by unfold unN; split <;> omega
  have o2 := hI.o2
  unfold tgW rgG guB
  rw [isF_20 hI.se.2 hl, beq_eq_false_iff_ne.mpr hz, Bool.not_false, Bool.true_and]
  cases isF (sT s) (sS s) 20 0 (tearL (sN s) (sL s) i (nI m)) with
  | false =>
    rw [if_neg (by decide), if_neg (by decide)]
    obtain ⟨a, c⟩ := h
    exact ⟨by omega, c⟩
  | true =>
    rw [if_pos rfl, if_pos rfl, if_neg (by omega)]
    exact rg_first hb (by omega) h1 (by omega) h (row_ok hI hi (by omega))
theorem tg_many (hI : IV s) (hl : l ≤ 20) (hi : i < sN s) (hz : ¬ lSm (sL s) i = 0) : ∀ (j m b : Nat) (p : WgV) (q : RgV), 1 ≤ m → m + j ≤ unN (sL s) i → b + j < 2 ^ 30 → RgR (sN s) b p q → RgR (sN s) (b + j) (foldN (tgW s l i) j m p) (foldN (rgG s l i) j m q) := by
  intro j
  induction j with
  | zero => intro m b p q _ _ _ h; exact h
  | succ j ih =>
    intro m b p q h1 h2 hb h
    rw [foldN, foldN, show b + (j + 1) = (b + 1) + j by omega]
    exact ih (m + 1) (b + 1) _ _ (by omega) (by omega) (by omega) (tg_one hI hl hi h1 (by omega) hz (by omega) h)
theorem ad_many {M : JF × JF} {le : Int32} {n u : Nat} : ∀ (j m b c : Nat) (q : RgV), (∀ k, m ≤ k → k < m + j → rowS s l i k = rowS s l i u) → rowS s l i u ∈ q.1 → RgR n b ((nI c, le), M) q → RgR n (b + j) ((nI (c + j), le), M) (foldN (adG s l i) j m q) := by
  intro j
  induction j with
  | zero => intro m b c q _ _ h; exact h
  | succ j ih =>
    intro m b c q he hq h
    rw [foldN, show b + (j + 1) = (b + 1) + j by omega, show c + (j + 1) = (c + 1) + j by omega]
    have e := he m (by omega) (by omega)
    have h2 := rg_again (s := s) (l := l) (i := i) (m := m) h (by rw [e]; exact hq)
    rw [show ((nI c, le), M).1.1 + 1 = nI (c + 1) from nI_s c] at h2
    exact ih (m + 1) (b + 1) (c + 1) _ (fun k k1 k2 => he k (by omega) (by omega)) (List.mem_cons_of_mem _ hq) h2
theorem tg_st (hI : IV s) (hl : l ≤ 20) (hi : i < sN s) (hb : b + 50 < 2 ^ 30) (h : RgR (sN s) b p q) : RgR (sN s) (b + 50) (foldN (tgW s l i) (unN (sL s) i) 1 p) (foldN (rgG s l i) 50 1 q) := by
  have o2 := hI.o2
  obtain ⟨a, a1, a2⟩ := (hI.lok.1 i hi).2.1
  have eu : unN (sL s) i = if 50 < a then 50 else a := by rw [unN, a2, show cl (nI a) = a from nI_clamp (by omega)]
  have mono : ∀ {b b' p q}, b ≤ b' → RgR (sN s) b p q → RgR (sN s) b' p q := fun e ⟨x, y⟩ => ⟨by omega, y⟩
  by_cases hz : lSm (sL s) i = 0
  · have ha : a = 0 := by rw [a2] at hz; exact nI_ij (b := 0) (by omega) (by omega) hz
    have hid : foldN (rgG s l i) 50 1 q = q := foldN_id _ _ _ (fun k _ _ q => by rw [rgG, guB, hz]; rfl)
    rw [hid, eu, ha]
    exact mono (by omega) h
  · have ha : 0 < a := by
      rcases Nat.eq_zero_or_pos a with e | e
      · rw [a2, e] at hz; exact absurd rfl hz
      · exact e
    generalize hu : unN (sL s) i = u at *
    have u1 : 1 ≤ u ∧ u ≤ 50 := by rw [eu]; split <;> omega
    have same : ∀ m, u ≤ m → m ≤ 50 → tearL (sN s) (sL s) i (nI m) = tearL (sN s) (sL s) i (nI u) := by
      intro m m1 m2
      by_cases y : 50 < a
      · rw [if_pos y] at eu
        rw [show m = u by omega]
      · rw [if_neg y] at eu
        subst eu
        exact tear_same a2 m1 (by omega)
    have h1 := tg_many hI hl hi hz (u - 1) 1 b p q (by omega) (by rw [hu]; omega) (by omega) h
    have e1 : foldN (tgW s l i) u 1 p = tgW s l i u (foldN (tgW s l i) (u - 1) 1 p) := by
      have := foldN_a (f := tgW s l i) (u - 1) 1 1 p
      rw [show u - 1 + 1 = u by omega, foldN, foldN, show 1 + (u - 1) = u by omega] at this
      exact this
    have e2 : foldN (rgG s l i) 50 1 q = foldN (rgG s l i) (50 - u + 1) u (foldN (rgG s l i) (u - 1) 1 q) := by
      have := foldN_a (f := rgG s l i) (u - 1) (50 - u + 1) 1 q
      rw [show u - 1 + (50 - u + 1) = 50 by omega, show 1 + (u - 1) = u by omega] at this
      exact this
    rw [e1, e2]
    generalize foldN (tgW s l i) (u - 1) 1 p = p1 at *
    generalize foldN (rgG s l i) (u - 1) 1 q = q1 at *
    unfold tgW
    rw [isF_20 hI.se.2 hl]
    have gu : ∀ m, u ≤ m → m ≤ 50 → guB s i m = isF (sT s) (sS s) 20 0 (tearL (sN s) (sL s) i (nI u)) := by
      intro m m1 m2
      rw [guB, beq_eq_false_iff_ne.mpr hz, Bool.not_false, Bool.true_and, same m m1 m2]
    cases hc : isF (sT s) (sS s) 20 0 (tearL (sN s) (sL s) i (nI u)) with
    | false =>
      rw [if_neg (by decide), foldN_id _ _ _ (fun k k1 k2 q => by rw [rgG, gu k k1 (by omega), hc]; rfl)]
      exact mono (by omega) h1
    | true =>
      have ead : foldN (rgG s l i) (50 - u + 1) u q1 = foldN (adG s l i) (50 - u + 1) u q1 := by
        have : ∀ (j m : Nat) (q : RgV), u ≤ m → m + j ≤ 51 → foldN (rgG s l i) j m q = foldN (adG s l i) j m q := by
          intro j
          induction j with
          | zero => intro m q _ _; rfl
          | succ j ih =>
            intro m q m1 m2
            rw [foldN, foldN, ih (m + 1) _ (by omega) (by omega), rgG, gu m m1 (by omega), hc, if_pos rfl]
        exact this _ _ _ (Nat.le_refl _) (by omega)
      rw [if_pos rfl, hu, if_pos rfl, ead, foldN]
      have hf := rg_first (s := s) (l := l) (i := i) (m := u) (by omega) (by omega) u1.1 u1.2 h1 (row_ok hI hi (by omega))
      have hlen := hf.2.1
      have hin : rowS s l i u ∈ (adG s l i u q1).1 := List.mem_cons_self
      have c1 : p1.1.1 = nI q1.1.length := h1.2.1
      rw [c1, nI_s] at hf
      have hm := ad_many (s := s) (l := l) (i := i) (u := u) (50 - u) (u + 1) (b + (u - 1) + 1) (q1.1.length + 1) _ (fun k k1 k2 => by rw [rowS, rowS, same k (by omega) (by omega)]) hin hf
      rw [show b + (u - 1) + 1 + (50 - u) = b + 50 by omega] at hm
      rw [c1, show (50 : Int32) - nI u + 1 = nI (50 - u + 1) from by rw [show (50 : Int32) - nI u = nI (50 - u) from pk_sub (a := 50) u1.2, nI_s], nI_add, show q1.1.length + (50 - u + 1) = q1.1.length + 1 + (50 - u) by omega]
      exact hm
theorem tg_all (hI : IV s) (hl : l ≤ 20) : ∀ (j i b : Nat) (p : WgV) (q : RgV), i + j ≤ sN s → b + 50 * j < 2 ^ 30 → RgR (sN s) b p q → RgR (sN s) (b + 50 * j) (foldN (fun i p => foldN (tgW s l i) (unN (sL s) i) 1 p) j i p) (foldN (fun i q => foldN (rgG s l i) 50 1 q) j i q) := by
  intro j
  induction j with
  | zero => intro i b p q _ _ h; exact h
  | succ j ih =>
    intro i b p q hi hb h
    rw [foldN, foldN, show b + 50 * (j + 1) = (b + 50) + 50 * j by omega]
    exact ih (i + 1) (b + 50) _ _ (by omega) (by omega) (tg_st hI hl (by omega) (by omega) h)
theorem wg_rg (hI : IV s) (hl : l ≤ 20) : RgR (sN s) (50 * sN s) (wgF s l) (rgF s l) := by
  have o2 := hI.o2
  have := tg_all hI hl (sN s) 0 0 ((0, -1), (fun _ => 0), (fun _ => 0)) ([], -1) (by omega) (by omega) ⟨Nat.le_refl _, rfl, rfl, ⟨fun _ => rfl, fun _ => rfl⟩, fun k hk v hv => ⟨⟨fun e => by rw [bJ_0] at e; exact absurd e (by decide), fun ⟨f, e, _⟩ => absurd e List.not_mem_nil⟩, ⟨fun e => by rw [bJ_0] at e; exact absurd e (by decide), fun ⟨f, e, _⟩ => absurd e List.not_mem_nil⟩⟩⟩
  rw [Nat.zero_add] at this
  exact this
end RGS
/-- one guess after the other -/
def rgH (s : CoreV) (l g : Nat) (q : RgV) : RgV := rgG s l (g / 50) (g % 50 + 1) q
theorem rgH_in {s : CoreV} {l i : Nat} : ∀ (j t : Nat) (q : RgV), t + j ≤ 50 → foldN (rgH s l) j (50 * i + t) q = foldN (rgG s l i) j (t + 1) q := by
  intro j
  induction j with
  | zero => intro t q _; rfl
  | succ j ih =>
    intro t q h
    rw [foldN, foldN, rgH, show (50 * i + t) / 50 = i by omega, show (50 * i + t) % 50 = t by omega, Nat.add_assoc, ih (t + 1) _ (by omega)]
theorem rgH_all {s : CoreV} {l : Nat} : ∀ (j i : Nat) (q : RgV), foldN (rgH s l) (50 * j) (50 * i) q = foldN (fun i q => foldN (rgG s l i) 50 1 q) j i q := by
  intro j
  induction j with
  | zero => intro i q; rfl
  | succ j ih =>
    intro i q
    have := rgH_in (s := s) (l := l) (i := i) 50 0 q (by omega)
    rw [Nat.add_zero, Nat.zero_add] at this
    rw [show 50 * (j + 1) = 50 + 50 * j by omega, foldN_a, this, show 50 * i + 50 = 50 * (i + 1) by omega, ih]
    show _ = foldN (fun i q => foldN (rgG s l i) 50 1 q) j (i + 1) (foldN (rgG s l i) 50 1 q)
    exact Eq.refl _
theorem rgF_H (s : CoreV) (l : Nat) : rgF s l = foldN (rgH s l) (50 * sN s) 0 ([], -1) := by
  have := rgH_all (s := s) (l := l) (sN s) 0 ([], -1)
  rw [Nat.mul_zero] at this
  rw [this, rgF]
section RTN
variable {g : GG} {h : Hp} {B d : Nat} {R : RefV} {s : CoreV}
/-- what a guess leaves -/
def GuQ (s : CoreV) (i m : Nat) (R R' : RefV) : Prop := QF R R' ∧ ri R' 0 = ri R 0 ∧ ra R' 26 = ra R 26 ∧ (guB s i m = true → ∀ k, k < sN s → ra R' 25 k = rowS s 5 i m k)
theorem d_isGuess {k : Nat} (hg : GOK g) (hd : 19 ≤ d) (hR : RA h B R) (hI : IV s) (hS : RS s R) (hk : k < 50 * sN s) : CT g d yX12_isGuess (wsC yX12_isGuess cX12_isGuess 3 (some .boolean)) [.ref B, .int (nI k)] h 0 0 (fun v h2 => v = some (.int (if guB s (k / 50) (k % 50 + 1) then 1 else 0)) ∧ ∃ R', h2 = pR h B R' ∧ GuQ s (k / 50) (k % 50 + 1) R R') noT := by
  have o1 := hI.o1
  have o2 := hI.o2
  have hi : k / 50 < sN s := by omega
  refine CT_ofB (by decide +kernel) (Nat.le_of_ble_eq_true rfl) rfl fun K XX => ?_
  refine b_X12_isGuess_0 hg (by omega) k00 XX _ _ _ ⟨_, hR.o, ?_⟩
  rw [show (50 : Int32) = nI 50 from rfl, nI_rem (by omega) (by omega) (by omega), pk_div (by omega) (by omega) (by omega), nI_s]
  generalize hi' : k / 50 = i at *
  generalize hm' : k % 50 + 1 = m at *
  have hm : 1 ≤ m ∧ m ≤ 50 := by omega
  refine use_i (d_isGap (b := 0) (d := d - 1) hg (by omega) hR (hS.tx hI) hi) (by omega) k00 ⟨fun w => ⟨_, hR.o, q_try hg hR hI hS (by omega) k00 ?_⟩, fun w => ⟨Or.inl rfl, ?_, R, hR.id.symm, QF.refl _, rfl, rfl, ?_⟩⟩
  · have hz : ¬ lSm (sL s) i = 0 := gp_n rfl w
    rintro R2 ⟨q2, t2, i2, c2⟩
    have r2 := hR.put R2
    refine ⟨_, r2.o, use_vR (d_loosens (b := 49) (d := d - 1) hg (by omega) r2 t2 hi (v := nI m) (nI_pos' (by omega)) (hI.lok.1 i hi).2.1) (by omega) k00 ?_⟩
    intro R3 x3
    rw [hR.pp]
    have r3 := hR.put R3
    have et : wearL (sN s) (sL s) i (nI m) = tearL (sN s) (sL s) i (nI m) := by rw [tearL, if_neg hz]
    have x3' : TX (sT s) 49 (tearL (sN s) (sL s) i (nI m)) R2 R3 := by rw [← et]; exact x3
    have q3 : QF R R3 := q2.trans x3'.qf
    have s3 := hS.qf hI q3
    refine ⟨_, r3.o, use_iR (d_isSeen (S := sS s) (d := d - 1) hg (by omega) r3 x3'.tm (hI.lok.tear hi (by omega)) hI.td o1 hI.se.1.1 hI.se.1.2 hI.se.2 s3.se.1 s3.se.2) (by omega) k00 ?_⟩
    rintro R4 ⟨q4, z4, a4, c4⟩
    have eg : guB s i m = isF (sT s) (sS s) 20 0 (tearL (sN s) (sL s) i (nI m)) := by rw [guB, beq_eq_false_iff_ne.mpr hz, Bool.not_false, Bool.true_and]
    rw [hR.pp, eg]
    refine ⟨?_, rfl, R4, rfl, q3.trans q4, ?_, ?_, ?_⟩
    · cases isF (sT s) (sS s) 20 0 (tearL (sN s) (sL s) i (nI m)) with
      | true => exact Or.inr rfl
      | false => exact Or.inl rfl
    · rw [z4, x3'.df.1, i2]
    · rw [a4, x3'.df.2.2 26 (by decide) (by decide) (by decide) (by decide), c2 26 (by decide)]
    · rw [eg]; exact c4
  · have hz : lSm (sL s) i = 0 := gp_y rfl w
    rw [guB, hz]; rfl
  · have hz : lSm (sL s) i = 0 := gp_y rfl w
    rw [guB, hz]; intro e; exact absurd e (by simp)
theorem r_torn (hg : GOK g) (hd : 22 ≤ d) (hR : RA h B R) (hI : IV s) (hS : RS s R) (v : Int32) : CT g d yX12_torn (wsC yX12_torn cX12_torn 5 (some .int)) [.ref B, .int v] h 0 0 (PrM h B cd2 s (m_torn s v)) noT := by
  have o1 := hI.o1
  have o2 := hI.o2
  refine CT_ofB (by decide +kernel) (Nat.le_of_ble_eq_true rfl) rfl fun K XX => ?_
  have r1 := hR.put (sI R 0 0)
  have s1 := hS.s0 hI
  have z1 : ri (sI R 0 0) 0 = 0 := ri_sI
  refine b_X12_torn_0 hg (by omega) k00 XX _ _ _ ⟨_, hR.w0 0, ?_⟩
  generalize sI R 0 0 = R1 at *
  refine ⟨_, r1.o, use_ck (d_isWhat (d := d - 1) hg (by omega) r1 z1 v 2) (by omega) k00 (fun c => ⟨fun _ => ⟨fun y => ?_, fun y => ?_⟩, fun e => absurd e (by decide)⟩) (fun c => ⟨fun e => absurd rfl e, fun _ => ptM (b := true) hI s1 ((QF.refl R1).i rfl) ri_sI (by rw [m_torn, c]; rfl) (hR.pp _ _)⟩)⟩
  · have em : m_torn s v = .inl (if v = 0 then (wgF s 0).1.1 else (wgF s 0).1.2, s) := by rw [m_torn, if_pos c, if_neg y]
    have hrel := wg_rg hI (l := 0) (by omega)
    rw [em, hrel.2.1, hrel.2.2.1, rgF_H]
    have lp : ∀ (j k : Nat) (R2 : RefV) (q : RgV), k + j = 50 * sN s → QF R1 R2 → ri R2 0 = 0 → foldN (rgH s 0) j k q = foldN (rgH s 0) (50 * sN s) 0 ([], -1) → VB g K 5 d 0 0 (PrM h B cd2 s (.inl (if v = 0 then nI (foldN (rgH s 0) (50 * sN s) 0 ([], -1)).1.length else (foldN (rgH s 0) (50 * sN s) 0 ([], -1)).2, s))) noT 0 0 45 [some (.ref B), some (.int v), some (.int (nI q.1.length)), some (.int q.2), some (.int (nI k))] [] (pR h B R2) := by
      intro j
      induction j with
      | zero =>
        intro k R2 q hk q2 z2 he
        have he' : q = foldN (rgH s 0) (50 * sN s) 0 ([], -1) := he
        have r2 := hR.put R2
        refine b_X12_torn_45 hg (by omega) k00 XX _ _ _ _ _ _ ⟨_, by rw [r2.i1, (s1.qf hI q2).n], ?_⟩
        rw [show (50 : Int32) * nI (sN s) = nI (50 * sN s) from pk_mul 50 _]
        refine ⟨fun _ => ⟨fun w => prM hI s1 q2 z2 (by rw [if_neg w, ← he']) rfl, fun w => prM hI s1 q2 z2 (by rw [if_pos w, ← he']) rfl⟩, fun e => absurd (nle_nI (by omega) (by omega) e) (by omega)⟩
      | succ j ih =>
        intro k R2 q hk q2 z2 he
        have r2 := hR.put R2
        have s2 := s1.qf hI q2
        rw [foldN, rgH, rgG] at he
        refine b_X12_torn_45 hg (by omega) k00 XX _ _ _ _ _ _ ⟨_, by rw [r2.i1, s2.n], ?_⟩
        rw [show (50 : Int32) * nI (sN s) = nI (50 * sN s) from pk_mul 50 _]
        refine ⟨fun e => absurd (le_nI (by omega) (by omega) e) (by omega), fun _ => ⟨_, r2.o, use_iR (d_isGuess (k := k) (d := d - 1) hg (by omega) r2 hI s2 (by omega)) (by omega) k00 ?_⟩⟩
        rintro R3 ⟨q3, z3, _, _⟩
        rw [hR.pp]
        cases hb : guB s (k / 50) (k % 50 + 1) with
        | false =>
          rw [hb, if_neg (by decide)] at he
          refine ⟨fun e => absurd rfl e, fun _ => b_X12_torn_94 hg (by omega) k00 XX _ _ _ _ _ _ ?_⟩
          rw [nI_s]
          exact ih (k + 1) R3 q (by omega) (q2.trans q3) (by rw [z3, z2]) he
        | true =>
          rw [hb, if_pos rfl] at he
          have hn := ih (k + 1) R3 _ (by omega) (q2.trans q3) (by rw [z3, z2]) he
          have el : (adG s 0 (k / 50) (k % 50 + 1) q).1.length = q.1.length + 1 := rfl
          have e2 : (adG s 0 (k / 50) (k % 50 + 1) q).2 = if q.2 = -1 then nI (100 * (k / 50) + (k % 50 + 1)) else q.2 := rfl
          rw [el, e2] at hn
          refine ⟨fun _ => ⟨fun w => b_X12_torn_94 hg (by omega) k00 XX _ _ _ _ _ _ ?_, fun w => b_X12_torn_94 hg (by omega) k00 XX _ _ _ _ _ _ ?_⟩, fun e => absurd e (by decide)⟩
          · rw [nI_s, nI_s]
            rw [if_neg w] at hn
            exact hn
          · rw [nI_s, show (50 : Int32) = nI 50 from rfl, nI_rem (by omega) (by omega) (by omega), pk_div (by omega) (by omega) (by omega), show nI (k / 50) * 100 = nI (k / 50 * 100) from pk_mul _ 100, nI_add, nI_s, nI_s]
            rw [if_pos w, show 100 * (k / 50) + (k % 50 + 1) = k / 50 * 100 + k % 50 + 1 by omega] at hn
            exact hn
    exact lp (50 * sN s) 0 R1 ([], -1) (by omega) (QF.refl _) z1 rfl
  · have em : m_torn s v = .inl (if isF (sT s) (sS s) (lastN (sS s) 0) 0 (sL s) then 1 else 0, s) := by rw [m_torn, if_pos c, if_pos y]
    rw [em, isF_20 hI.se.2 (by omega)]
    refine ⟨_, r1.o, q_try hg r1 hI s1 (by omega) k00 ?_⟩
    rintro R2 ⟨q2, t2, i2, c2⟩
    rw [hR.pp]
    have r2 := hR.put R2
    have s2 := s1.qf hI q2
    refine ⟨_, r2.o, use_iR (d_isSeen (S := sS s) (d := d - 1) hg (by omega) r2 t2 hI.lok hI.td o1 hI.se.1.1 hI.se.1.2 hI.se.2 s2.se.1 s2.se.2) (by omega) k00 ?_⟩
    rintro R3 ⟨q3, z3, _, _⟩
    rw [hR.pp]
    cases isF (sT s) (sS s) 20 0 (sL s) with
    | true => exact ⟨fun e => absurd e (by decide), fun _ => prM hI s1 (q2.trans q3) (by rw [z3, i2, z1]) rfl rfl⟩
    | false => exact ⟨fun _ => prM hI s1 (q2.trans q3) (by rw [z3, i2, z1]) rfl rfl, fun e => absurd rfl e⟩
end RTN
