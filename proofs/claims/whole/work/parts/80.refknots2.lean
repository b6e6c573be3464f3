/-! THE REFERENCE: READINGS, its walk -/
theorem fd_zero {K : KnV} {fg : AF} {pl : Nat} {a q : Nat → Nat} : ∀ L, fdO (· + ·) (saF K 0 fg pl a) L 0 = 0 ∧ fdO min (maF K 0 fg pl q) L 99999 = 99999 := by
  intro L
  induction L with
  | zero => exact ⟨rfl, by rw [fdO]⟩
  | succ L ih =>
    have hb : ∀ v l, hasB K 0 v l = false := fun v l => rfl
    rw [fdO, fdO, ih.1, ih.2, saF, maF, hb, if_neg (by decide), if_neg (by decide)]
    exact ⟨rfl, by omega⟩
theorem fd_two {s t : Nat → Nat} {N : Nat} (hN : N < 99999) : ∀ L, (∀ l, l < L → (s l = 0 → t l = 99999) ∧ (0 < s l → t l ≤ N)) → (fdO (· + ·) s L 0 = 0 → fdO min t L 99999 = 99999) ∧ (0 < fdO (· + ·) s L 0 → fdO min t L 99999 ≤ N) := by
  intro L
  induction L with
  | zero => intro _; exact ⟨fun _ => by rw [fdO], fun e => absurd e (by rw [fdO]; omega)⟩
  | succ L ih =>
    intro h
    obtain ⟨i1, i2⟩ := ih (fun l hl => h l (by omega))
    obtain ⟨h1, h2⟩ := h L (by omega)
    rw [fdO, fdO]
    refine ⟨fun e => ?_, fun e => ?_⟩
    · rw [i1 (by omega), h1 (by omega)]; omega
    · rcases Nat.eq_zero_or_pos (s L) with z | z
      · have := i2 (by omega); omega
      · have := h2 z; omega
theorem far_n : (99999 : Int32) = nI 99999 := by decide +kernel
section RKN
variable {g : GG} {h : Hp} {B d : Nat} {R : RefV} {s : CoreV}
theorem d_isHere {K : KnV} {fg : AF} {n pl k l : Nat} (hg : GOK g) (hd : 8 ≤ d) (hR : RA h B R) (hk : k < 8) (hl : l ≤ 4) (hn : n ≤ 9) (hpl : pl ≤ n) (el : ra R 3 k = nI l) (ev : ra R 2 k = K.2.1 k) (ef : ∀ i, i < n → ra R 21 i = fg i) : CT g d yX12_isHere (wsC yX12_isHere cX12_isHere 6 (some .boolean)) [.ref B, .int (nI k), .int (nI pl), .int (nI n)] h 0 0 (fun v h2 => v = some (.int (if hereB K n fg pl k l then 1 else 0)) ∧ h2 = h) noT := by
  refine CT_ofB (by decide +kernel) (Nat.le_of_ble_eq_true rfl) rfl fun KK XX => ?_
  refine b_X12_isHere_0 hg (by omega) k00 XX _ _ _ _ _ ⟨_, hR.n9, _, by rw [hR.r3 hk, el], ?_⟩
  rw [nI_add]
  refine ⟨fun y => ?_, fun y => ⟨Or.inl rfl, ?_, rfl⟩⟩
  · have y' := le_nI (by omega) (by omega) y
    have lp : ∀ (j i : Nat), i + j = l → VB g KK 6 d 0 0 (fun v h2 => v = some (.int (if hereB K n fg pl k l then 1 else 0)) ∧ h2 = h) noT 0 0 20 [some (.ref B), some (.int (nI k)), some (.int (nI pl)), none, some (.int (vlF fg pl i)), some (.int (nI i))] [] h := by
      intro j
      induction j with
      | zero =>
        intro i hi
        have hi' : i = l := by omega
        subst hi'
        refine b_X12_isHere_20 hg (by omega) k00 XX _ _ _ _ _ _ ⟨_, hR.n9, _, by rw [hR.r3 hk, el], fun _ => ⟨_, hR.n8, _, by rw [hR.r2 hk, ev], fun z => ⟨Or.inl rfl, ?_, rfl⟩, fun z => ⟨Or.inr rfl, ?_, rfl⟩⟩, fun q => absurd (nle_nI (by omega) (by omega) q) (by omega)⟩
        · rw [hereB, beq_eq_false_iff_ne.mpr z, Bool.and_false]; rfl
        · rw [hereB, decide_eq_true y', beq_iff_eq.mpr z]; rfl
      | succ j ih =>
        intro i hi
        refine b_X12_isHere_20 hg (by omega) k00 XX _ _ _ _ _ _ ⟨_, hR.n9, _, by rw [hR.r3 hk, el], fun q => absurd (le_nI (by omega) (by omega) q) (by omega), fun _ => ⟨_, hR.n48, ?_⟩⟩
        rw [nI_add]
        refine ⟨_, hR.r21 (by omega), ?_⟩
        rw [ef _ (by omega), nI_s]
        exact ih (i + 1) (by omega)
    exact lp l 0 (by omega)
  · have y' : ¬ pl + l ≤ n := fun e => y (nI_le e (by omega))
    rw [hereB, decide_eq_false y', Bool.false_and]; rfl
/-- what the rows hold at a place -/
def RdI (R1 R3 : RefV) (n c : Nat) (fg : AF) (A Q : Nat → Nat) (x y : Nat) : Prop := QF R1 R3 ∧ ri R3 0 = 0 ∧ (∀ i, i < n → ra R3 21 i = fg i) ∧ ra R3 22 c = nI x ∧ ra R3 23 c = nI y ∧ ∀ e, c + 1 ≤ e → e ≤ n → ra R3 22 e = nI (A e) ∧ ra R3 23 e = nI (Q e)
theorem RdI.up {R1 R3 : RefV} {n c : Nat} {fg : AF} {A Q : Nat → Nat} {x y x' y' : Nat} (q : RdI R1 R3 n c fg A Q x y) : RdI R1 (sA (sA R3 22 (upd (ra R3 22) c (nI x'))) 23 (upd (ra R3 23) c (nI y'))) n c fg A Q x' y' := by
  obtain ⟨q1, q2, q3, _, _, q6⟩ := q
  refine ⟨(q1.a rfl (by decide)).a rfl (by decide), q2, fun e he => by rw [ra_sAn (by decide), ra_sAn (by decide)]; exact q3 e he, ?_, ?_, ?_⟩
  · rw [ra_sAn (by decide), ra_sA, pk_us]
  · rw [ra_sA, pk_us]
  · intro e e1 e2
    rw [ra_sAn (by decide), ra_sA, ra_sA, pk_un (by omega), pk_un (by omega)]
    exact q6 e e1 e2
theorem rd_kn {KK : KX} (XX : CB g KK cX12_readings 7 yX12_readings (some .int) []) {Pr : Option Value → Hp → Prop} {R1 : RefV} {K : KnV} {m n c : Nat} {fg : AF} {A Q : Nat → Nat} {v : Int32} (hg : GOK g) (hd : 20 ≤ d) (hR : RA h B R) (m8 : m ≤ 8) (n9 : n ≤ 9) (hcn : c < n) (hP : PlI n (c + 1) A Q)
    (hlen : ∀ k, k < m → ∃ l, 1 ≤ l ∧ l ≤ 4 ∧ K.2.2.1 k = nI l) (hdis : ∀ i j, i < j → j < m → ¬ (K.2.1 i = K.2.1 j ∧ K.2.2.1 i = K.2.2.1 j)) (e3 : ri R1 3 = nI m) (hkl : ∀ i, i < m → ra R1 3 i = K.2.2.1 i ∧ ra R1 2 i = K.2.1 i)
    (fin : ∀ R3, RdI R1 R3 n c fg A Q (fdO (· + ·) (saF K m fg c A) (unL n c) 0) (fdO min (maF K m fg c Q) (unL n c) 99999) → VB g KK 7 d 0 0 Pr noT 0 0 99 [some (.ref B), none, some (.int v), some (.int (nI n)), none, some (.int (nI c - 1)), none] [] (pR h B R3)) :
    ∀ (j i : Nat) (R3 : RefV), i + j = m → RdI R1 R3 n c fg A Q (fdO (· + ·) (saF K i fg c A) (unL n c) 0) (fdO min (maF K i fg c Q) (unL n c) 99999) → VB g KK 7 d 0 0 Pr noT 0 0 145 [some (.ref B), none, some (.int v), some (.int (nI n)), none, some (.int (nI c)), some (.int (nI i))] [] (pR h B R3) := by
  have hne : ¬ nI c = nI n := fun e => by
    have := congrArg Int32.toInt e
    rw [nI_toInt (by omega), nI_toInt (by omega)] at this
    omega
  intro j
  induction j with
  | zero =>
    intro i R3 hi q
    have hi' : i = m := by omega
    subst hi'
    have r3 := hR.put R3
    refine b_X12_readings_145 hg (by omega) k00 XX _ _ _ _ _ _ ⟨_, by rw [r3.i3, q.1.1 3 rfl, e3], fun _ => ?_, fun q => absurd (nle_nI (by omega) (by omega) q) (by omega)⟩
    rw [show nI c + -1 = nI c - 1 from by rw [Int32.sub_eq_add_neg]]
    exact fin R3 q
  | succ j ih2 =>
    intro i R3 hi q
    have r3 := hR.put R3
    have him : i < m := by omega
    obtain ⟨l, l1, l4, el⟩ := hlen i him
    obtain ⟨o1, o2⟩ := one_k (K := K) (n := n) (pl := c) (fg := fg) (a := A) (q := Q) l1 l4 el (by omega) (fun e he z => hdis e i he him z)
    have g3 : ra R3 3 i = nI l := by rw [q.1.2.1 3 rfl, (hkl i him).1, el]
    have g2 : ra R3 2 i = K.2.1 i := by rw [q.1.2.1 2 rfl, (hkl i him).2]
    have hmn := fdO_min (f := maF K i fg c Q) (unL n c) 99999
    refine b_X12_readings_145 hg (by omega) k00 XX _ _ _ _ _ _ ⟨_, by rw [r3.i3, q.1.1 3 rfl, e3], fun q => absurd (le_nI (by omega) (by omega) q) (by omega), fun _ => ⟨fun y => absurd y hne, fun _ => ⟨_, r3.o, use_i (d_isHere (K := K) (fg := fg) (l := l) (d := d - 1) hg (by omega) r3 (by omega) l4 n9 (by omega) g3 g2 q.2.2.1) (by omega) k00 ?_⟩⟩⟩
    have ih3 := ih2 (i + 1)
    rw [o1, o2] at ih3
    obtain ⟨q1, q2, q3, q4, q5, q6⟩ := id q
    generalize fdO (· + ·) (saF K i fg c A) (unL n c) 0 = C at *
    generalize fdO min (maF K i fg c Q) (unL n c) 99999 = D at *
    cases hb : hereB K n fg c i l with
    | false =>
      rw [hb, if_neg (by decide), if_neg (by decide), Nat.add_zero, show min D 99999 = D by omega] at ih3
      refine ⟨fun e => absurd rfl e, fun _ => b_X12_readings_234 hg (by omega) k00 XX _ _ _ _ _ _ ?_⟩
      rw [nI_s]
      exact ih3 R3 (by omega) q
    | true =>
      rw [hb, if_pos rfl, if_pos rfl] at ih3
      have hb' := hb
      rw [hereB, Bool.and_eq_true, decide_eq_true_eq] at hb'
      have hcl := hb'.1
      obtain ⟨w1, w2⟩ := q6 (c + l) (by omega) hcl
      have hq : Q (c + l) ≤ 99999 := by
        obtain ⟨_, d2, d3⟩ := hP (c + l) (by omega) hcl
        rcases Nat.eq_zero_or_pos (A (c + l)) with e | e
        · have := d2 e; omega
        · have := d3 e; omega
      have h2 := q.up (x' := C + A (c + l)) (y' := min D (1 + Q (c + l)))
      have r4 := hR.put (sA R3 22 (upd (ra R3 22) c (nI (C + A (c + l)))))
      have f3 : ra (sA R3 22 (upd (ra R3 22) c (nI (C + A (c + l))))) 3 i = nI l := by rw [ra_sAn (by decide), g3]
      have f23 : ∀ e, ra (sA R3 22 (upd (ra R3 22) c (nI (C + A (c + l))))) 23 e = ra R3 23 e := fun e => by rw [ra_sAn (by decide)]
      have f23' : ra (sA R3 22 (upd (ra R3 22) c (nI (C + A (c + l))))) 23 = ra R3 23 := by rw [ra_sAn (by decide)]
      rw [← f23'] at h2
      have els : lsE (nI D) (1 + nI (Q (c + l))) = nI (min D (1 + Q (c + l))) := by
        rw [show (1 : Int32) + nI (Q (c + l)) = nI (1 + Q (c + l)) from nI_add 1 _, lsE]
        by_cases y : 1 + Q (c + l) ≤ D
        · rw [if_pos (nI_le y (by omega))]; congr 1; omega
        · rw [if_neg (nI_ge (by omega) (by omega))]; congr 1; omega
      have u22 := r3.u22 (k := c) (v := nI (C + A (c + l))) (by omega)
      rw [hR.pp] at u22
      generalize sA R3 22 (upd (ra R3 22) c (nI (C + A (c + l)))) = R4 at *
      refine ⟨fun _ => ⟨_, r3.n49, _, by rw [r3.r22 (by omega), q4], _, r3.n49, _, r3.n9, _, by rw [r3.r3 (by omega), g3], ?_⟩, fun e => absurd e (by decide)⟩
      rw [nI_add]
      refine ⟨_, by rw [r3.r22 (by omega), w1], ?_⟩
      rw [nI_add]
      refine ⟨_, u22, _, r4.n50, _, r4.n50, _, by rw [r4.r23 (by omega), f23, q5], _, r4.n50, _, r4.n9, _, by rw [r4.r3 (by omega), f3], ?_⟩
      rw [nI_add]
      refine ⟨_, by rw [r4.r23 (by omega), f23, w2], use_i (d_lesser (d := d - 1) hg (by omega) _ _) (by omega) k00 ?_⟩
      rw [els]
      refine ⟨_, r4.u23 (by omega), b_X12_readings_234 hg (by omega) k00 XX _ _ _ _ _ _ ?_⟩
      rw [hR.pp, nI_s]
      exact ih3 _ (by omega) h2
theorem rd_pls {KK : KX} (XX : CB g KK cX12_readings 7 yX12_readings (some .int) []) {R1 : RefV} {m n : Nat} {fg : AF} {v : Int32} {U : AF × AF} (hg : GOK g) (hd : 20 ≤ d) (hR : RA h B R) (hI : IV s) (s1 : RS s R1) (m8 : m ≤ 8) (n9 : n ≤ 9)
    (hlen : ∀ k, k < m → ∃ l, 1 ≤ l ∧ l ≤ 4 ∧ (tK (sT s)).2.2.1 k = nI l) (hdis : ∀ i j, i < j → j < m → ¬ ((tK (sT s)).2.1 i = (tK (sT s)).2.1 j ∧ (tK (sT s)).2.2.1 i = (tK (sT s)).2.2.1 j)) (e3 : ri R1 3 = nI m) (hkl : ∀ i, i < m → ra R1 3 i = (tK (sT s)).2.2.1 i ∧ ra R1 2 i = (tK (sT s)).2.1 i) :
    ∀ (c : Nat) (p : AF × AF) (R2 : RefV) (A Q : Nat → Nat), c ≤ n → QF R1 R2 → ri R2 0 = 0 → (∀ i, i < n → ra R2 21 i = fg i) → PlI n c A Q → PlC n c A Q p → (∀ e, c ≤ e → e ≤ n → ra R2 22 e = nI (A e) ∧ ra R2 23 e = nI (Q e)) → foldD (unF (tK (sT s)) m fg n) c p = U → VB g KK 7 d 0 0 (PrM h B cd2 s (.inl (if v = 0 then U.1 0 else U.2 0, s))) noT 0 0 99 [some (.ref B), none, some (.int v), some (.int (nI n)), none, some (.int (nI c - 1)), none] [] (pR h B R2) := by
  intro c
  induction c with
  | zero =>
    intro p R2 A Q _ q2 z2 hdg hP hC hrow he
    have he' : p = U := he
    subst he'
    have r2 := hR.put R2
    obtain ⟨w1, w2⟩ := hrow 0 (by omega) (by omega)
    obtain ⟨c1, c2⟩ := hC 0 (by omega) (by omega)
    have hq : Q 0 ≤ 99999 := by
      obtain ⟨_, d2, d3⟩ := hP 0 (by omega) (by omega)
      rcases Nat.eq_zero_or_pos (A 0) with e | e
      · have := d2 e; omega
      · have := d3 e; omega
    refine b_X12_readings_99 hg (by omega) k00 XX _ _ _ _ _ ⟨fun _ => ⟨fun y => ⟨_, r2.n50, _, by rw [show (0 : Int32) = nI 0 from rfl, r2.r23 (k := 0) (by omega), w2], fun y2 => ⟨_, r2.n50, _, by rw [show (0 : Int32) = nI 0 from rfl, r2.r23 (k := 0) (by omega), w2], prM hI s1 q2 z2 ?_ rfl⟩, fun y2 => prM hI s1 q2 z2 ?_ rfl⟩, fun y => ⟨_, r2.n49, _, by rw [show (0 : Int32) = nI 0 from rfl, r2.r22 (k := 0) (by omega), w1], prM hI s1 q2 z2 ?_ rfl⟩⟩, fun q => absurd (by decide) q⟩
    · rw [far_n] at y2
      have y3 := lt_nI (by omega) (by omega) y2
      rw [if_neg y, c2, FE, if_neg (by omega)]
    · rw [far_n] at y2
      have y3 := nlt_nI (by omega) (by omega) y2
      rw [if_neg y, c2, FE, if_pos y3]
    · rw [if_pos y, c1]
  | succ c ih =>
    intro p R2 A Q hc q2 z2 hdg hP hC hrow he
    have r2 := hR.put R2
    rw [foldD] at he
    rw [show nI (c + 1) - 1 = nI c from nI_pred c]
    have hne : ¬ nI c = nI n := fun e => by
      have := congrArg Int32.toInt e
      rw [nI_toInt (by omega), nI_toInt (by omega)] at this
      omega
    obtain ⟨u1, u2, u3⟩ := un_go (K := tK (sT s)) (m := m) (fg := fg) n9 (show c < n by omega) hP hC
    have hpos := unL_le n c
    have hf2 := fd_two (s := saF (tK (sT s)) m fg c A) (t := maF (tK (sT s)) m fg c Q) (N := n - c) (by omega) (unL n c) (fun l hl => by
      obtain ⟨_, d2, d3⟩ := hP (c + (l + 1)) (by omega) (by have := hpos.2 (by omega); omega)
      unfold saF maF
      cases hasB (tK (sT s)) m (vlF fg c (l + 1)) (nI (l + 1)) with
      | false => simp only [Bool.false_eq_true, if_false]; exact ⟨fun _ => trivial, fun e => by omega⟩
      | true =>
        simp only [if_true]
        refine ⟨fun e => by have := d2 e; omega, fun e => by have := d3 e; have := hpos.2 (by omega); omega⟩)
    have hsum : fdO (· + ·) (saF (tK (sT s)) m fg c A) (unL n c) 0 ≤ 4 ^ (n - c) := by
      have h1 := fdO_sum (f := saF (tK (sT s)) m fg c A) (M := 4 ^ (n - c - 1)) (unL n c) (fun l hl => by
        obtain ⟨d1, _, _⟩ := hP (c + (l + 1)) (by omega) (by have := hpos.2 (by omega); omega)
        have h3 : 4 ^ (n - (c + (l + 1))) ≤ 4 ^ (n - c - 1) := Nat.pow_le_pow_right (by omega) (by omega)
        unfold saF
        split
        · omega
        · exact Nat.zero_le _)
      have h2 : unL n c * 4 ^ (n - c - 1) ≤ 4 * 4 ^ (n - c - 1) := Nat.mul_le_mul_right _ hpos.1
      rw [show n - c = (n - c - 1) + 1 by omega, Nat.pow_succ]
      omega
    obtain ⟨f1, f2⟩ := fd_zero (K := tK (sT s)) (fg := fg) (pl := c) (a := A) (q := Q) (unL n c)
    have kn := rd_kn (v := v) (Pr := PrM h B cd2 s (.inl (if v = 0 then U.1 0 else U.2 0, s))) (fg := fg) (A := A) (Q := Q) XX hg hd hR m8 n9 (show c < n by omega) hP hlen hdis e3 hkl (fun R3 q => by
      obtain ⟨g1, g2, g3, g4, g5, g6⟩ := q
      refine ih (unF (tK (sT s)) m fg n c p) R3 (fun e => if e = c then fdO (· + ·) (saF (tK (sT s)) m fg c A) (unL n c) 0 else A e) (fun e => if e = c then fdO min (maF (tK (sT s)) m fg c Q) (unL n c) 99999 else Q e) (by omega) g1 g2 g3 ?_ ?_ ?_ he
      · intro e e1 e2
        by_cases y : e = c
        · subst y; simp only [if_true]; exact ⟨hsum, hf2.1, hf2.2⟩
        · simp only [if_neg y]; exact hP e (by omega) e2
      · intro e e1 e2
        by_cases y : e = c
        · subst y; simp only [if_true]; exact ⟨u1, u2⟩
        · simp only [if_neg y]
          rw [(u3 e (by omega)).1, (u3 e (by omega)).2]
          exact hC e (by omega) e2
      · intro e e1 e2
        by_cases y : e = c
        · subst y; simp only [if_true]; exact ⟨g4, g5⟩
        · simp only [if_neg y]; exact g6 e (by omega) e2) m 0
    rw [f1, f2] at kn
    have r3 := hR.put (sA R2 22 (upd (ra R2 22) c 0))
    refine b_X12_readings_99 hg (by omega) k00 XX _ _ _ _ _ ⟨fun q => absurd q (nI_pos (by omega)), fun _ => ⟨_, r2.n49, fun _ => b_X12_readings_121 hg (by omega) k00 XX _ _ _ _ _ _ _ _ ⟨_, r2.u22 (by omega), ?_⟩, fun y => absurd y hne⟩⟩
    rw [hR.pp]
    refine ⟨_, r3.n50, fun _ => b_X12_readings_141 hg (by omega) k00 XX _ _ _ _ _ _ _ _ ⟨_, r3.u23 (by omega), ?_⟩, fun y => absurd y hne⟩
    rw [hR.pp]
    refine kn _ (by omega) ⟨(q2.a rfl (by decide)).a rfl (by decide), z2, fun e he => by rw [ra_sAn (by decide), ra_sAn (by decide)]; exact hdg e he, ?_, ?_, ?_⟩
    · rw [ra_sAn (by decide), ra_sA, pk_us]; rfl
    · rw [ra_sA, pk_us, far_n]
    · intro e e1 e2
      rw [ra_sAn (by decide), ra_sA, ra_sA, ra_sAn (by decide), pk_un (by omega), pk_un (by omega)]
      exact hrow e e1 e2
theorem r_readings {m : Nat} (hg : GOK g) (hd : 20 ≤ d) (hR : RA h B R) (hI : IV s) (hS : RS s R) (hK : KnU (sT s) m) (x : ScrV) (a v : Int32) : CT g d yX12_readings (wsC yX12_readings cX12_readings 7 (some .int)) [.ref B, .int a, .int v] h 0 0 (PrM h B cd2 s (m_readings s x m a v)) noT := by
  obtain ⟨⟨m8, em⟩, hlen, hdis⟩ := hK
  refine CT_ofB (by decide +kernel) (Nat.le_of_ble_eq_true rfl) rfl fun KK XX => ?_
  have r1 := hR.put (sI R 0 0)
  have s1 := hS.s0 hI
  have z1 : ri (sI R 0 0) 0 = 0 := ri_sI
  refine b_X12_readings_0 hg (by omega) k00 XX _ _ _ _ ⟨_, hR.w0 0, ?_⟩
  generalize sI R 0 0 = R1 at *
  refine ⟨_, r1.o, use_ck (d_isWhat (d := d - 1) hg (by omega) r1 z1 v 1) (by omega) k00 (fun c => ⟨fun e => absurd e (by decide), fun _ => ?_⟩) (fun c => ⟨fun _ => ptM (b := true) hI s1 ((QF.refl R1).i rfl) ri_sI (by rw [m_readings, c]; rfl) (hR.pp _ _), fun e => absurd rfl e⟩)⟩
  refine use_i (d_within (d := d - 1) hg (by omega) a 0 999999999) (by omega) k00 ?_
  refine ⟨_, r1.o, use_ck (d_right (d := d - 1) hg (by omega) r1 z1 (wnB a 0 999999999) (by decide)) (by omega) k00 (fun c2 => ⟨fun _ => ?_, fun e => absurd e (by decide)⟩) (fun c2 => ⟨fun e => absurd rfl e, fun _ => ptM (b := false) hI s1 ((QF.refl R1).i rfl) ri_sI ?_ (hR.pp _ _)⟩)⟩
  · obtain ⟨c3, c4⟩ := wnB_t c2
    have ea := nI_cl c3
    have hk : cl a ≤ 999999999 := by
      have c5 := Int32.not_lt.mp c4
      rw [ea, show (999999999 : Int32) = nI 999999999 from rfl] at c5
      exact le_nI (cl_lt a) (by omega) c5
    have emm : m_readings s x m a v = .inl (if v = 0 then (utF (tK (sT s)) m (cl a) (xK x).2).2.1 0 else (utF (tK (sT s)) m (cl a) (xK x).2).2.2 0, s) := by rw [m_readings, if_pos c, if_neg c3, if_pos (Int32.not_lt.mp c4)]
    rw [emm]
    clear emm c2 c3 c4
    generalize cl a = k at *
    subst ea
    obtain ⟨n1, n9⟩ := dgL_r k
    generalize hz : (xK x).2 = z
    have hU1 : (utF (tK (sT s)) m k z).2 = foldD (unF (tK (sT s)) m (fgF (dgL k) k z.1) (dgL k)) (dgL k) (upd z.2.1 (dgL k) 1, upd z.2.2 (dgL k) 0) := by rw [utF]
    rw [hU1]
    clear hU1 hz
    have hkl : ∀ i, i < m → ra R1 3 i = (tK (sT s)).2.2.1 i ∧ ra R1 2 i = (tK (sT s)).2.1 i := fun i hi => by
      have := s1.kn.2 i (by rw [em, show cl (nI m) = m from nI_clamp (by omega)]; exact hi)
      exact ⟨this.2, this.1⟩
    have em1 : ri R1 3 = nI m := by rw [s1.kn.1, em]
    -- the end of the digits
    have fin : ∀ (R2 : RefV), QF R1 R2 → ri R2 0 = 0 → (∀ i, i < dgL k → ra R2 21 i = fgF (dgL k) k z.1 i) → VB g KK 7 d 0 0 (PrM h B cd2 s (.inl (if v = 0 then (foldD (unF (tK (sT s)) m (fgF (dgL k) k z.1) (dgL k)) (dgL k) (upd z.2.1 (dgL k) 1, upd z.2.2 (dgL k) 0)).1 0 else (foldD (unF (tK (sT s)) m (fgF (dgL k) k z.1) (dgL k)) (dgL k) (upd z.2.1 (dgL k) 1, upd z.2.2 (dgL k) 0)).2 0, s))) noT 0 0 99 [some (.ref B), none, some (.int v), some (.int (nI (dgL k))), none, some (.int (nI (dgL k))), none] [] (pR h B R2) := by
      intro R2 q2 z2 hdg
      generalize fgF (dgL k) k z.1 = fg at *
      generalize dgL k = n at *
      have r2 := hR.put R2
      have r3 := hR.put (sA R2 22 (upd (ra R2 22) n 1))
      refine b_X12_readings_99 hg (by omega) k00 XX _ _ _ _ _ ⟨fun q => absurd q (nI_pos (by omega)), fun _ => ⟨_, r2.n49, fun y => absurd rfl y, fun _ => b_X12_readings_121 hg (by omega) k00 XX _ _ _ _ _ _ _ _ ⟨_, r2.u22 (by omega), ?_⟩⟩⟩
      rw [hR.pp]
      refine ⟨_, r3.n50, fun y => absurd rfl y, fun _ => b_X12_readings_141 hg (by omega) k00 XX _ _ _ _ _ _ _ _ ⟨_, r3.u23 (by omega), ?_⟩⟩
      rw [hR.pp]
      have t22 : ra (sA (sA R2 22 (upd (ra R2 22) n 1)) 23 (upd (ra (sA R2 22 (upd (ra R2 22) n 1)) 23) n 0)) 22 n = nI 1 := by rw [ra_sAn (by decide), ra_sA, pk_us]; rfl
      have t23 : ra (sA (sA R2 22 (upd (ra R2 22) n 1)) 23 (upd (ra (sA R2 22 (upd (ra R2 22) n 1)) 23) n 0)) 23 n = nI 0 := by rw [ra_sA, pk_us]; rfl
      have t21 : ∀ i, i < n → ra (sA (sA R2 22 (upd (ra R2 22) n 1)) 23 (upd (ra (sA R2 22 (upd (ra R2 22) n 1)) 23) n 0)) 21 i = fg i := fun e he => by rw [ra_sAn (by decide), ra_sAn (by decide)]; exact hdg e he
      have tq : QF R1 (sA (sA R2 22 (upd (ra R2 22) n 1)) 23 (upd (ra (sA R2 22 (upd (ra R2 22) n 1)) 23) n 0)) := (q2.a rfl (by decide)).a rfl (by decide)
      have tz : ri (sA (sA R2 22 (upd (ra R2 22) n 1)) 23 (upd (ra (sA R2 22 (upd (ra R2 22) n 1)) 23) n 0)) 0 = 0 := z2
      generalize sA (sA R2 22 (upd (ra R2 22) n 1)) 23 (upd (ra (sA R2 22 (upd (ra R2 22) n 1)) 23) n 0) = R3 at *
      have r4 := hR.put R3
      have sk : ∀ (j i : Nat), i + j = m → VB g KK 7 d 0 0 (PrM h B cd2 s (.inl (if v = 0 then (foldD (unF (tK (sT s)) m fg n) n (upd z.2.1 n 1, upd z.2.2 n 0)).1 0 else (foldD (unF (tK (sT s)) m fg n) n (upd z.2.1 n 1, upd z.2.2 n 0)).2 0, s))) noT 0 0 145 [some (.ref B), none, some (.int v), some (.int (nI n)), none, some (.int (nI n)), some (.int (nI i))] [] (pR h B R3) := by
        intro j
        induction j with
        | zero =>
          intro i hi
          refine b_X12_readings_145 hg (by omega) k00 XX _ _ _ _ _ _ ⟨_, by rw [r4.i3, tq.1 3 rfl, em1], fun _ => ?_, fun q => absurd (nle_nI (by omega) (by omega) q) (by omega)⟩
          rw [show nI n + -1 = nI n - 1 from by rw [Int32.sub_eq_add_neg]]
          refine rd_pls XX hg hd hR hI s1 m8 n9 hlen hdis em1 hkl n (upd z.2.1 n 1, upd z.2.2 n 0) R3 (fun _ => 1) (fun _ => 0) (Nat.le_refl _) tq tz t21 ?_ ?_ ?_ rfl
          · intro e e1 e2
            exact ⟨Nat.pow_pos (by omega), fun y => absurd (show (1 : Nat) = 0 from y) (by decide), fun _ => Nat.zero_le _⟩
          · intro e e1 e2
            have : e = n := by omega
            subst this
            exact ⟨pk_us, by rw [FE, if_neg (show ¬ 99999 ≤ 0 by decide)]; exact pk_us⟩
          · intro e e1 e2
            have : e = n := by omega
            subst this
            exact ⟨t22, t23⟩
        | succ j ih =>
          intro i hi
          refine b_X12_readings_145 hg (by omega) k00 XX _ _ _ _ _ _ ⟨_, by rw [r4.i3, tq.1 3 rfl, em1], fun q => absurd (le_nI (by omega) (by omega) q) (by omega), fun _ => ⟨fun _ => b_X12_readings_234 hg (by omega) k00 XX _ _ _ _ _ _ ?_, fun y => absurd rfl y⟩⟩
          rw [nI_s]
          exact ih (i + 1) (by omega)
      exact sk m 0 (by omega)
    -- the digits
    have dig : ∀ (j r : Nat) (f : AF) (R2 : RefV), j ≤ dgL k → r ≤ 999999999 → QF R1 R2 → ri R2 0 = 0 → fgF j r f = fgF (dgL k) k z.1 → (∀ i, j ≤ i → i < dgL k → ra R2 21 i = f i) → VB g KK 7 d 0 0 (PrM h B cd2 s (.inl (if v = 0 then (foldD (unF (tK (sT s)) m (fgF (dgL k) k z.1) (dgL k)) (dgL k) (upd z.2.1 (dgL k) 1, upd z.2.2 (dgL k) 0)).1 0 else (foldD (unF (tK (sT s)) m (fgF (dgL k) k z.1) (dgL k)) (dgL k) (upd z.2.1 (dgL k) 1, upd z.2.2 (dgL k) 0)).2 0, s))) noT 0 0 66 [some (.ref B), none, some (.int v), some (.int (nI (dgL k))), some (.int (nI r)), some (.int (nI j - 1)), none] [] (pR h B R2) := by
      intro j
      induction j with
      | zero =>
        intro r f R2 _ _ q2 z2 he hrow
        refine b_X12_readings_66 hg (by omega) k00 XX _ _ _ _ _ _ ⟨fun _ => fin R2 q2 z2 (fun i hi => ?_), fun q => absurd (by decide) q⟩
        rw [← he, hrow i (by omega) hi, fgF]
      | succ j ih =>
        intro r f R2 hj hr q2 z2 he hrow
        have r2 := hR.put R2
        rw [show nI (j + 1) - 1 = nI j from nI_pred j]
        refine b_X12_readings_66 hg (by omega) k00 XX _ _ _ _ _ _ ⟨fun q => absurd q (nI_pos (by omega)), fun _ => ⟨_, r2.n48, _, r2.u21 (by omega), ?_⟩⟩
        rw [hR.pp, show (10 : Int32) = nI 10 from rfl, nI_rem (by omega) (by omega) (by omega), pk_div (by omega) (by omega) (by omega), show nI j + -1 = nI j - 1 from by rw [Int32.sub_eq_add_neg]]
        rw [fgF] at he
        refine ih (r / 10) _ _ (by omega) (by omega) (q2.a rfl (by decide)) z2 he (fun i h1 h2 => ?_)
        rw [ra_sA]
        by_cases y : i = j
        · subst y; rw [pk_us, pk_us]
        · rw [pk_un y, pk_un y]; exact hrow i (by omega) h2
    -- how many
    have cnt : ∀ (j n r : Nat), n + j = 9 → r < 10 ^ j → r ≤ 999999999 → spL j n r = dgL k → VB g KK 7 d 0 0 (PrM h B cd2 s (.inl (if v = 0 then (foldD (unF (tK (sT s)) m (fgF (dgL k) k z.1) (dgL k)) (dgL k) (upd z.2.1 (dgL k) 1, upd z.2.2 (dgL k) 0)).1 0 else (foldD (unF (tK (sT s)) m (fgF (dgL k) k z.1) (dgL k)) (dgL k) (upd z.2.1 (dgL k) 1, upd z.2.2 (dgL k) 0)).2 0, s))) noT 0 0 40 [some (.ref B), some (.int (nI k)), some (.int v), some (.int (nI n)), some (.int (nI r)), none, none] [] (pR h B R1) := by
      intro j
      induction j with
      | zero =>
        intro n r hn hr _ he
        have he' : n = dgL k := he
        subst he'
        refine b_X12_readings_40 hg (by omega) k00 XX _ _ _ _ _ _ ⟨fun _ => dig (dgL k) k z.1 R1 (Nat.le_refl _) hk (QF.refl _) z1 rfl (fun i h1 h2 => by omega), fun q => absurd ?_ q⟩
        rw [show r = 0 by omega]; decide
      | succ j ih =>
        intro n r hn hr hr2 he
        refine b_X12_readings_40 hg (by omega) k00 XX _ _ _ _ _ _ ⟨fun q => ?_, fun q => ?_⟩
        · rw [nI_z, nI_leI (by omega) (by omega)] at q
          rw [spL, if_pos (by omega)] at he
          subst he
          exact dig (dgL k) k z.1 R1 (Nat.le_refl _) hk (QF.refl _) z1 rfl (fun i h1 h2 => by omega)
        · rw [nI_z, nI_leI (by omega) (by omega)] at q
          rw [nI_s, show (10 : Int32) = nI 10 from rfl, pk_div (by omega) (by omega) (by omega)]
          refine ih (n + 1) (r / 10) (by omega) ?_ (by omega) ?_
          · rw [Nat.pow_succ] at hr; omega
          · rw [spL, if_neg (by omega)] at he
            exact he
    rw [show (10 : Int32) = nI 10 from rfl, pk_div (by omega) (by omega) (by omega)]
    exact cnt 8 1 (k / 10) (by omega) (by omega) (by omega) rfl
  · by_cases e : a < 0
    · rw [m_readings, if_pos c, if_pos e]
    · rcases wnB_f c2 with e2 | e2
      · exact absurd e2 e
      · rw [m_readings, if_pos c, if_neg e, if_neg (Int32.not_le.mpr e2)]
end RKN
