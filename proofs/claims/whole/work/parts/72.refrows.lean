/-! THE REFERENCE'S public methods: rows round the ring (the first rows: the kit's BITS.to-paste) -/
theorem b_and (x y : Int32) (i : Nat) : bt (x &&& y) i = (bt x i && bt y i) := by unfold bt; rw [Int32.toBitVec_and, BitVec.getLsbD_and]
theorem b_xor (x y : Int32) (i : Nat) : bt (x ^^^ y) i = (bt x i ^^ bt y i) := by unfold bt; rw [Int32.toBitVec_xor, BitVec.getLsbD_xor]
theorem b_m1 : ∀ i, i < 32 → bt (-1) i = true := by decide +kernel
theorem b_1 : ∀ i, i < 32 → bt 1 i = decide (i = 0) := by decide +kernel
theorem s_l : ∀ n, n < 32 → ((nI n &&& 31).toBitVec.smod 32).toNat = n := by decide +kernel
theorem b_sshr (n : Nat) (hn : n < 32) (x : Int32) {i : Nat} (hi : i < 32) : bt (x >>> (nI n &&& 31)) i = if n + i < 32 then bt x (n + i) else bt x 31 := by
  unfold bt
  rw [Int32.toBitVec_shiftRight]
  show (BitVec.sshiftRight' x.toBitVec _).getLsbD i = _
  rw [BitVec.getLsbD_sshiftRight']
  rw [s_l n hn]
  simp only [show ¬ 32 ≤ i by omega, decide_false, Bool.not_false, Bool.true_and]
  by_cases e : n + i < 32
  · rw [if_pos e, if_pos e]
  · rw [if_neg e, if_neg e]; rfl
theorem bitE_bt (v : Int32) {k : Nat} (hk : k < 32) : bitE v k = if bt v k then 1 else 0 := by
  refine b_ext fun i hi => ?_
  unfold bitE
  rw [b_and, b_sshr k hk v hi, b_1 i hi]
  by_cases e : i = 0
  · subst e
    rw [Nat.add_zero, if_pos hk]
    cases bt v k <;> decide
  · rw [decide_eq_false e, Bool.and_false]
    cases bt v k
    · rw [if_neg (by decide)]; exact (b_0 i).symm
    · rw [if_pos rfl, b_1 i hi, decide_eq_false e]
theorem bitE_F {p : Nat → Bool} {n k : Nat} (hn : n ≤ 12) (hk : k < n) : bitE (bitsF p n) k = if p k then 1 else 0 := by
  rw [bitE_bt _ (by omega), bitsF_bt p n hn k (by omega)]
  simp [hk]
theorem bitsF_0 {p : Nat → Bool} {n : Nat} (hn : n ≤ 12) : bitsF p n = 0 ↔ ∀ k, k < n → p k = false := by
  constructor
  · intro e k hk
    have := bitsF_bt p n hn k (by omega)
    rw [e, b_0] at this
    simpa [hk] using this.symm
  · intro q
    refine b_ext fun i hi => ?_
    rw [bitsF_bt p n hn i hi, b_0]
    by_cases e : i < n
    · simp [q i e]
    · simp [e]
def rwG (q : Nat → Bool) (n i : Nat) (p : Int32) : Int32 := if q i && !q (aheN n i) then p + 1 else p
def rwQ (q : Nat → Bool) (n : Nat) : Int32 := if foldN (rwG q n) n 0 0 = 0 then (if q 0 then 1 else 0) else foldN (rwG q n) n 0 0
theorem foldN_cnt {q : Nat → Bool} {n : Nat} : ∀ (j i m : Nat), i + j ≤ n → ∃ c, m ≤ c ∧ c ≤ m + j ∧ foldN (rwG q n) j i (nI m) = nI c ∧ (c = m → ∀ k, i ≤ k → k < i + j → (q k && !q (aheN n k)) = false) := by
  intro j
  induction j with
  | zero => intro i m _; exact ⟨m, by omega, by omega, rfl, fun _ k h1 h2 => by omega⟩
  | succ j ih =>
    intro i m hi
    rw [foldN, rwG]
    cases hb : (q i && !q (aheN n i)) with
    | true =>
      rw [if_pos rfl, nI_s]
      obtain ⟨c, c1, c2, c3, _⟩ := ih (i + 1) (m + 1) (by omega)
      exact ⟨c, by omega, by omega, c3, fun e => by omega⟩
    | false =>
      rw [if_neg (by decide)]
      obtain ⟨c, c1, c2, c3, c4⟩ := ih (i + 1) m (by omega)
      refine ⟨c, c1, by omega, c3, fun e k h1 h2 => ?_⟩
      by_cases ek : k = i
      · subst ek; exact hb
      · exact c4 e k (by omega) (by omega)
theorem rwQ_all {q : Nat → Bool} {n : Nat} (hn : n ≤ 12) (h0 : foldN (rwG q n) n 0 0 = 0) : ∀ k, k < n → q k = true → q 0 = true := by
  obtain ⟨c, c1, c2, c3, c4⟩ := foldN_cnt (q := q) (n := n) n 0 0 (by omega)
  have c0 : c = 0 := by
    have : nI c = nI 0 := c3.symm.trans h0
    exact (nI_eq (by omega) (by omega)).mp this
  have c5 := c4 c0
  intro k
  induction k with
  | zero => intro _ e; exact e
  | succ k ih =>
    intro hk e
    have := c5 (k + 1) (by omega) (by omega)
    rw [e, show aheN n (k + 1) = k from by rw [aheN, if_neg (by omega)]; rfl] at this
    exact ih (by omega) (by simpa using this)
theorem roF_q {q : Nat → Bool} {n : Nat} (hn : n ≤ 12) (h0 : 0 < n) : roF n (bitsF q n) = rwQ q n := by
  have ef : foldN (roG n (bitsF q n)) n 0 0 = foldN (rwG q n) n 0 0 := by
    refine foldN_congr (n := n) (fun k hk p => ?_) n 0 0 (by omega)
    rw [roG, rwG, bitE_F hn hk, bitE_F hn (aheN_lt h0 hk)]
    cases q k <;> cases q (aheN n k) <;> simp
  unfold roF rwQ
  rw [ef]
  by_cases e : foldN (rwG q n) n 0 0 = 0
  · rw [if_pos e, if_pos e]
    by_cases z : bitsF q n = 0
    · rw [if_pos z]
      have := (bitsF_0 hn).mp z 0 h0
      rw [this]; rfl
    · rw [if_neg z]
      have : q 0 = true := by
        apply Classical.byContradiction
        intro nq
        refine z ((bitsF_0 hn).mpr fun k hk => ?_)
        cases hq : q k with
        | false => rfl
        | true => exact absurd (rwQ_all hn e k hk hq) nq
      rw [this]; rfl
  · rw [if_neg e, if_neg e]
theorem mod_aft {n i l : Nat} (h0 : 0 < n) : aftN n ((i + l) % n) = (i + (l + 1)) % n := by
  have h1 := Nat.mod_lt (i + l) h0
  rw [show i + (l + 1) = (i + l) + 1 by omega, Nat.add_mod (i + l) 1 n, aftN]
  by_cases e : (i + l) % n + 1 < n
  · rw [if_pos e]
    by_cases e1 : n = 1
    · subst e1; omega
    · rw [Nat.mod_eq_of_lt (show 1 < n by omega), Nat.mod_eq_of_lt e]
  · rw [if_neg e]
    have e2 : (i + l) % n = n - 1 := by omega
    rw [e2]
    by_cases e1 : n = 1
    · subst e1; rfl
    · rw [Nat.mod_eq_of_lt (show 1 < n by omega), show n - 1 + 1 = n by omega, Nat.mod_self]
section RW2
variable {g : GG} {h h2 : Hp} {B b d D k kc ks mc ms : Nat} {T : ToldV} {X Y : LandV} {R0 R R' : RefV} {s s' : CoreV} {a : Int32}
theorem r_closed (hg : GOK g) (hd : 20 ≤ d) (hR : RA h B R) (hI : IV s) (hS : RS s R) (v : Int32) : CT g d yX12_closed (wsC yX12_closed cX12_closed 6 (some .int)) [.ref B, .int v] h 0 0 (PrM h B cd2 s (m_closed s v)) noT := by
  have o1 := hI.o1
  have o2 := hI.o2
  refine CT_ofB (by decide +kernel) (Nat.le_of_ble_eq_true rfl) rfl fun K XX => ?_
  have r1 := hR.put (sI R 0 0)
  have s1 := hS.s0 hI
  have z1 : ri (sI R 0 0) 0 = 0 := ri_sI
  refine b_X12_closed_0 hg (by omega) k00 XX _ _ _ ⟨_, hR.w0 0, ?_⟩
  generalize sI R 0 0 = R1 at *
  refine ⟨_, r1.o, use_ck (d_isWhat (d := d - 1) hg (by omega) r1 z1 v 1) (by omega) k00 (fun c => ⟨fun _ => ?_, fun e => absurd e (by decide)⟩) (fun c => ⟨fun e => absurd rfl e, fun _ => ptM (b := true) hI s1 ((QF.refl R1).i rfl) ri_sI (by rw [m_closed, c]; rfl) (hR.pp _ _)⟩)⟩
  have em : m_closed s v = .inl (if v = 0 then (cdF s).1 else (cdF s).2, s) := by rw [m_closed, if_pos c]
  rw [em]
  have x1 := s1.tx hI
  generalize hn : sN s = n at *
  have hcd : foldN (cdG n (sL s)) n 0 (0, -1) = cdF s := by rw [cdF, hn]
  have lp : ∀ (j i : Nat) (p : Int32 × Int32), i + j = n → foldN (cdG n (sL s)) j i p = cdF s → VB g K 6 d 0 0 (PrM h B cd2 s (.inl (if v = 0 then (cdF s).1 else (cdF s).2, s))) noT 0 0 23 [some (.ref B), some (.int v), some (.int p.1), some (.int p.2), some (.int (nI i)), none] [] (pR h B R1) := by
    intro j
    induction j with
    | zero =>
      intro i p hi he
      have he' : p = cdF s := he
      exact b_X12_closed_23 hg (by omega) k00 XX _ _ _ _ _ _ ⟨_, by rw [r1.i1, s1.n, hn], fun _ => ⟨fun y => prM hI s1 (QF.refl _) z1 (by rw [if_neg y, he']) rfl, fun y => prM hI s1 (QF.refl _) z1 (by rw [if_pos y, he']) rfl⟩, fun q => absurd (nle_nI (by omega) (by omega) q) (by omega)⟩
    | succ j ih =>
      intro i p hi he
      have fin : ∀ l : Nat, l ≤ n → nI l = cfF n (sL s) n i 0 → VB g K 6 d 0 0 (PrM h B cd2 s (.inl (if v = 0 then (cdF s).1 else (cdF s).2, s))) noT 0 0 68 [some (.ref B), some (.int v), some (.int p.1), some (.int p.2), some (.int (nI i)), some (.int (nI l))] [] (pR h B R1) := by
        intro l hl hcl
        refine b_X12_closed_68 hg (by omega) k00 XX _ _ _ _ _ _ _ ⟨fun y => ?_, fun y => ?_⟩
        · refine b_X12_closed_83 hg (by omega) k00 XX _ _ _ _ _ _ ?_
          rw [nI_s]
          refine ih (i + 1) (nI l, nI i) (by omega) ?_
          rw [hcl] at y
          rw [← he, foldN, cdG, if_neg (Int32.not_le.mpr y), hcl]
        · refine b_X12_closed_83 hg (by omega) k00 XX _ _ _ _ _ _ ?_
          rw [nI_s]
          refine ih (i + 1) p (by omega) ?_
          rw [hcl] at y
          rw [← he, foldN, cdG, if_pos (Int32.not_lt.mp y)]
      have inner : ∀ (j2 l : Nat), l + j2 = n → cfF n (sL s) j2 ((i + l) % n) l = cfF n (sL s) n i 0 → VB g K 6 d 0 0 (PrM h B cd2 s (.inl (if v = 0 then (cdF s).1 else (cdF s).2, s))) noT 0 0 35 [some (.ref B), some (.int v), some (.int p.1), some (.int p.2), some (.int (nI i)), some (.int (nI l))] [] (pR h B R1) := by
        intro j2
        induction j2 with
        | zero =>
          intro l hl hcl
          have hl' : l = n := by omega
          refine b_X12_closed_35 hg (by omega) k00 XX _ _ _ _ _ _ _ ⟨_, by rw [r1.i1, s1.n, hn], fun _ => fin l (by omega) (by rw [← hcl, hl']; rfl), fun q => absurd (nle_nI (by omega) (by omega) q) (by omega)⟩
        | succ j2 ih2 =>
          intro l hl hcl
          have hm : (i + l) % n < n := Nat.mod_lt _ (by omega)
          refine b_X12_closed_35 hg (by omega) k00 XX _ _ _ _ _ _ _ ⟨_, by rw [r1.i1, s1.n, hn], fun q => absurd (le_nI (by omega) (by omega) q) (by omega), fun _ => ⟨_, by rw [r1.i1, s1.n, hn], nI_ne0 (by omega) (by omega), _, r1.o, ?_⟩⟩
          rw [nI_add, nI_rem (by omega) (by omega) (by omega)]
          refine use_i (d_isGap (b := 0) (d := d - 1) hg (by omega) r1 x1 (k := (i + l) % n) (by show _ < sN s; omega)) (by omega) k00 ⟨fun z => fin l (by omega) ?_, fun z => ?_⟩
          · rw [← hcl, cfF, if_pos (gp_y rfl z)]
          · rw [nI_s]
            refine ih2 (l + 1) (by omega) ?_
            rw [← hcl, cfF, if_neg (gp_n rfl z), mod_aft (by omega)]
      refine b_X12_closed_23 hg (by omega) k00 XX _ _ _ _ _ _ ⟨_, by rw [r1.i1, s1.n, hn], fun q => absurd (le_nI (by omega) (by omega) q) (by omega), fun _ => ?_⟩
      refine inner n 0 (by omega) ?_
      rw [Nat.add_zero, Nat.mod_eq_of_lt (by omega)]
  exact lp n 0 (0, -1) (by omega) hcd
theorem r_tight (hg : GOK g) (hd : 20 ≤ d) (hR : RA h B R) (hI : IV s) (hS : RS s R) (u v : Int32) : CT g d yX12_tight (wsC yX12_tight cX12_tight 8 (some .int)) [.ref B, .int u, .int v] h 0 0 (PrM h B cd2 s (m_tight s u v)) noT := by
  have o1 := hI.o1
  have o2 := hI.o2
  refine CT_ofB (by decide +kernel) (Nat.le_of_ble_eq_true rfl) rfl fun K XX => ?_
  have r1 := hR.put (sI R 0 0)
  have s1 := hS.s0 hI
  have z1 : ri (sI R 0 0) 0 = 0 := ri_sI
  refine b_X12_tight_0 hg (by omega) k00 XX _ _ _ _ ⟨_, hR.w0 0, ?_⟩
  generalize sI R 0 0 = R1 at *
  refine ⟨_, r1.o, use_ck (d_isWhat (d := d - 1) hg (by omega) r1 z1 v 1) (by omega) k00 (fun c => ⟨fun e => absurd e (by decide), fun _ => ?_⟩) (fun c => ⟨fun _ => ptM (b := true) hI s1 ((QF.refl R1).i rfl) ri_sI (by rw [m_tight, c]; rfl) (hR.pp _ _), fun e => absurd rfl e⟩)⟩
  refine use_i (d_within (d := d - 1) hg (by omega) u 1 12) (by omega) k00 ⟨_, r1.o, use_ck (d_right (w := 2) (d := d - 1) hg (by omega) r1 z1 (wnB u 1 12) (by decide)) (by omega) k00 (fun c2 => ⟨fun _ => ?_, fun e => absurd e (by decide)⟩) (fun c2 => ⟨fun e => absurd rfl e, fun _ => ptM (b := false) hI s1 ((QF.refl R1).i rfl) ri_sI ?_ (hR.pp _ _)⟩)⟩
  · have cc := wnB_t c2
    have u0 : ¬ u < 0 := fun e => cc.1 (Int32.lt_trans e (by decide))
    have eu := nI_cl u0
    have hu : cl u ≤ 12 := by
      have := Int32.not_lt.mp cc.2
      rw [eu, show (12 : Int32) = nI 12 from rfl] at this
      exact le_nI (cl_lt u) (by omega) this
    have em : m_tight s u v = if u ≤ nI (sN s) then .inl (if v = 0 then (tgF s (cl u)).1 else (tgF s (cl u)).2, s) else .inl (-1, s) := by rw [m_tight, if_pos c, if_neg cc.1, if_pos (Int32.not_lt.mp cc.2)]
    rw [em]
    generalize cl u = m at *
    rw [eu]
    by_cases hmn : m ≤ sN s
    · rw [if_pos (nI_le hmn (by omega))]
      generalize hn : sN s = n at *
      have htg : foldN (tgG n m (sL s)) n 0 (-1, -1) = tgF s m := by rw [tgF, hn]
      have fin0 : ∀ p : Int32 × Int32, p = tgF s m → VB g K 8 d 0 0 (PrM h B cd2 s (.inl (if v = 0 then (tgF s m).1 else (tgF s m).2, s))) noT 0 0 119 [none, none, some (.int v), some (.int p.2), some (.int p.1), none, none, none] [] (pR h B R1) := by
        intro p hp
        exact b_X12_tight_119 hg (by omega) k00 XX _ _ _ _ ⟨fun y => prM hI s1 (QF.refl _) z1 (by rw [if_neg y, hp]) rfl, fun y => prM hI s1 (QF.refl _) z1 (by rw [if_pos y, hp]) rfl⟩
      have lp : ∀ (j i : Nat) (p : Int32 × Int32), i + j = n → foldN (tgG n m (sL s)) j i p = tgF s m → VB g K 8 d 0 0 (PrM h B cd2 s (.inl (if v = 0 then (tgF s m).1 else (tgF s m).2, s))) noT 0 0 39 [some (.ref B), some (.int (nI m)), some (.int v), some (.int p.2), some (.int p.1), some (.int (nI i)), none, none] [] (pR h B R1) := by
        intro j
        induction j with
        | zero =>
          intro i p hi he
          exact b_X12_tight_39 hg (by omega) k00 XX _ _ _ _ _ _ _ ⟨_, by rw [r1.i1, s1.n, hn], fun _ => fin0 p he, fun q => absurd (nle_nI (by omega) (by omega) q) (by omega)⟩
        | succ j ih =>
          intro i p hi he
          refine b_X12_tight_39 hg (by omega) k00 XX _ _ _ _ _ _ _ ⟨_, by rw [r1.i1, s1.n, hn], fun q => absurd (le_nI (by omega) (by omega) q) (by omega), fun _ => ⟨_, by rw [r1.i1, s1.n, hn], fun q => absurd (lt_nI (by omega) (by omega) q) (by omega), fun _ => ?_⟩⟩
          have inner : ∀ (j2 l : Nat) (t : Int32), l + j2 = m → sfF n (sL s) j2 ((i + l) % n) t = sfF n (sL s) m i 0 → VB g K 8 d 0 0 (PrM h B cd2 s (.inl (if v = 0 then (tgF s m).1 else (tgF s m).2, s))) noT 0 0 62 [some (.ref B), some (.int (nI m)), some (.int v), some (.int p.2), some (.int p.1), some (.int (nI i)), some (.int t), some (.int (nI l))] [] (pR h B R1) := by
            intro j2
            induction j2 with
            | zero =>
              intro l t hl ht
              have ht' : t = sfF n (sL s) m i 0 := ht
              refine b_X12_tight_62 hg (by omega) k00 XX _ _ _ _ _ _ _ _ _ ⟨fun _ => ⟨fun y => ?_, fun y => ?_⟩, fun q => absurd (nle_nI (by omega) (by omega) q) (by omega)⟩
              · refine b_X12_tight_113 hg (by omega) k00 XX _ _ _ _ _ _ _ ?_
                rw [nI_s]
                refine ih (i + 1) (t, nI i) (by omega) ?_
                rw [ht'] at y
                rw [← he, foldN, tgG, if_neg (Int32.not_le.mpr y), ht']
              · refine b_X12_tight_113 hg (by omega) k00 XX _ _ _ _ _ _ _ ?_
                rw [nI_s]
                refine ih (i + 1) p (by omega) ?_
                rw [ht'] at y
                rw [← he, foldN, tgG, if_pos (Int32.not_lt.mp y)]
            | succ j2 ih2 =>
              intro l t hl ht
              have hm : (i + l) % n < n := Nat.mod_lt _ (by omega)
              refine b_X12_tight_62 hg (by omega) k00 XX _ _ _ _ _ _ _ _ _ ⟨fun q => absurd (le_nI (by omega) (by omega) q) (by omega), fun _ => ⟨_, r1.n40, _, by rw [r1.i1, s1.n, hn], nI_ne0 (by omega) (by omega), ?_⟩⟩
              rw [nI_add, nI_rem (by omega) (by omega) (by omega), show (1 : Int32) + nI ((i + l) % n) = nI (1 + (i + l) % n) from nI_add 1 _]
              refine ⟨_, r1.r14 (by omega), ?_⟩
              rw [s1.st0 (k := (i + l) % n) (by rw [hn]; exact hm), nI_s]
              refine ih2 (l + 1) _ (by omega) ?_
              rw [← ht, sfF, mod_aft (by omega)]
          refine inner m 0 0 (by omega) ?_
          rw [Nat.add_zero, Nat.mod_eq_of_lt (by omega)]
      exact lp n 0 (-1, -1) (by omega) htg
    · rw [if_neg (nI_ge (by omega) (by omega))]
      refine b_X12_tight_39 hg (by omega) k00 XX _ _ _ _ _ _ _ ⟨_, by rw [r1.i1, s1.n], fun q => absurd (le_nI (y := 0) (by omega) (by omega) q) (by omega), fun _ => ⟨_, by rw [r1.i1, s1.n], fun _ => ?_, fun q => absurd (nlt_nI (by omega) (by omega) q) (by omega)⟩⟩
      exact b_X12_tight_119 hg (by omega) k00 XX _ _ _ _ ⟨fun y => prM hI s1 (QF.refl _) z1 rfl rfl, fun y => prM hI s1 (QF.refl _) z1 rfl rfl⟩
  · rcases wnB_f c2 with e | e
    · rw [m_tight, if_pos c, if_pos e]
    · rw [m_tight, if_pos c, if_neg (Int32.not_le.mpr e)]; split <;> rfl
theorem r_gaps (hg : GOK g) (hd : 20 ≤ d) (hR : RA h B R) (hI : IV s) (hS : RS s R) : CT g d yX12_gaps (wsC yX12_gaps cX12_gaps 3 (some .int)) [.ref B] h 0 0 (PrM h B cd2 s (m_gaps s)) noT := by
  have o1 := hI.o1
  have o2 := hI.o2
  refine CT_ofB (by decide +kernel) (Nat.le_of_ble_eq_true rfl) rfl fun K XX => ?_
  have r1 := hR.put (sI R 0 0)
  have s1 := hS.s0 hI
  have z1 : ri (sI R 0 0) 0 = 0 := ri_sI
  refine b_X12_gaps_0 hg (by omega) k00 XX _ _ ⟨_, hR.w0 0, ?_⟩
  generalize sI R 0 0 = R1 at *
  have x1 := s1.tx hI
  have em : m_gaps s = .inl (rwQ (fun k => lSm (sL s) k == 0) (sN s), s) := by rw [m_gaps, ← roF_q o2 (by omega)]
  rw [em]
  generalize hq : (fun k => lSm (sL s) k == 0) = q
  have hqk : ∀ k, q k = decide (lSm (sL s) k = 0) := fun k => by rw [← hq]; rfl
  have fin : ∀ a, a = rwQ q (sN s) → PrM h B cd2 s (.inl (rwQ q (sN s), s)) (some (.int a)) (pR h B R1) := fun a e => prM hI s1 (QF.refl _) z1 (by rw [e]) rfl
  have lp : ∀ (j i : Nat) (p : Int32), i + j = sN s → foldN (rwG q (sN s)) j i p = foldN (rwG q (sN s)) (sN s) 0 0 → VB g K 3 d 0 0 (PrM h B cd2 s (.inl (rwQ q (sN s), s))) noT 0 0 9 [some (.ref B), some (.int p), some (.int (nI i))] [] (pR h B R1) := by
    intro j
    induction j with
    | zero =>
      intro i p hi he
      have he' : p = foldN (rwG q (sN s)) (sN s) 0 0 := he
      refine b_X12_gaps_9 hg (by omega) k00 XX _ _ _ _ ⟨_, by rw [r1.i1, s1.n], fun _ => ⟨fun y => fin p ?_, fun y => ⟨_, r1.o, use_i (d_isGap (b := 0) (k := 0) (d := d - 1) hg (by omega) r1 x1 (by show 0 < sN s; omega)) (by omega) k00 ⟨fun z => fin p ?_, fun z => fin 1 ?_⟩⟩⟩, fun q => absurd (nle_nI (by omega) (by omega) q) (by omega)⟩
      · rw [rwQ, ← he', if_neg y]
      · rw [rwQ, ← he', if_pos y, hqk 0, decide_eq_false (gp_n rfl z), y]; rfl
      · rw [rwQ, ← he', if_pos y, hqk 0, decide_eq_true (gp_y rfl z)]; rfl
    | succ j ih =>
      intro i p hi he
      have hin : i < sN s := by omega
      have ha := aheN_lt (n := sN s) (k := i) (by omega) hin
      have one : ∀ v : Int32, p + v = rwG q (sN s) i p → VB g K 3 d 0 0 (PrM h B cd2 s (.inl (rwQ q (sN s), s))) noT 0 0 45 [some (.ref B), none, some (.int (nI i))] [.int v, .int p] (pR h B R1) := by
        intro v hv
        refine b_X12_gaps_45 hg (by omega) k00 XX _ _ _ _ _ ?_
        rw [nI_s, hv]
        exact ih (i + 1) _ (by omega) he
      refine b_X12_gaps_9 hg (by omega) k00 XX _ _ _ _ ⟨_, by rw [r1.i1, s1.n], fun q => absurd (le_nI (by omega) (by omega) q) (by omega), fun _ => ⟨_, r1.o, use_i (d_isGap (b := 0) (d := d - 1) hg (by omega) r1 x1 hin) (by omega) k00 ⟨fun z => b_X12_gaps_44 hg (by omega) k00 XX _ _ _ _ (one 0 ?_), fun z => ⟨_, r1.o, use_i (d_ahead1 (d := d - 1) hg (by omega) r1 x1 hin) (by omega) k00 ⟨_, r1.o, use_i (d_isGap (b := 0) (d := d - 1) hg (by omega) r1 x1 ha) (by omega) k00 ⟨fun y => b_X12_gaps_44 hg (by omega) k00 XX _ _ _ _ (one 0 ?_), fun y => one 1 ?_⟩⟩⟩⟩⟩⟩
      · rw [rwG, hqk i, decide_eq_false (gp_n rfl z), Int32.add_zero]; rfl
      · rw [rwG, hqk (aheN (sN s) i), decide_eq_true (gp_y rfl y), Int32.add_zero]; simp
      · rw [rwG, hqk i, hqk (aheN (sN s) i), decide_eq_true (gp_y rfl z), decide_eq_false (gp_n rfl y)]; rfl
  exact lp (sN s) 0 0 (by omega) rfl
theorem r_load (hg : GOK g) (hd : 20 ≤ d) (hR : RA h B R) (hI : IV s) (hS : RS s R) (v : Int32) : CT g d yX12_load (wsC yX12_load cX12_load 4 (some .int)) [.ref B, .int v] h 0 0 (PrM h B cd1 s (m_load s v)) noT := by
  have o1 := hI.o1
  have o2 := hI.o2
  refine CT_ofB (by decide +kernel) (Nat.le_of_ble_eq_true rfl) rfl fun K XX => ?_
  have r1 := hR.put (sI R 0 0)
  have s1 := hS.s0 hI
  have z1 : ri (sI R 0 0) 0 = 0 := ri_sI
  refine b_X12_load_0 hg (by omega) k00 XX _ _ _ ⟨_, hR.w0 0, use_i (d_within (d := d - 1) hg (by omega) v 0 99) (by omega) k00 ?_⟩
  generalize sI R 0 0 = R1 at *
  have x1 := s1.tx hI
  refine ⟨_, r1.o, use_ck (d_right (d := d - 1) hg (by omega) r1 z1 (wnB v 0 99) (by decide)) (by omega) k00 (fun c => ⟨fun _ => ?_, fun e => absurd e (by decide)⟩) (fun c => ⟨fun e => absurd rfl e, fun _ => ptM (b := false) hI s1 ((QF.refl R1).i rfl) ri_sI ?_ (hR.pp _ _)⟩)⟩
  · have cc := wnB_t c
    have em : m_load s v = .inl (rwQ (fun k => !decide (lStr (sL s) k < v)) (sN s), s) := by rw [m_load, if_neg cc.1, if_pos (Int32.not_lt.mp cc.2), ← roF_q o2 (by omega)]
    rw [em]
    generalize hq : (fun k => !decide (lStr (sL s) k < v)) = q
    have hqk : ∀ k, q k = !decide (lStr (sL s) k < v) := fun k => by rw [← hq]
    have fin : ∀ a, a = rwQ q (sN s) → PrM h B cd1 s (.inl (rwQ q (sN s), s)) (some (.int a)) (pR h B R1) := fun a e => prM hI s1 (QF.refl _) z1 (by rw [e]) rfl
    have lp : ∀ (j i : Nat) (p : Int32), i + j = sN s → foldN (rwG q (sN s)) j i p = foldN (rwG q (sN s)) (sN s) 0 0 → VB g K 4 d 0 0 (PrM h B cd1 s (.inl (rwQ q (sN s), s))) noT 0 0 26 [some (.ref B), some (.int v), some (.int p), some (.int (nI i))] [] (pR h B R1) := by
      intro j
      induction j with
      | zero =>
        intro i p hi he
        have he' : p = foldN (rwG q (sN s)) (sN s) 0 0 := he
        refine b_X12_load_26 hg (by omega) k00 XX _ _ _ _ _ ⟨_, by rw [r1.i1, s1.n], fun _ => ⟨fun y => fin p ?_, fun y => ⟨_, r1.n40, _, r1.r14 (k := 1) (by omega), ?_⟩⟩, fun q => absurd (nle_nI (by omega) (by omega) q) (by omega)⟩
        · rw [rwQ, ← he', if_neg y]
        · rw [show ra R1 14 1 = lStr (sL s) 0 from s1.st0 (k := 0) (by omega)]
          refine ⟨fun z => fin p ?_, fun z => fin 1 ?_⟩
          · rw [rwQ, ← he', if_pos y, hqk 0, decide_eq_true z, y]; rfl
          · rw [rwQ, ← he', if_pos y, hqk 0, decide_eq_false z]; rfl
      | succ j ih =>
        intro i p hi he
        have hin : i < sN s := by omega
        have ha := aheN_lt (n := sN s) (k := i) (by omega) hin
        have one : ∀ t : Int32, p + t = rwG q (sN s) i p → VB g K 4 d 0 0 (PrM h B cd1 s (.inl (rwQ q (sN s), s))) noT 0 0 68 [some (.ref B), some (.int v), none, some (.int (nI i))] [.int t, .int p] (pR h B R1) := by
          intro t hv
          refine b_X12_load_68 hg (by omega) k00 XX _ _ _ _ _ _ ?_
          rw [nI_s, hv]
          exact ih (i + 1) _ (by omega) he
        refine b_X12_load_26 hg (by omega) k00 XX _ _ _ _ _ ⟨_, by rw [r1.i1, s1.n], fun q => absurd (le_nI (by omega) (by omega) q) (by omega), fun _ => ⟨_, r1.n40, ?_⟩⟩
        rw [show (1 : Int32) + nI i = nI (1 + i) from nI_add 1 i]
        refine ⟨_, r1.r14 (by omega), ?_⟩
        rw [s1.st0 hin]
        refine ⟨fun z => b_X12_load_67 hg (by omega) k00 XX _ _ _ _ _ (one 0 ?_), fun z => ⟨_, r1.n40, _, r1.o, use_i (d_ahead1 (d := d - 1) hg (by omega) r1 x1 hin) (by omega) k00 ?_⟩⟩
        · rw [rwG, hqk i, decide_eq_true z, Int32.add_zero]; rfl
        · rw [show (1 : Int32) + nI (aheN (tN_ (sT s)) i) = nI (1 + aheN (sN s) i) from nI_add 1 _]
          refine ⟨_, r1.r14 (by omega), ?_⟩
          rw [s1.st0 ha]
          refine ⟨fun y => b_X12_load_67 hg (by omega) k00 XX _ _ _ _ _ (one 0 ?_), fun y => one 1 ?_⟩
          · rw [rwG, hqk (aheN (sN s) i), decide_eq_false (Int32.not_lt.mpr y), Int32.add_zero]; simp
          · rw [rwG, hqk i, hqk (aheN (sN s) i), decide_eq_false z, decide_eq_true (Int32.not_le.mp y)]; rfl
    exact lp (sN s) 0 0 (by omega) rfl
  · rcases wnB_f c with e | e
    · rw [m_load, if_pos e]
    · rw [m_load, if_neg (Int32.not_le.mpr e)]; split <;> rfl
end RW2
