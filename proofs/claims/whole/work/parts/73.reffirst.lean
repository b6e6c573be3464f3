/-! THE REFERENCE'S public methods: first, steady, meet, toHold -/
theorem opnD_spec (T : ToldV) (L : LandV) (a : Nat) : ∀ (j k : Nat), (∀ m, opnD T a j k (daysT T k L) = some m → k ≤ m ∧ m < k + j ∧ lSm (daysT T m L) a = 0 ∧ ∀ m', k ≤ m' → m' < m → ¬ lSm (daysT T m' L) a = 0) ∧ (opnD T a j k (daysT T k L) = none → ∀ m', k ≤ m' → m' < k + j → ¬ lSm (daysT T m' L) a = 0) := by
  intro j
  induction j with
  | zero => intro k; exact ⟨fun m e => (by cases e), fun _ m' h1 h2 => (by omega)⟩
  | succ j ih =>
    intro k
    rw [opnD]
    by_cases e : lSm (daysT T k L) a = 0
    · rw [if_pos e]
      refine ⟨fun m em => ?_, fun em => by cases em⟩
      cases em
      exact ⟨by omega, by omega, e, fun m' h1 h2 => by omega⟩
    · rw [if_neg e, ← daysT_succ]
      obtain ⟨i1, i2⟩ := ih (k + 1)
      refine ⟨fun m em => ?_, fun em m' h1 h2 => ?_⟩
      · obtain ⟨h1, h2, h3, h4⟩ := i1 m em
        refine ⟨by omega, by omega, h3, fun m' g1 g2 => ?_⟩
        by_cases ek : m' = k
        · rw [ek]; exact e
        · exact h4 m' (by omega) g2
      · by_cases ek : m' = k
        · rw [ek]; exact e
        · exact i2 em m' (by omega) (by omega)
/-- closed now and open behind k days -/
def nwP (T : ToldV) (L : LandV) (k i : Nat) : Prop := ¬ lSm L i = 0 ∧ lSm (daysT T k L) i = 0
def FS (T : ToldV) (L : LandV) (r : Int32) : Prop := (r = -1 ∧ ∀ k, 1 ≤ k → k ≤ 60 → ∀ i, i < tN_ T → ¬ nwP T L k i) ∨ ∃ k i, 1 ≤ k ∧ k ≤ 60 ∧ i < tN_ T ∧ nwP T L k i ∧ r = nI i ∧ (∀ k', 1 ≤ k' → k' < k → ∀ i', i' < tN_ T → ¬ nwP T L k' i') ∧ ∀ i', i' < i → ¬ nwP T L k i'
theorem FS.eq {T : ToldV} {L : LandV} {r r2 : Int32} (a : FS T L r) (b : FS T L r2) : r = r2 := by
  rcases a with ⟨a1, a2⟩ | ⟨k, i, a1, a2, a3, a4, a5, a6, a7⟩
  · rcases b with ⟨b1, _⟩ | ⟨k2, i2, b1, b2, b3, b4, _⟩
    · rw [a1, b1]
    · exact absurd b4 (a2 k2 b1 b2 i2 b3)
  · rcases b with ⟨b1, b2⟩ | ⟨k2, i2, b1, b2, b3, b4, b5, b6, b7⟩
    · exact absurd a4 (b2 k a1 a2 i a3)
    · have ek : k = k2 := by
        rcases Nat.lt_trichotomy k k2 with e | e | e
        · exact absurd a4 (b6 k a1 e i a3)
        · exact e
        · exact absurd b4 (a6 k2 b1 e i2 b3)
      subst ek
      have ei : i = i2 := by
        rcases Nat.lt_trichotomy i i2 with e | e | e
        · exact absurd a4 (b7 i e)
        · exact e
        · exact absurd b4 (a7 i2 e)
      rw [a5, b5, ei]
theorem lstB_spec (v : Int32) : ∀ (j k : Nat), k + j ≤ 32 → (∀ m, k ≤ m → m < k + j → bt v m = true → (∀ m', k ≤ m' → m' < m → bt v m' = false) → lstB v j k = nI m) := by
  intro j
  induction j with
  | zero => intro k _ m h1 h2; omega
  | succ j ih =>
    intro k hk m h1 h2 hb hl
    unfold lstB
    have e : ((v >>> (nI k &&& 31)) &&& 1 = 1) ↔ bt v k = true := by
      have := bitE_bt v (k := k) (by omega)
      rw [show (v >>> (nI k &&& 31)) &&& 1 = bitE v k from rfl, this]
      cases bt v k <;> simp
    by_cases em : m = k
    · subst em
      rw [if_pos (e.mpr hb)]
    · have : ¬ bt v k = true := by rw [hl k (by omega) (by omega)]; decide
      rw [if_neg (fun z => this (e.mp z))]
      exact ih (k + 1) (by omega) m (by omega) (by omega) hb (fun m' g1 g2 => hl m' (by omega) g2)
theorem cls_FS {T : ToldV} {L : LandV} (hn : tN_ T ≤ 12) : ∀ (j k : Nat), k + j = 60 → (∀ k', 1 ≤ k' → k' ≤ k → ∀ i, i < tN_ T → ¬ nwP T L k' i) → FS T L (fstF T (bitsF (fun k => lSm L k == 0) (tN_ T) ^^^ (-1)) j (daysT T k L)) := by
  intro j
  induction j with
  | zero => intro k hk hq; exact Or.inl ⟨rfl, fun k' h1 h2 => hq k' h1 (by omega)⟩
  | succ j ih =>
    intro k hk hq
    have bb : ∀ i, i < 32 → bt (bitsF (fun i => lSm (dayT T (daysT T k L)) i == 0) (tN_ T) &&& (bitsF (fun k => lSm L k == 0) (tN_ T) ^^^ (-1))) i = (decide (i < tN_ T) && (lSm (daysT T (k + 1) L) i == 0) && !(lSm L i == 0)) := by
      intro i hi
      rw [b_and, b_xor, bitsF_bt _ _ hn i hi, bitsF_bt _ _ hn i hi, b_m1 i hi, ← daysT_succ]
      cases decide (i < tN_ T) <;> simp
    rw [fstF]
    by_cases e : bitsF (fun i => lSm (dayT T (daysT T k L)) i == 0) (tN_ T) &&& (bitsF (fun k => lSm L k == 0) (tN_ T) ^^^ (-1)) = 0
    · rw [if_pos e, ← daysT_succ]
      refine ih (k + 1) (by omega) (fun k' h1 h2 i hi => ?_)
      by_cases ek : k' = k + 1
      · subst ek
        rintro ⟨q1, q2⟩
        have := bb i (by omega)
        rw [e, b_0] at this
        simp [hi, q1, q2] at this
      · exact hq k' h1 (by omega) i hi
    · rw [if_neg e]
      -- the least
      have ex : ∃ i, i < tN_ T ∧ nwP T L (k + 1) i := by
        apply Classical.byContradiction
        intro ne
        refine e (b_ext fun i hi => ?_)
        rw [bb i hi, b_0]
        by_cases hin : i < tN_ T
        · by_cases q1 : lSm L i = 0
          · simp [q1]
          · by_cases q2 : lSm (daysT T (k + 1) L) i = 0
            · exact absurd ⟨i, hin, q1, q2⟩ ne
            · simp [q2]
        · simp [hin]
      obtain ⟨i, ⟨i1, i2⟩, i3⟩ := pk_least (fun i => i < tN_ T ∧ nwP T L (k + 1) i) ex
      refine Or.inr ⟨k + 1, i, by omega, by omega, i1, i2, ?_, fun k' h1 h2 i' hi' => hq k' h1 (by omega) i' hi', fun i' hi' q => i3 i' hi' ⟨by omega, q⟩⟩
      refine lstB_spec _ 32 0 (by omega) i (by omega) (by omega) ?_ (fun m' _ hm' => ?_)
      · rw [bb i (by omega)]
        have q1 := i2.1
        have q2 := i2.2
        simp [i1, q1, q2]
      · rw [bb m' (by omega)]
        have := i3 m' hm'
        by_cases q1 : lSm L m' = 0
        · simp [q1]
        · by_cases q2 : lSm (daysT T (k + 1) L) m' = 0
          · exact absurd ⟨by omega, q1, q2⟩ this
          · simp [q2]
def fsG (T : ToldV) (L : LandV) (i : Nat) (p : Int32 × Int32) : Int32 × Int32 := if farE (opnD T i 61 0 L) = 0 then p else if farE (opnD T i 61 0 L) < p.2 then (nI i, farE (opnD T i 61 0 L)) else p
def FI (T : ToldV) (L : LandV) (m : Nat) (p : Int32 × Int32) : Prop := (p = (-1, 99999) ∧ ∀ k, 1 ≤ k → k ≤ 60 → ∀ i, i < m → ¬ nwP T L k i) ∨ ∃ k i, 1 ≤ k ∧ k ≤ 60 ∧ i < m ∧ nwP T L k i ∧ p = (nI i, nI k) ∧ (∀ k', 1 ≤ k' → k' < k → ∀ i', i' < m → ¬ nwP T L k' i') ∧ ∀ i', i' < i → ¬ nwP T L k i'
theorem FI.step {T : ToldV} {L : LandV} {m : Nat} {p : Int32 × Int32} (q : FI T L m p) : FI T L (m + 1) (fsG T L m p) := by
  have hsp := opnD_spec T L m 61 0
  have keep : (∀ k, 1 ≤ k → k ≤ 60 → (∀ kk ii, p = (nI ii, nI kk) → kk ≤ 60 → k < kk) → ¬ nwP T L k m) → (p = (-1, 99999) → ∀ k, 1 ≤ k → k ≤ 60 → ¬ nwP T L k m) → FI T L (m + 1) p := by
    intro h1 h2
    rcases q with ⟨q1, q2⟩ | ⟨k, i, a1, a2, a3, a4, a5, a6, a7⟩
    · refine Or.inl ⟨q1, fun k b1 b2 i hi => ?_⟩
      by_cases e : i = m
      · rw [e]; exact h2 q1 k b1 b2
      · exact q2 k b1 b2 i (by omega)
    · refine Or.inr ⟨k, i, a1, a2, by omega, a4, a5, fun k' b1 b2 i' hi' => ?_, a7⟩
      by_cases e : i' = m
      · rw [e]
        refine h1 k' b1 (by omega) (fun kk ii ep hkk => ?_)
        rw [a5] at ep
        have := (Prod.ext_iff.mp ep).2
        have e2 : k = kk := (nI_eq (by omega) (by omega)).mp this
        omega
      · exact a6 k' b1 b2 i' (by omega)
  unfold fsG
  cases ho : opnD T m 61 0 L with
  | none =>
    have hno := hsp.2 ho
    have nw : ∀ k, 1 ≤ k → k ≤ 60 → ¬ nwP T L k m := fun k b1 b2 z => hno k (by omega) (by omega) z.2
    have e1 : ¬ farE none = 0 := by decide
    have e2 : ¬ farE none < p.2 := by
      rcases q with ⟨q1, _⟩ | ⟨k, i, a1, a2, _, _, a5, _⟩
      · rw [q1]; decide
      · rw [a5]; exact nI_nlt (a := 99999) (by omega) (by omega)
    rw [if_neg e1, if_neg e2]
    exact keep (fun k b1 b2 _ => nw k b1 b2) (fun _ => nw)
  | some t =>
    obtain ⟨_, t1, t2, t3⟩ := hsp.1 t ho
    by_cases e0 : t = 0
    · subst e0
      rw [if_pos (show farE (some 0) = 0 from rfl)]
      have nw : ∀ k, 1 ≤ k → k ≤ 60 → ¬ nwP T L k m := fun k _ _ z => z.1 t2
      exact keep (fun k b1 b2 _ => nw k b1 b2) (fun _ => nw)
    · have e1 : ¬ farE (some t) = 0 := nI_ne0 (by omega) (by omega)
      rw [if_neg e1]
      have now : ¬ lSm L m = 0 := t3 0 (by omega) (by omega)
      have nw : ∀ k, 1 ≤ k → k < t → ¬ nwP T L k m := fun k b1 b2 z => t3 k (by omega) b2 z.2
      by_cases e2 : farE (some t) < p.2
      · rw [if_pos e2]
        refine Or.inr ⟨t, m, by omega, by omega, by omega, ⟨now, t2⟩, rfl, fun k' b1 b2 i' hi' => ?_, fun i' hi' z => ?_⟩
        · by_cases e : i' = m
          · rw [e]; exact nw k' b1 b2
          · rcases q with ⟨q1, q2⟩ | ⟨k, i, a1, a2, a3, a4, a5, a6, a7⟩
            · exact q2 k' b1 (by omega) i' (by omega)
            · rw [a5] at e2
              have : t < k := lt_nI (by omega) (by omega) e2
              exact a6 k' b1 (by omega) i' (by omega)
        · rcases q with ⟨q1, q2⟩ | ⟨k, i, a1, a2, a3, a4, a5, a6, a7⟩
          · exact q2 t (by omega) (by omega) i' hi' z
          · rw [a5] at e2
            have : t < k := lt_nI (by omega) (by omega) e2
            exact a6 t (by omega) (by omega) i' hi' z
      · rw [if_neg e2]
        refine keep (fun k b1 b2 hkk => ?_) (fun ep => ?_)
        · rcases q with ⟨q1, q2⟩ | ⟨kk, i, a1, a2, a3, a4, a5, a6, a7⟩
          · rw [q1] at e2
            exact absurd (nI_lt (a := t) (b := 99999) (by omega) (by omega)) e2
          · have h3 := hkk kk i a5 a2
            rw [a5] at e2
            have : kk ≤ t := nlt_nI (x := t) (y := kk) (by omega) (by omega) e2
            exact nw k b1 (by omega)
        · rw [ep] at e2
          exact absurd (nI_lt (a := t) (b := 99999) (by omega) (by omega)) e2
theorem FI.fold {T : ToldV} {L : LandV} : ∀ (j i : Nat) {p : Int32 × Int32}, FI T L i p → FI T L (i + j) (foldN (fsG T L) j i p) := by
  intro j
  induction j with
  | zero => intro i p q; exact q
  | succ j ih =>
    intro i p q
    have := ih (i + 1) q.step
    rw [show i + 1 + j = i + (j + 1) by omega] at this
    exact this
theorem ref_FS (T : ToldV) (L : LandV) : FS T L (foldN (fsG T L) (tN_ T) 0 (-1, 99999)).1 := by
  have := FI.fold (T := T) (L := L) (tN_ T) 0 (p := (-1, 99999)) (Or.inl ⟨rfl, fun _ _ _ i hi => absurd hi (Nat.not_lt_zero i)⟩)
  rw [Nat.zero_add] at this
  rcases this with ⟨q1, q2⟩ | ⟨k, i, a1, a2, a3, a4, a5, a6, a7⟩
  · exact Or.inl ⟨by rw [q1], q2⟩
  · exact Or.inr ⟨k, i, a1, a2, a3, a4, by rw [a5], a6, a7⟩
section RF
variable {g : GG} {h h2 : Hp} {B b d D k kc ks mc ms : Nat} {T : ToldV} {X Y : LandV} {R0 R R' : RefV} {s s' : CoreV} {a : Int32}
theorem r_first (hg : GOK g) (hd : 20 ≤ d) (hR : RA h B R) (hI : IV s) (hS : RS s R) : CT g d yX12_first (wsC yX12_first cX12_first 5 (some .int)) [.ref B] h 0 0 (PrM h B cd2 s (m_first s)) noT := by
  have o2 := hI.o2
  refine CT_ofB (by decide +kernel) (Nat.le_of_ble_eq_true rfl) rfl fun K XX => ?_
  have r1 := hR.put (sI R 0 0)
  have s1 := hS.s0 hI
  have z1 : ri (sI R 0 0) 0 = 0 := ri_sI
  refine b_X12_first_0 hg (by omega) k00 XX _ _ ⟨_, hR.w0 0, ?_⟩
  generalize sI R 0 0 = R1 at *
  have em : m_first s = .inl ((foldN (fsG (sT s) (sL s)) (sN s) 0 (-1, 99999)).1, s) := by
    rw [m_first]
    exact congrArg Sum.inl (Prod.ext (FS.eq (cls_FS (T := sT s) (L := sL s) o2 60 0 (by omega) (fun k' h1 h2 => by omega)) (ref_FS (sT s) (sL s))) rfl)
  rw [em]
  have lp : ∀ (j i : Nat) (R2 : RefV) (p : Int32 × Int32), i + j = sN s → QF R1 R2 → ri R2 0 = 0 → foldN (fsG (sT s) (sL s)) j i p = foldN (fsG (sT s) (sL s)) (sN s) 0 (-1, 99999) → VB g K 5 d 0 0 (PrM h B cd2 s (.inl ((foldN (fsG (sT s) (sL s)) (sN s) 0 (-1, 99999)).1, s))) noT 0 0 13 [some (.ref B), some (.int p.1), some (.int p.2), some (.int (nI i)), none] [] (pR h B R2) := by
    intro j
    induction j with
    | zero =>
      intro i R2 p hi q2 z2 he
      have r2 := hR.put R2
      have s2 := s1.qf hI q2
      have he' : p = foldN (fsG (sT s) (sL s)) (sN s) 0 (-1, 99999) := he
      exact b_X12_first_13 hg (by omega) k00 XX _ _ _ _ _ ⟨_, by rw [r2.i1, s2.n], fun _ => prM hI s1 q2 z2 (by rw [← he']) rfl, fun q => absurd (nle_nI (by omega) (by omega) q) (by omega)⟩
    | succ j ih =>
      intro i R2 p hi q2 z2 he
      have r2 := hR.put R2
      have s2 := s1.qf hI q2
      refine b_X12_first_13 hg (by omega) k00 XX _ _ _ _ _ ⟨_, by rw [r2.i1, s2.n], fun q => absurd (le_nI (by omega) (by omega) q) (by omega), fun _ => ⟨_, r2.o, use_iR (c_opensIn (d := d - 1) hg (by omega) r2 hI s2 (k := i) (by omega)) (by omega) k00 ?_⟩⟩
      rintro R3 ⟨q3, i3⟩
      rw [hR.pp]
      have nxt : ∀ p3, p3 = fsG (sT s) (sL s) i p → VB g K 5 d 0 0 (PrM h B cd2 s (.inl ((foldN (fsG (sT s) (sL s)) (sN s) 0 (-1, 99999)).1, s))) noT 0 0 47 [some (.ref B), some (.int p3.1), some (.int p3.2), some (.int (nI i)), none] [] (pR h B R3) := by
        intro p3 e3
        refine b_X12_first_47 hg (by omega) k00 XX _ _ _ _ _ ?_
        rw [nI_s]
        exact ih (i + 1) R3 p3 (by omega) (q2.trans q3) (by rw [i3, z2]) (by rw [e3]; exact he)
      refine ⟨fun y => nxt p (by rw [fsG, if_pos y]), fun y => ⟨fun z => nxt (nI i, farE (opnD (sT s) i 61 0 (sL s))) (by rw [fsG, if_neg y, if_pos z]), fun z => nxt p (by rw [fsG, if_neg y, if_neg z])⟩⟩
  exact lp (sN s) 0 R1 (-1, 99999) (by omega) (QF.refl _) z1 rfl
theorem r_steady (hg : GOK g) (hd : 20 ≤ d) (hR : RA h B R) (hI : IV s) (hS : RS s R) : CT g d yX12_steady (wsC yX12_steady cX12_steady 4 (some .int)) [.ref B] h 0 0 (PrM h B cd2 s (m_steady s)) noT := by
  have o1 := hI.o1
  have o2 := hI.o2
  refine CT_ofB (by decide +kernel) (Nat.le_of_ble_eq_true rfl) rfl fun K XX => ?_
  have r1 := hR.put (sI R 0 0)
  have s1 := hS.s0 hI
  have z1 : ri (sI R 0 0) 0 = 0 := ri_sI
  refine b_X12_steady_0 hg (by omega) k00 XX _ _ ⟨_, hR.w0 0, ?_⟩
  generalize sI R 0 0 = R1 at *
  refine ⟨_, r1.o, q_try hg r1 hI s1 (by omega) k00 ?_⟩
  rintro R2 ⟨q2, t2, i2, _⟩
  rw [hR.pp]
  have lp : ∀ (j i : Nat) (R2 : RefV) (Y : LandV), i + j = 61 → 1 ≤ i → QF R1 R2 → ri R2 0 = 0 → TM (sT s) Y R2 → LOK (sN s) (sW s) Y → stdF (sT s) j i Y = stdF (sT s) 60 1 (sL s) → VB g K 4 d 0 0 (PrM h B cd2 s (m_steady s)) noT 0 0 11 [some (.ref B), some (.int (nI i)), none, none] [] (pR h B R2) := by
    intro j
    induction j with
    | zero =>
      intro i R2 Y hi _ q2 z2 t2 l2 he
      exact b_X12_steady_11 hg (by omega) k00 XX _ _ _ ⟨fun _ => prM hI s1 q2 z2 (by rw [m_steady, ← he]; rfl) rfl, fun q => absurd (nlt_nI (x := 60) (by omega) (by omega) q) (by omega)⟩
    | succ j ih =>
      intro i R2 Y hi h1 q2 z2 t2 l2 he
      refine b_X12_steady_11 hg (by omega) k00 XX _ _ _ ⟨fun q => absurd (lt_nI (x := 60) (by omega) (by omega) q) (by omega), fun _ => ?_⟩
      have cp : ∀ (j2 i3 : Nat) (f : AF), i3 + j2 = 24 → (∀ k, k < i3 → f k = ra R2 14 (50 + k)) → VB g K 4 d 0 0 (PrM h B cd2 s (m_steady s)) noT 0 0 19 [some (.ref B), some (.int (nI i)), some (.int (nI i3)), none] [] (pR h B (sA R2 27 f)) := by
        intro j2
        induction j2 with
        | zero =>
          intro i3 f hi3 hf
          have r3 := hR.put (sA R2 27 f)
          have t3 : TM (sT s) Y (sA R2 27 f) := t2.a (by decide) (by decide) (by decide)
          refine b_X12_steady_19 hg (by omega) k00 XX _ _ _ _ ⟨fun _ => ⟨_, r3.o, q_day hg r3 t3 l2 hI.td (by omega) k00 ?_⟩, fun q => absurd (nle_nI (x := 24) (by omega) (by omega) q) (by omega)⟩
          intro R4 x4
          rw [hR.pp]
          have r4 := hR.put R4
          have q4 : QF R1 R4 := (q2.a (by decide) (by decide)).trans x4.qf
          have z4 : ri R4 0 = 0 := by rw [x4.df.1]; exact z2
          have f4 : ∀ k, k < 24 → ra R4 27 k = ra R2 14 (50 + k) := fun k hk => by
            rw [x4.df.2.2 27 (by decide) (by decide) (by decide) (by decide), ra_sA]; exact hf k (by omega)
          have t4 := x4.tm
          -- alike, all 24 of them
          have al : (∀ k, k < 24 → ra R4 27 k = ra R4 14 (50 + k)) ↔ likeF (lStr (dayT (sT s) Y)) (lStr Y) (lSm (dayT (sT s) Y)) (lSm Y) (sN s) = true := by
            constructor
            · intro q
              refine likeF_yes fun k hk => ⟨?_, ?_⟩
              · have := q k (by omega)
                rw [f4 k (by omega), t2.st hk, t4.st hk] at this
                exact this.symm
              · have := q (12 + k) (by omega)
                rw [f4 (12 + k) (by omega), show 50 + (12 + k) = 62 + k by omega, t2.sm hk, t4.sm hk] at this
                exact this.symm
            · intro q k hk
              have ql : ∀ i, i < sN s → lStr (dayT (sT s) Y) i = lStr Y i ∧ lSm (dayT (sT s) Y) i = lSm Y i := by
                intro i hi
                have := List.all_eq_true.mp q i (List.mem_range.mpr hi)
                simpa using this
              rw [f4 k hk]
              have o2' : tN_ (sT s) ≤ 12 := o2
              by_cases e1 : k < sN s
              · rw [t2.st e1, t4.st e1, (ql k e1).1]
              · by_cases e2 : 12 ≤ k ∧ k - 12 < sN s
                · have ek : 50 + k = 62 + (k - 12) := by omega
                  rw [ek, t2.sm e2.2, t4.sm e2.2, (ql (k - 12) e2.2).2]
                · have hni : ¬ InR (tN_ (sT s)) (tW (sT s)) 49 (50 + k) := by
                    have e1' : ¬ k < tN_ (sT s) := e1
                    have e2' : ¬ (12 ≤ k ∧ k - 12 < tN_ (sT s)) := e2
                    unfold InR
                    omega
                  have := x4.rw_.2 (50 + k) hni
                  rw [ra_sAn (by decide)] at this
                  exact this.symm
          have ck : ∀ (j3 i5 : Nat) (c : Bool), i5 + j3 = 24 → (c = true ↔ ∀ k, k < i5 → ra R4 27 k = ra R4 14 (50 + k)) → VB g K 4 d 0 0 (PrM h B cd2 s (m_steady s)) noT 0 0 56 [some (.ref B), some (.int (nI i)), some (.int (if c then 1 else 0)), some (.int (nI i5))] [] (pR h B R4) := by
            intro j3
            induction j3 with
            | zero =>
              intro i5 c hi5 hc
              have hc' : c = true ↔ likeF (lStr (dayT (sT s) Y)) (lStr Y) (lSm (dayT (sT s) Y)) (lSm Y) (sN s) = true := by
                rw [hc, ← al, show i5 = 24 by omega]
              refine b_X12_steady_56 hg (by omega) k00 XX _ _ _ _ _ ⟨fun _ => ⟨fun y => ?_, fun y => prM hI s1 q4 z4 ?_ rfl⟩, fun q => absurd (nle_nI (x := 24) (by omega) (by omega) q) (by omega)⟩
              · rw [nI_s]
                refine ih (i + 1) R4 _ (by omega) (by omega) q4 z4 t4 (l2.day o2 (by show 0 < sN s; omega) hI.sk) ?_
                have nc := gp_n rfl y
                rw [← he, stdF, if_neg (fun z => nc (hc'.mpr z))]
              · have nc := gp_y rfl y
                rw [m_steady, ← he, stdF, if_pos (hc'.mp nc)]
            | succ j3 ih3 =>
              intro i5 c hi5 hc
              have nxt : ∀ c2 : Bool, (c2 = true ↔ ∀ k, k < i5 + 1 → ra R4 27 k = ra R4 14 (50 + k)) → VB g K 4 d 0 0 (PrM h B cd2 s (m_steady s)) noT 0 0 89 [some (.ref B), some (.int (nI i)), none, some (.int (nI i5))] [.int (if c2 then 1 else 0)] (pR h B R4) := by
                intro c2 hc2
                refine b_X12_steady_89 hg (by omega) k00 XX _ _ _ _ _ ?_
                rw [nI_s]
                exact ih3 (i5 + 1) c2 (by omega) hc2
              refine b_X12_steady_56 hg (by omega) k00 XX _ _ _ _ _ ⟨fun q => absurd (le_nI (x := 24) (by omega) (by omega) q) (by omega), fun _ => ⟨fun y => ?_, fun y => ⟨_, r4.n56, _, r4.r27 (by omega), _, r4.n40, ?_⟩⟩⟩
              · have nc := gp_n rfl y
                refine b_X12_steady_88 hg (by omega) k00 XX _ _ _ _ (nxt false ⟨fun z => absurd z (by decide), fun z => absurd (hc.mpr (fun k hk => z k (by omega))) nc⟩)
              · have nc := gp_y rfl y
                rw [show (50 : Int32) + nI i5 = nI (50 + i5) from nI_add 50 i5]
                refine ⟨_, r4.r14 (by omega), fun z => b_X12_steady_88 hg (by omega) k00 XX _ _ _ _ (nxt false ⟨fun e => absurd e (by decide), fun q => absurd (q i5 (by omega)) z⟩), fun z => nxt true ⟨fun _ k hk => ?_, fun _ => rfl⟩⟩
                by_cases e : k = i5
                · rw [e]; exact z
                · exact hc.mp nc k (by omega)
          exact ck 24 0 true (by omega) ⟨fun _ k hk => by omega, fun _ => rfl⟩
        | succ j2 ih2 =>
          intro i3 f hi3 hf
          have r3 := hR.put (sA R2 27 f)
          refine b_X12_steady_19 hg (by omega) k00 XX _ _ _ _ ⟨fun q => absurd (le_nI (x := 24) (by omega) (by omega) q) (by omega), fun _ => ⟨_, r3.n56, _, r3.n40, ?_⟩⟩
          rw [show (50 : Int32) + nI i3 = nI (50 + i3) from nI_add 50 i3]
          refine ⟨_, r3.r14 (by omega), _, r3.u27 (by omega), ?_⟩
          rw [hR.pp, nI_s, sA_sA, ra_sA]
          refine ih2 (i3 + 1) _ (by omega) (fun k hk => ?_)
          by_cases e : k = i3
          · subst e; rw [pk_us]; rfl
          · rw [pk_un e]; exact hf k (by omega)
      have := cp 24 0 (ra R2 27) (by omega) (fun k hk => by omega)
      rw [sA_id] at this
      exact this
  exact lp 60 1 R2 (sL s) (by omega) (by omega) q2 (by rw [i2, z1]) t2 hI.lok rfl
theorem lAt_wearL {n k w : Nat} {L : LandV} {x : Int32} : lAt (wearL n L k x) w = lAt L w := by
  have key : ∀ (L : LandV) (i : Nat) (y : Int32), lAt (sifC L i y) = lAt L := by
    intro L i y; unfold sifC; split <;> rfl
  unfold wearL
  dsimp only
  split
  · show lAt (sifC (sifC (sSm L k _) _ _) _ _) w = _
    rw [key, key]; rfl
  · rfl
theorem lAt_wears {n w : Nat} {fr : LandV → Nat → Int32} : ∀ (j i : Nat) (L : LandV), lAt (wearP n fr j i L) w = lAt L w := by
  intro j
  induction j with
  | zero => intro i L; rfl
  | succ j ih =>
    intro i L
    rw [wearP, ih]
    split
    · rfl
    · exact lAt_wearL
theorem lAt_mends {n w : Nat} {sk : AF} : ∀ (j i : Nat) (L : LandV), lAt (mendFrom n sk j i L) w = if i ≤ w ∧ w < i + j then nI (aftN n (cl (lAt L w))) else lAt L w := by
  intro j
  induction j with
  | zero => intro i L; rw [if_neg (by omega)]; rfl
  | succ j ih =>
    intro i L
    rw [mendFrom, ih]
    have em : ∀ v, lAt (mendL sk L i) v = lAt L v := fun v => by unfold mendL; split <;> rfl
    by_cases e : w = i
    · subst e
      rw [if_neg (by omega), if_pos (by omega)]
      show upd (lAt (mendL sk L w)) w _ w = _
      rw [pk_us]
      show nI (aftN n (cl (lAt (mendL sk L w) w))) = _
      rw [em]
    · have eg : lAt (goL n (mendL sk L i) i) w = lAt L w := by
        show upd (lAt (mendL sk L i)) i _ w = _
        rw [pk_un e, em]
      rw [eg]
      by_cases e2 : i + 1 ≤ w ∧ w < i + 1 + j
      · rw [if_pos e2, if_pos (by omega)]
      · rw [if_neg e2, if_neg (by omega)]
theorem aftN_inj {n a b : Nat} (ha : a < n) (hb : b < n) (e : aftN n a = aftN n b) : a = b := by
  unfold aftN at e
  split at e <;> split at e <;> omega
theorem lAt_day {T : ToldV} {L : LandV} {u v : Nat} (hn : tN_ T ≤ 12) (hu : u < tW T) (hv : v < tW T) (hA : AtOK (tN_ T) (tW T) L) (ne : ¬ lAt L u = lAt L v) : ¬ lAt (dayT T L) u = lAt (dayT T L) v := by
  obtain ⟨a, a1, a2⟩ := hA u hu
  obtain ⟨b, b1, b2⟩ := hA v hv
  have nab : a ≠ b := fun e => ne (by rw [a2, b2, e])
  have h3 : ∀ w, lAt (wearP (tN_ T) (fraE T (tF0 T) (tF1 T)) (tN_ T) 0 (setStr (setPu L (puTo (pullP (pulE T (tP0 T) (tP1 T)) L) (lPu L) (tN_ T))) (cpyF (puTo (pullP (pulE T (tP0 T) (tP1 T)) L) (lPu L) (tN_ T)) (lStr L) 0 0 (tN_ T) 12))) w = lAt L w := fun w => lAt_wears _ _ _
  unfold dayT dayL dayP dayEnd
  split
  · show ¬ lAt (mendFrom _ _ _ _ _) u = lAt (mendFrom _ _ _ _ _) v
    rw [lAt_mends, lAt_mends, if_pos (by omega), if_pos (by omega), h3, h3, a2, b2, show cl (nI a) = a from nI_clamp (by omega), show cl (nI b) = b from nI_clamp (by omega)]
    intro e
    have ha := aftN_lt (n := tN_ T) (k := a) (by omega)
    have hb := aftN_lt (n := tN_ T) (k := b) (by omega)
    exact nab (aftN_inj a1 b1 ((nI_eq (by omega) (by omega)).mp e))
  · show ¬ lAt (wearP _ _ _ _ _) u = lAt (wearP _ _ _ _ _) v
    rw [h3, h3]; exact ne
theorem r_meet (hg : GOK g) (hd : 20 ≤ d) (hR : RA h B R) (hI : IV s) (hS : RS s R) (u v : Int32) : CT g d yX12_meet (wsC yX12_meet cX12_meet 4 (some .int)) [.ref B, .int u, .int v] h 0 0 (PrM h B cd2 s (m_meet s u v)) noT := by
  have o1 := hI.o1
  have o2 := hI.o2
  have o3 := hI.o3
  refine CT_ofB (by decide +kernel) (Nat.le_of_ble_eq_true rfl) rfl fun K XX => ?_
  have r1 := hR.put (sI R 0 0)
  have s1 := hS.s0 hI
  have z1 : ri (sI R 0 0) 0 = 0 := ri_sI
  refine b_X12_meet_0 hg (by omega) k00 XX _ _ _ _ ⟨_, hR.w0 0, ?_⟩
  generalize sI R 0 0 = R1 at *
  refine ⟨_, r1.o, use_ck (d_isWoman (d := d - 1) hg (by omega) r1 z1 s1.w u) (by omega) k00 (fun c => ⟨fun e => absurd e (by decide), fun _ => ?_⟩) (fun c => ⟨fun _ => ptM (b := true) hI s1 ((QF.refl R1).i rfl) ri_sI (by rw [m_meet, c]; rfl) (hR.pp _ _), fun e => absurd rfl e⟩)⟩
  refine ⟨_, r1.o, use_ck (d_isWoman (d := d - 1) hg (by omega) r1 z1 s1.w v) (by omega) k00 (fun c2 => ⟨fun _ => ?_, fun e => absurd e (by decide)⟩) (fun c2 => ⟨fun e => absurd rfl e, fun _ => ptM (b := true) hI s1 ((QF.refl R1).i rfl) ri_sI (by rw [m_meet, c, c2]; rfl) (hR.pp _ _)⟩)⟩
  obtain ⟨eu, hu⟩ := inB_k (by omega) c
  obtain ⟨ev, hv⟩ := inB_k (by omega) c2
  have em : m_meet s u v = .inl (if u = v then -1 else if lAt (sL s) (cl u) = lAt (sL s) (cl v) then 0 else -1, s) := by rw [m_meet, if_pos c, if_pos c2]
  rw [em]
  generalize cl u = i at *
  generalize cl v = j at *
  rw [eu, ev]
  refine ⟨_, r1.o, q_try hg r1 hI s1 (by omega) k00 ?_⟩
  rintro R2 ⟨q2, t2, i2, _⟩
  rw [hR.pp]
  have r2 := hR.put R2
  have z2 : ri R2 0 = 0 := by rw [i2, z1]
  by_cases e : nI i = nI j
  · rw [if_pos e]
    exact b_X12_meet_29 hg (by omega) k00 XX _ _ _ _ _ ⟨fun q => absurd (lt_nI (x := 60) (y := 0) (by omega) (by omega) q) (by omega), fun _ => ⟨fun _ => prM hI s1 q2 z2 rfl rfl, fun q => absurd e q⟩⟩
  · rw [if_neg e]
    by_cases e2 : lAt (sL s) i = lAt (sL s) j
    · rw [if_pos e2]
      refine b_X12_meet_29 hg (by omega) k00 XX _ _ _ _ _ ⟨fun q => absurd (lt_nI (x := 60) (y := 0) (by omega) (by omega) q) (by omega), fun _ => ⟨fun q => absurd q e, fun _ => ⟨_, r2.n40, ?_⟩⟩⟩
      rw [show (86 : Int32) + nI i = nI (86 + i) from nI_add 86 i, show (86 : Int32) + nI j = nI (86 + j) from nI_add 86 j]
      refine ⟨_, r2.r14 (by omega), _, r2.n40, _, r2.r14 (by omega), ?_⟩
      rw [t2.at_ hu, t2.at_ hv]
      exact ⟨fun q => absurd e2 q, fun _ => prM hI s1 q2 z2 rfl rfl⟩
    · rw [if_neg e2]
      have lp : ∀ (jj k : Nat) (R3 : RefV) (Y : LandV), k + jj = 61 → QF R1 R3 → ri R3 0 = 0 → TM (sT s) Y R3 → LOK (sN s) (sW s) Y → ¬ lAt Y i = lAt Y j → VB g K 4 d 0 0 (PrM h B cd2 s (.inl (-1, s))) noT 0 0 29 [some (.ref B), some (.int (nI i)), some (.int (nI j)), some (.int (nI k))] [] (pR h B R3) := by
        intro jj
        induction jj with
        | zero =>
          intro k R3 Y hk q3 z3 t3 l3 ne
          exact b_X12_meet_29 hg (by omega) k00 XX _ _ _ _ _ ⟨fun _ => prM hI s1 q3 z3 rfl rfl, fun q => absurd (nlt_nI (x := 60) (by omega) (by omega) q) (by omega)⟩
        | succ jj ih =>
          intro k R3 Y hk q3 z3 t3 l3 ne
          have r3 := hR.put R3
          refine b_X12_meet_29 hg (by omega) k00 XX _ _ _ _ _ ⟨fun q => absurd (lt_nI (x := 60) (by omega) (by omega) q) (by omega), fun _ => ⟨fun q => absurd q e, fun _ => ⟨_, r3.n40, ?_⟩⟩⟩
          rw [show (86 : Int32) + nI i = nI (86 + i) from nI_add 86 i, show (86 : Int32) + nI j = nI (86 + j) from nI_add 86 j]
          refine ⟨_, r3.r14 (by omega), _, r3.n40, _, r3.r14 (by omega), ?_⟩
          rw [t3.at_ hu, t3.at_ hv]
          refine ⟨fun _ => ⟨_, r3.o, q_day hg r3 t3 l3 hI.td (by omega) k00 ?_⟩, fun q => absurd q ne⟩
          intro R4 x4
          rw [hR.pp, nI_s]
          exact ih (k + 1) R4 _ (by omega) (q3.trans x4.qf) (by rw [x4.df.1, z3]) x4.tm (l3.day o2 (by show 0 < sN s; omega) hI.sk) (lAt_day o2 hu hv l3.aok ne)
      exact lp 61 0 R2 (sL s) (by omega) q2 z2 t2 hI.lok e2
end RF
