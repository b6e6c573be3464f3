/-! THE REFERENCE: known words -/
def spE1 (w : Int64) (c : Int32) : Int64 := if c = 0 then w else ((w <<< (Int32.toInt64 (5 : Int32) &&& 63)) ||| Int32.toInt64 (c - 96))
def spE (a b c d e f g : Int32) : Int64 := spE1 (spE1 (spE1 (spE1 (spE1 ((((Int32.toInt64 a) - (96 : Int64)) <<< (Int32.toInt64 (5 : Int32) &&& 63)) ||| (Int32.toInt64 (b - 96))) c) d) e) f) g
def ltL : List Int64 := [spE 115 116 114 97 105 110 0, spE 115 101 97 109 0 0 0, spE 115 116 105 116 99 104 0, spE 98 101 115 105 100 101 0, spE 119 111 109 101 110 0 0, spE 100 97 121 0 0 0 0, spE 115 116 114 101 116 99 104, spE 119 111 109 97 110 0 0, spE 107 110 111 116 115 0 0, spE 119 101 101 107 0 0 0, spE 102 114 97 121 115 0 0, spE 112 117 108 108 115 0 0, spE 97 110 100 0 0 0 0, spE 111 114 0 0 0 0 0, spE 110 111 116 0 0 0 0]
def ltC (k : Nat) : Int64 := ltL.getD k 0
theorem ltC_pk : ∀ k, k < 15 → xN (ltC k) = pkK (rkW k) := by decide +kernel
def kwL (f : AF) (len st : Nat) : Nat → Nat → Nat
  | 0, _ => 15
  | i + 1, k => if wdP f len st (rkW k) then k else kwL f len st i (k + 1)
/-- which known word stands there, by the reference's numbers; 15: none -/
def kwP (f : AF) (len st : Nat) : Nat := kwL f len st 15 0
def kwI (k : Nat) : Int32 := if k < 15 then nI k else -1
theorem rkW_lt : ∀ k, k < 15 → rkW k < 15 := by decide
theorem rkW_inj : ∀ k, k < 15 → ∀ j, j < 15 → rkW k = rkW j → k = j := by decide
theorem kwL_iff {f : AF} {len st k : Nat} (hk : k < 15) : ∀ (i a : Nat), a + i = 15 → a ≤ k → (kwL f len st i a = k ↔ wdP f len st (rkW k) = true) := by
  intro i
  induction i with
  | zero => intro a h1 h2; omega
  | succ i ih =>
    intro a h1 h2
    unfold kwL
    by_cases y : wdP f len st (rkW a) = true
    · rw [if_pos y]
      constructor
      · rintro rfl; exact y
      · intro z
        have y2 := y
        have z2 := z
        unfold wdP at y2 z2
        rw [Bool.and_eq_true] at y2 z2
        have := spB_one (by have := rkW_lt a (by omega); omega) (by have := rkW_lt k hk; omega) y2.2 z2.2
        exact rkW_inj a (by omega) k hk this
    · rw [if_neg y]
      by_cases e : a = k
      · subst e
        constructor
        · intro z
          have : a + 1 ≤ kwL f len st i (a + 1) := by
            have gen : ∀ (i b : Nat), b + i = 15 → b ≤ kwL f len st i b := by
              intro i
              induction i with
              | zero => intro b hb; show b ≤ 15; omega
              | succ i ih2 =>
                intro b hb
                unfold kwL
                split
                · exact Nat.le_refl _
                · have := ih2 (b + 1) (by omega); omega
            exact gen i (a + 1) (by omega)
          omega
        · intro z; exact absurd z y
      · exact ih (a + 1) (by omega) (by omega)
theorem kw_iff {f : AF} {len st k : Nat} (hk : k < 15) : kwP f len st = k ↔ wdP f len st (rkW k) = true := kwL_iff hk 15 0 rfl (by omega)
theorem kwL_le {f : AF} {len st : Nat} : ∀ (i a : Nat), a + i = 15 → kwL f len st i a ≤ 15 := by
  intro i
  induction i with
  | zero => intro a _; exact Nat.le_refl _
  | succ i ih =>
    intro a h
    unfold kwL
    split
    · omega
    · exact ih (a + 1) (by omega)
theorem kw_le {f : AF} {len st : Nat} : kwP f len st ≤ 15 := kwL_le 15 0 rfl
theorem kw_none {f : AF} {len st : Nat} (h : ∀ k, k < 15 → wdP f len st (rkW k) = false) : kwP f len st = 15 := by
  have h1 := kw_le (f := f) (len := len) (st := st)
  by_cases y : kwP f len st < 15
  · have := (kw_iff (f := f) (len := len) (st := st) y).mp rfl
    rw [h _ y] at this
    cases this
  · omega
/-- the token, in the reference's fields -/
def TkR (f : AF) (len st : Nat) (R : RefV) : Prop := st ≤ len ∧ ri R 17 = nI (nxF f len st) ∧ ri R 18 = (if kdE f len st = 5 then 4 else kdE f len st) ∧ ri R 19 = nI st ∧ ri R 20 = nI (nxF f len st - st) ∧ (kdE f len st = 2 → ri R 21 = wvF f (min (nxF f len st - st) 4) st 0) ∧ ri R 22 = btA f len st ∧ (kdE f len st = 1 → R.2.1 = wdF f (min (nxF f len st - st) 7) st 0)
theorem TkQ.r {f : AF} {len st : Nat} {R R' : RefV} (h : st ≤ len) (q : TkQ f len st R R') : GF R R' ∧ TkR f len st R' := ⟨q.1, h, q.2⟩
theorem srt {f : AF} {len st : Nat} {v : Int32} (hv : v = 0 ∨ v = 1 ∨ v = 2 ∨ v = 3) : (if kdE f len st = 5 then 4 else kdE f len st) = v ↔ kdE f len st = v := by
  by_cases y : kdE f len st = 5
  · rw [if_pos y, y]
    rcases hv with rfl | rfl | rfl | rfl <;> decide
  · rw [if_neg y]
theorem rnB_all {f : AF} {len : Nat} {kd : Int32} : ∀ (j k : Nat), ∀ i, k ≤ i → i < rnB f len kd j k → kdE f len i = kd := by
  intro j
  induction j with
  | zero => intro k i h1 h2; unfold rnB at h2; omega
  | succ j ih =>
    intro k i h1 h2
    unfold rnB at h2
    split at h2
    · rename_i e
      by_cases y : i = k
      · rw [y]; exact e
      · exact ih (k + 1) i (by omega) h2
    · omega
/-- a word's bytes are letters -/
theorem wd_let {f : AF} {len st : Nat} (h : kdE f len st = 1) : ∀ i, st ≤ i → i < nxF f len st → LtC (f i) := by
  intro i h1 h2
  have hl := kdE_lt (f := f) (len := len) (st := st) (by rw [h]; decide)
  apply kd_let (len := len)
  by_cases y : i = st
  · rw [y]; exact h
  · unfold nxF at h2
    rw [if_pos (Or.inl h), h] at h2
    exact rnB_all _ _ i (by omega) h2
theorem lgc_self (x : Int64) : lg_cmp x x = 0 := by
  unfold lg_cmp
  rw [if_neg (fun e => Int64.lt_irrefl e), if_pos rfl]
theorem lgc_eq {x y : Int64} (h : lg_cmp x y = 0) : x = y := by
  unfold lg_cmp at h
  split at h
  · exact absurd h (by decide)
  · split at h
    · rename_i e; exact e
    · exact absurd h (by decide)
section RKW
variable {g : GG} {h : Hp} {B d k len st : Nat} {R : RefV} {f : AF}
theorem use_lN {y : MethodName} {ws : List Cond} {al : List Value} {D kc ks mc ms : Nat} {r : Int64} {Pt : String → Hp → Prop} {Z : Nat → Nat → Int64 → Hp → Prop} (hc : CT g d y ws al h 0 0 (fun v h2 => v = some (.long r) ∧ h2 = h) noT) (hd : d + 1 ≤ D) (hk : kc ≤ mc ∧ ks ≤ ms) (hz : Z 0 0 r h) :
    ∃ d1 P1 E1 m1 n1, CT g d1 y ws al h m1 n1 P1 E1 ∧ (d1 + 1 ≤ D ∧ kc + m1 ≤ mc ∧ ks + n1 ≤ ms) ∧ (∀ E h', E1 E h' → Pt E h') ∧ (∀ v h1, P1 v h1 → ∃ x, v = some (.long x) ∧ Z m1 n1 x h1) :=
  ⟨d, _, _, 0, 0, hc, ⟨hd, hk.1, hk.2⟩, fun _ _ q => q.elim, fun v h1 q => ⟨r, q.1, by rw [q.2]; exact hz⟩⟩
theorem d_spelled (hg : GOK g) (hd : 8 ≤ d) (a b c e i j l : Int32) : CT g d yX12_spelled (wsC yX12_spelled cX12_spelled 9 (some .long)) [.int a, .int b, .int c, .int e, .int i, .int j, .int l] h 0 0 (fun v h2 => v = some (.long (spE a b c e i j l)) ∧ h2 = h) noT := by
  refine CT_ofB (by decide +kernel) (Nat.le_of_ble_eq_true rfl) rfl fun K X => ?_
  have s5 : ∀ w, spE1 w l = spE a b c e i j l → VB g K 9 d 0 0 (fun v h2 => v = some (.long (spE a b c e i j l)) ∧ h2 = h) noT 0 0 84 [none, none, none, none, none, none, some (.int l), some (.long w), none] [] h := by
    intro w hw
    refine b_X12_spelled_84 hg hd k00 X _ _ _ ⟨fun y => ⟨?_, rfl⟩, fun y => ⟨?_, rfl⟩⟩
    · rw [← hw, spE1, if_pos y]
    · rw [← hw, spE1, if_neg y]
  have s4 : ∀ w, spE1 (spE1 w j) l = spE a b c e i j l → VB g K 9 d 0 0 (fun v h2 => v = some (.long (spE a b c e i j l)) ∧ h2 = h) noT 0 0 66 [none, none, none, none, none, some (.int j), some (.int l), some (.long w), none] [] h := by
    intro w hw
    refine b_X12_spelled_66 hg hd k00 X _ _ _ _ ⟨fun y => s5 _ ?_, fun y => s5 _ ?_⟩
    · rw [← hw, spE1.eq_def w j, if_pos y]
    · rw [← hw, spE1.eq_def w j, if_neg y]
  have s3 : ∀ w, spE1 (spE1 (spE1 w i) j) l = spE a b c e i j l → VB g K 9 d 0 0 (fun v h2 => v = some (.long (spE a b c e i j l)) ∧ h2 = h) noT 0 0 48 [none, none, none, none, some (.int i), some (.int j), some (.int l), some (.long w), none] [] h := by
    intro w hw
    refine b_X12_spelled_48 hg hd k00 X _ _ _ _ _ ⟨fun y => s4 _ ?_, fun y => s4 _ ?_⟩
    · rw [← hw, spE1.eq_def w i, if_pos y]
    · rw [← hw, spE1.eq_def w i, if_neg y]
  have s2 : ∀ w, spE1 (spE1 (spE1 (spE1 w e) i) j) l = spE a b c e i j l → VB g K 9 d 0 0 (fun v h2 => v = some (.long (spE a b c e i j l)) ∧ h2 = h) noT 0 0 32 [none, none, none, some (.int e), some (.int i), some (.int j), some (.int l), some (.long w), none] [] h := by
    intro w hw
    refine b_X12_spelled_32 hg hd k00 X _ _ _ _ _ _ ⟨fun y => s3 _ ?_, fun y => s3 _ ?_⟩
    · rw [← hw, spE1.eq_def w e, if_pos y]
    · rw [← hw, spE1.eq_def w e, if_neg y]
  refine b_X12_spelled_0 hg hd k00 X _ _ _ _ _ _ _ _ ⟨fun y => s2 _ ?_, fun y => s2 _ ?_⟩
  · rw [spE, spE1.eq_def _ c, if_pos y]
  · rw [spE, spE1.eq_def _ c, if_neg y]
theorem d_letters (hg : GOK g) (hd : 9 ≤ d) (hk : k < 15) : CT g d yX12_letters (wsC yX12_letters cX12_letters 1 (some .long)) [.int (nI k)] h 0 0 (fun v h2 => v = some (.long (ltC k)) ∧ h2 = h) noT := by
  refine CT_ofB (by decide +kernel) (Nat.le_of_ble_eq_true rfl) rfl fun K X => ?_
  have ek : (nI k).toInt = k := nI_toInt (by omega)
  refine b_X12_letters_0 hg (by omega) k00 X _ _ ?_
  rw [ek]
  refine ⟨fun y => ?_, fun y => ?_, fun y => ?_, fun y => ?_, fun y => ?_, fun y => ?_, fun y => ?_, fun y => ?_, fun y => ?_, fun y => ?_, fun y => ?_, fun y => ?_, fun y => ?_, fun y => ?_, fun y => ?_⟩
  · obtain rfl : k = 14 := by omega
    exact use_lN (d_spelled (d := d - 1) hg (by omega) 110 111 116 0 0 0 0) (by omega) k00 ⟨rfl, rfl⟩
  · obtain rfl : k = 0 := by omega
    exact use_lN (d_spelled (d := d - 1) hg (by omega) 115 116 114 97 105 110 0) (by omega) k00 ⟨rfl, rfl⟩
  · obtain rfl : k = 1 := by omega
    exact use_lN (d_spelled (d := d - 1) hg (by omega) 115 101 97 109 0 0 0) (by omega) k00 ⟨rfl, rfl⟩
  · obtain rfl : k = 2 := by omega
    exact use_lN (d_spelled (d := d - 1) hg (by omega) 115 116 105 116 99 104 0) (by omega) k00 ⟨rfl, rfl⟩
  · obtain rfl : k = 3 := by omega
    exact use_lN (d_spelled (d := d - 1) hg (by omega) 98 101 115 105 100 101 0) (by omega) k00 ⟨rfl, rfl⟩
  · obtain rfl : k = 4 := by omega
    exact use_lN (d_spelled (d := d - 1) hg (by omega) 119 111 109 101 110 0 0) (by omega) k00 ⟨rfl, rfl⟩
  · obtain rfl : k = 5 := by omega
    exact use_lN (d_spelled (d := d - 1) hg (by omega) 100 97 121 0 0 0 0) (by omega) k00 ⟨rfl, rfl⟩
  · obtain rfl : k = 6 := by omega
    exact use_lN (d_spelled (d := d - 1) hg (by omega) 115 116 114 101 116 99 104) (by omega) k00 ⟨rfl, rfl⟩
  · obtain rfl : k = 7 := by omega
    exact use_lN (d_spelled (d := d - 1) hg (by omega) 119 111 109 97 110 0 0) (by omega) k00 ⟨rfl, rfl⟩
  · obtain rfl : k = 8 := by omega
    exact use_lN (d_spelled (d := d - 1) hg (by omega) 107 110 111 116 115 0 0) (by omega) k00 ⟨rfl, rfl⟩
  · obtain rfl : k = 9 := by omega
    exact use_lN (d_spelled (d := d - 1) hg (by omega) 119 101 101 107 0 0 0) (by omega) k00 ⟨rfl, rfl⟩
  · obtain rfl : k = 10 := by omega
    exact use_lN (d_spelled (d := d - 1) hg (by omega) 102 114 97 121 115 0 0) (by omega) k00 ⟨rfl, rfl⟩
  · obtain rfl : k = 11 := by omega
    exact use_lN (d_spelled (d := d - 1) hg (by omega) 112 117 108 108 115 0 0) (by omega) k00 ⟨rfl, rfl⟩
  · obtain rfl : k = 12 := by omega
    exact use_lN (d_spelled (d := d - 1) hg (by omega) 97 110 100 0 0 0 0) (by omega) k00 ⟨rfl, rfl⟩
  · obtain rfl : k = 13 := by omega
    exact use_lN (d_spelled (d := d - 1) hg (by omega) 111 114 0 0 0 0 0) (by omega) k00 ⟨rfl, rfl⟩
theorem d_knownWord (hg : GOK g) (hd : 10 ≤ d) (hR : RA h B R) (hT : TkR f len st R) (l7 : len ≤ 700) : CT g d yX12_knownWord (wsC yX12_knownWord cX12_knownWord 2 (some .int)) [.ref B] h 0 0 (fun v h2 => v = some (.int (kwI (kwP f len st))) ∧ h2 = h) noT := by
  obtain ⟨h0, e17, e18, e19, e20, _, _, ew⟩ := hT
  have hn := nxF_le (f := f) h0
  refine CT_ofB (by decide +kernel) (Nat.le_of_ble_eq_true rfl) rfl fun K X => ?_
  refine b_X12_knownWord_0 hg (by omega) k00 X _ _ ⟨_, by rw [hR.i18, e18], fun y => ⟨?_, rfl⟩, fun y => ⟨_, by rw [hR.i20, e20], fun z => ?_, fun z => ⟨?_, rfl⟩⟩⟩
  · rw [srt (by decide)] at y
    rw [kw_none (fun k _ => by rw [wdP, decide_eq_false y, Bool.false_and])]; rfl
  · rw [srt (by decide)] at y
    have z' := le_nI (y := 7) (by omega) (by omega) z
    have ew' := ew y
    rw [show min (nxF f len st - st) 7 = nxF f len st - st by omega] at ew'
    have key : ∀ k, k < 15 → (ltC k = R.2.1 ↔ wdP f len st (rkW k) = true) := by
      intro k hk
      have := spB_pk (rkW_lt k hk) (wd_let y) z'
      rw [wdP, decide_eq_true y, Bool.true_and, this, ← ltC_pk k hk, ew']
      exact ⟨fun e => by rw [e], fun e => xN_inj e.symm⟩
    have loop : ∀ (i k : Nat), k + i = 15 → kwL f len st i k = kwP f len st → VB g K 2 d 0 0 (fun v h2 => v = some (.int (kwI (kwP f len st))) ∧ h2 = h) noT 0 0 21 [some (.ref B), some (.int (nI k))] [] h := by
      intro i
      induction i with
      | zero =>
        intro k hk he
        refine b_X12_knownWord_21 hg (by omega) k00 X _ _ _ ⟨fun _ => ⟨?_, rfl⟩, fun z => absurd (nle_nI (x := 15) (by omega) (by omega) z) (by omega)⟩
        rw [← he]; rfl
      | succ i ih =>
        intro k hk he
        unfold kwL at he
        refine b_X12_knownWord_21 hg (by omega) k00 X _ _ _ ⟨fun z => absurd (le_nI (x := 15) (by omega) (by omega) z) (by omega), fun _ => use_lN (d_letters (d := d - 1) hg (by omega) (by omega)) (by omega) k00 ⟨_, hR.j, fun z => ?_, fun z => ⟨?_, rfl⟩⟩⟩
        · have z1 : ¬ ltC k = R.2.1 := fun e => z (by rw [e]; exact lgc_self _)
          rw [if_neg (fun e => z1 ((key k (by omega)).mpr e))] at he
          rw [nI_s]
          exact ih (k + 1) (by omega) he
        · have z1 : ltC k = R.2.1 := lgc_eq z
          rw [if_pos ((key k (by omega)).mp z1)] at he
          rw [← he, kwI, if_pos (by omega)]
    exact loop 15 0 rfl rfl
  · rw [srt (by decide)] at y
    have z' := nle_nI (y := 7) (by omega) (by omega) z
    rw [kw_none (fun k hk => ?_)]
    · rfl
    · rw [wdP, decide_eq_true y, Bool.true_and]
      cases e : spB f (rkW k) st (nxF f len st) with
      | false => rfl
      | true => have := (spB_iff.mp e).1; have := (wln_1 _ (rkW_lt k hk)).2; omega
end RKW
