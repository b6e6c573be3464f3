/-! HorizonSeam: rows round the ring; what was seen; the image -/
section RW
variable {g : GG} {h0 h : Hp} {s : CoreV} {x : ScrV} {d D kc ks mc ms : Nat} {Pt : String → Hp → Prop}
def cfF (n : Nat) (L : LandV) : Nat → Nat → Nat → Int32
  | 0, _, _ => nI n
  | j + 1, i, l => if lSm L i = 0 then nI l else cfF n L j (aftN n i) (l + 1)
theorem c_closedFrom {i : Nat} (hg : GOK g) (hd : 9 ≤ d) (hC : CA h0 h s x) (hI : IS s) (hi : i < tN_ (sT s)) : CT g d yX11_closedFrom (wsC yX11_closedFrom cX11_closedFrom 4 (some .int)) [.ref 0, .int (nI i)] h 0 0 (fun v h2 => v = some (.int (cfF (sN s) (sL s) (sN s) i 0)) ∧ h2 = h) noT := by
  have o1 := hI.1.1.1
  have o2 := hI.1.1.2.1
  refine CT_ofB (by decide +kernel) (Nat.le_of_ble_eq_true rfl) rfl fun K X => ?_
  refine b_X11_closedFrom_0 hg (by omega) k00 X _ _ _ ?_
  have loop : ∀ (j l k : Nat), l + j = tN_ (sT s) → k < tN_ (sT s) → cfF (sN s) (sL s) j k l = cfF (sN s) (sL s) (sN s) i 0 → VB g K 4 d 0 0 (fun v h2 => v = some (.int (cfF (sN s) (sL s) (sN s) i 0)) ∧ h2 = h) noT 0 0 4 [some (.ref 0), none, some (.int (nI k)), some (.int (nI l))] [] h := by
    intro j
    induction j with
    | zero =>
      intro l k hl hk he
      exact b_X11_closedFrom_4 hg (by omega) k00 X _ _ _ _ ⟨_, hC.g6, _, hC.t.g0, fun _ => ⟨_, hC.g6, _, hC.t.g0, by rw [← he]; rfl, rfl⟩, fun q => absurd (nle_nI (x := tN_ (sT s)) (by omega) (by omega) q) (by omega)⟩
    | succ j ih =>
      intro l k hl hk he
      refine b_X11_closedFrom_4 hg (by omega) k00 X _ _ _ _ ⟨_, hC.g6, _, hC.t.g0, fun q => absurd (le_nI (x := tN_ (sT s)) (by omega) (by omega) q) (by omega), fun _ => ⟨_, hC.g8, _, hC.m0, _, hC.l.o, use_i (c_isOpen (d := d - 1) hg (by omega) hC.l (k := k) (by omega)) (by omega) k00 ⟨fun z => ⟨_, hC.g6, _, hC.t.o, use_i (c_after (d := d - 1) hg (by omega) hC.t (k := k) (by omega) o2) (by omega) k00 ?_⟩, fun z => ⟨?_, rfl⟩⟩⟩⟩
      · have z' : ¬ lSm (sL s) k = 0 := fun e => by rw [if_pos e] at z; exact absurd z (by decide)
        rw [nI_s]
        refine ih (l + 1) (aftN (tN_ (sT s)) k) (by omega) (aftN_lt (by omega)) ?_
        rw [← he, cfF, if_neg z']
      · have z' : lSm (sL s) k = 0 := Classical.byContradiction fun e => by rw [if_neg e] at z; exact z rfl
        rw [← he, cfF, if_pos z']
  exact loop (tN_ (sT s)) 0 i (by omega) hi rfl
def cdG (n : Nat) (L : LandV) (i : Nat) (p : Int32 × Int32) : Int32 × Int32 := if cfF n L n i 0 ≤ p.1 then p else (cfF n L n i 0, nI i)
def cdF (s : CoreV) : Int32 × Int32 := foldN (cdG (sN s) (sL s)) (sN s) 0 (0, -1)
def m_closed (s : CoreV) (v : Int32) : Res := if whB v 1 then .inl (if v = 0 then (cdF s).1 else (cdF s).2, s) else .inr true
theorem x_closed (hg : GOK g) (hd : 20 ≤ d) (hC : CA h0 h s x) (hI : IS s) (v : Int32) : CT g d yX11_closed (wsC yX11_closed cX11_closed 6 (some .int)) [.ref 0, .int v] h 8 64 (PrC h0 (m_closed s v)) (PtC h0 s (m_closed s v)) := by
  have o2 := hI.1.1.2.1
  refine CT_ofB (by decide +kernel) (Nat.le_of_ble_eq_true rfl) rfl fun K X => ?_
  refine b_X11_closed_0 hg (by omega) (by omega) X _ _ _ (st_wh hg (by omega) (by omega) (fun q => ptC hC (by rw [m_closed, q]; rfl)) fun q2 => ?_)
  have em : m_closed s v = .inl (if v = 0 then (cdF s).1 else (cdF s).2, s) := by rw [m_closed, if_pos q2]
  rw [em]
  generalize hR : cdF s = R
  have loop : ∀ (j i : Nat) (p : Int32 × Int32), i + j = tN_ (sT s) → foldN (cdG (sN s) (sL s)) j i p = R → VB g K 6 d 8 64 (PrC h0 (.inl (if v = 0 then R.1 else R.2, s))) (PtC h0 s (.inl (if v = 0 then R.1 else R.2, s))) 1 6 12 [some (.ref 0), some (.int v), some (.int p.1), some (.int p.2), some (.int (nI i)), none] [] h := by
    intro j
    induction j with
    | zero =>
      intro i p hi he
      have he' : p = R := he
      exact b_X11_closed_12 hg (by omega) (by omega) X _ _ _ _ _ _ ⟨_, hC.g6, _, hC.t.g0, fun _ => ⟨fun z => prC hC (by rw [if_neg z, he']), fun z => prC hC (by rw [if_pos z, he'])⟩, fun q => absurd (nle_nI (x := tN_ (sT s)) (by omega) (by omega) q) (by omega)⟩
    | succ j ih =>
      intro i p hi he
      refine b_X11_closed_12 hg (by omega) (by omega) X _ _ _ _ _ _ ⟨_, hC.g6, _, hC.t.g0, fun q => absurd (le_nI (x := tN_ (sT s)) (by omega) (by omega) q) (by omega), fun _ => ⟨_, hC.o, use_i (c_closedFrom (d := d - 1) (i := i) hg (by omega) hC hI (by omega)) (by omega) (by omega) ⟨fun z => ?_, fun z => ?_⟩⟩⟩
      · refine b_X11_closed_44 hg (by omega) (by omega) X _ _ _ _ _ _ ?_
        rw [nI_s]
        refine ih (i + 1) p (by omega) ?_
        rw [foldN, cdG, if_pos z] at he
        exact he
      · refine b_X11_closed_44 hg (by omega) (by omega) X _ _ _ _ _ _ ?_
        rw [nI_s]
        refine ih (i + 1) (cfF (sN s) (sL s) (sN s) i 0, nI i) (by omega) ?_
        rw [foldN, cdG, if_neg z] at he
        exact he
  exact loop (tN_ (sT s)) 0 (0, -1) (by omega) hR
def sfF (n : Nat) (L : LandV) : Nat → Nat → Int32 → Int32
  | 0, _, p => p
  | j + 1, i, p => sfF n L j (aftN n i) (p + lStr L i)
theorem c_strainFrom {i m : Nat} (hg : GOK g) (hd : 9 ≤ d) (hC : CA h0 h s x) (hI : IS s) (hi : i < tN_ (sT s)) (hm : m < 100) : CT g d yX11_strainFrom (wsC yX11_strainFrom cX11_strainFrom 6 (some .int)) [.ref 0, .int (nI i), .int (nI m)] h 0 0 (fun v h2 => v = some (.int (sfF (sN s) (sL s) m i 0)) ∧ h2 = h) noT := by
  have o1 := hI.1.1.1
  have o2 := hI.1.1.2.1
  refine CT_ofB (by decide +kernel) (Nat.le_of_ble_eq_true rfl) rfl fun K X => ?_
  refine b_X11_strainFrom_0 hg (by omega) k00 X _ _ _ _ ?_
  have loop : ∀ (j l k : Nat) (p : Int32), l + j = m → k < tN_ (sT s) → sfF (sN s) (sL s) j k p = sfF (sN s) (sL s) m i 0 → VB g K 6 d 0 0 (fun v h2 => v = some (.int (sfF (sN s) (sL s) m i 0)) ∧ h2 = h) noT 0 0 8 [some (.ref 0), none, some (.int (nI m)), some (.int p), some (.int (nI k)), some (.int (nI l))] [] h := by
    intro j
    induction j with
    | zero =>
      intro l k p hl hk he
      exact b_X11_strainFrom_8 hg (by omega) k00 X _ _ _ _ _ _ ⟨fun _ => ⟨by rw [← he]; rfl, rfl⟩, fun q => absurd (nle_nI (by omega) (by omega) q) (by omega)⟩
    | succ j ih =>
      intro l k p hl hk he
      refine b_X11_strainFrom_8 hg (by omega) k00 X _ _ _ _ _ _ ⟨fun q => absurd (le_nI (by omega) (by omega) q) (by omega), fun _ => ⟨_, hC.g8, _, hC.m0, _, hC.l.g1, _, hC.l.r1 (by omega), _, hC.g6, _, hC.t.o, use_i (c_after (d := d - 1) hg (by omega) hC.t (k := k) (by omega) o2) (by omega) k00 ?_⟩⟩
      rw [nI_s]
      exact ih (l + 1) (aftN (tN_ (sT s)) k) _ (by omega) (aftN_lt (by omega)) he
  exact loop m 0 i 0 (by omega) hi rfl
def tgG (n m : Nat) (L : LandV) (i : Nat) (p : Int32 × Int32) : Int32 × Int32 := if sfF n L m i 0 ≤ p.1 then p else (sfF n L m i 0, nI i)
def tgF (s : CoreV) (m : Nat) : Int32 × Int32 := foldN (tgG (sN s) m (sL s)) (sN s) 0 (-1, -1)
def m_tight (s : CoreV) (a v : Int32) : Res := if whB v 1 then (if a < 1 then .inr false else if a ≤ 12 then (if a ≤ nI (sN s) then .inl (if v = 0 then (tgF s (cl a)).1 else (tgF s (cl a)).2, s) else .inl (-1, s)) else .inr false) else .inr true
theorem x_tight (hg : GOK g) (hd : 20 ≤ d) (hC : CA h0 h s x) (hI : IS s) (a v : Int32) : CT g d yX11_tight (wsC yX11_tight cX11_tight 7 (some .int)) [.ref 0, .int a, .int v] h 8 64 (PrC h0 (m_tight s a v)) (PtC h0 s (m_tight s a v)) := by
  have o2 := hI.1.1.2.1
  refine CT_ofB (by decide +kernel) (Nat.le_of_ble_eq_true rfl) rfl fun K X => ?_
  refine b_X11_tight_0 hg (by omega) (by omega) X _ _ _ _ (st_wh hg (by omega) (by omega) (fun q => ptC hC (by rw [m_tight, q]; rfl)) fun q2 => ⟨fun y => b_X11_tight_16 hg (by omega) (by omega) X _ ⟨by omega, ptI hC (by rw [m_tight, if_pos q2, if_pos y])⟩, fun y => ⟨fun z => ⟨_, hC.g6, _, hC.t.g0, fun u => ?_, fun u => prC hC (by rw [m_tight, if_pos q2, if_neg y, if_pos z]; exact if_neg u)⟩, fun z => b_X11_tight_16 hg (by omega) (by omega) X _ ⟨by omega, ptI hC (by rw [m_tight, if_pos q2, if_neg y, if_neg z])⟩⟩⟩)
  have em : m_tight s a v = .inl (if v = 0 then (tgF s (cl a)).1 else (tgF s (cl a)).2, s) := by rw [m_tight, if_pos q2, if_neg y, if_pos z]; exact if_pos u
  have q0 : ¬ a < 0 := fun e => y (Int32.lt_trans e (by decide))
  have ev := nI_cl q0
  have hm : cl a ≤ 12 := by
    have z2 : a ≤ 12 := z
    rw [ev, show (12 : Int32) = nI 12 from rfl] at z2
    exact (nI_leI (cl_lt a) (by decide)).mp z2
  rw [em]
  generalize cl a = m at *
  rw [ev]
  generalize hR : tgF s m = R
  have loop : ∀ (j i : Nat) (p : Int32 × Int32), i + j = tN_ (sT s) → foldN (tgG (sN s) m (sL s)) j i p = R → VB g K 7 d 8 64 (PrC h0 (.inl (if v = 0 then R.1 else R.2, s))) (PtC h0 s (.inl (if v = 0 then R.1 else R.2, s))) 1 6 48 [some (.ref 0), some (.int (nI m)), some (.int v), some (.int p.1), some (.int p.2), some (.int (nI i)), none] [] h := by
    intro j
    induction j with
    | zero =>
      intro i p hi he
      have he' : p = R := he
      exact b_X11_tight_48 hg (by omega) (by omega) X _ _ _ _ _ _ _ ⟨_, hC.g6, _, hC.t.g0, fun _ => ⟨fun z => prC hC (by rw [if_neg z, he']), fun z => prC hC (by rw [if_pos z, he'])⟩, fun q => absurd (nle_nI (x := tN_ (sT s)) (by omega) (by omega) q) (by omega)⟩
    | succ j ih =>
      intro i p hi he
      refine b_X11_tight_48 hg (by omega) (by omega) X _ _ _ _ _ _ _ ⟨_, hC.g6, _, hC.t.g0, fun q => absurd (le_nI (x := tN_ (sT s)) (by omega) (by omega) q) (by omega), fun _ => ⟨_, hC.o, use_i (c_strainFrom (d := d - 1) (i := i) (m := m) hg (by omega) hC hI (by omega) (by omega)) (by omega) (by omega) ⟨fun z => ?_, fun z => ?_⟩⟩⟩
      · refine b_X11_tight_82 hg (by omega) (by omega) X _ _ _ _ _ _ _ ?_
        rw [nI_s]
        refine ih (i + 1) p (by omega) ?_
        rw [foldN, tgG, if_pos z] at he
        exact he
      · refine b_X11_tight_82 hg (by omega) (by omega) X _ _ _ _ _ _ _ ?_
        rw [nI_s]
        refine ih (i + 1) (sfF (sN s) (sL s) m i 0, nI i) (by omega) ?_
        rw [foldN, tgG, if_neg z] at he
        exact he
  exact loop (tN_ (sT s)) 0 (-1, -1) (by omega) hR
def bitE (v : Int32) (k : Nat) : Int32 := (v >>> (nI k &&& 31)) &&& 1
def roG (n : Nat) (v : Int32) (i : Nat) (p : Int32) : Int32 := if bitE v i = 1 then (if bitE v (aheN n i) = 0 then p + 1 else p) else p
def roF (n : Nat) (v : Int32) : Int32 := if foldN (roG n v) n 0 0 = 0 then (if v = 0 then 0 else 1) else foldN (roG n v) n 0 0
theorem c_rowsOf (hg : GOK g) (hd : 9 ≤ d) (hC : CA h0 h s x) (hI : IS s) (v : Int32) : CT g d yX11_rowsOf (wsC yX11_rowsOf cX11_rowsOf 4 (some .int)) [.ref 0, .int v] h 0 0 (fun r h2 => r = some (.int (roF (sN s) v)) ∧ h2 = h) noT := by
  have o1 := hI.1.1.1
  have o2 := hI.1.1.2.1
  refine CT_ofB (by decide +kernel) (Nat.le_of_ble_eq_true rfl) rfl fun K X => ?_
  refine b_X11_rowsOf_0 hg (by omega) k00 X _ _ _ ?_
  have loop : ∀ (j i : Nat) (p : Int32), i + j = tN_ (sT s) → foldN (roG (sN s) v) j i p = foldN (roG (sN s) v) (sN s) 0 0 → VB g K 4 d 0 0 (fun r h2 => r = some (.int (roF (sN s) v)) ∧ h2 = h) noT 0 0 4 [some (.ref 0), some (.int v), some (.int p), some (.int (nI i))] [] h := by
    intro j
    induction j with
    | zero =>
      intro i p hi he
      have he' : p = foldN (roG (sN s) v) (sN s) 0 0 := he
      refine b_X11_rowsOf_4 hg (by omega) k00 X _ _ _ _ _ ⟨_, hC.g6, _, hC.t.g0, fun _ => ⟨fun z => ⟨?_, rfl⟩, fun z => ⟨fun y => ⟨?_, rfl⟩, fun y => ⟨?_, rfl⟩⟩⟩, fun q => absurd (nle_nI (x := tN_ (sT s)) (by omega) (by omega) q) (by omega)⟩
      · rw [roF, ← he', if_neg z]
      · rw [roF, ← he', if_pos z, if_pos y, z]
      · rw [roF, ← he', if_pos z, if_neg y]
    | succ j ih =>
      intro i p hi he
      have nxt : ∀ p', roG (sN s) v i p = p' → VB g K 4 d 0 0 (fun r h2 => r = some (.int (roF (sN s) v)) ∧ h2 = h) noT 0 0 42 [some (.ref 0), some (.int v), some (.int p'), some (.int (nI i))] [] h := by
        intro p' hp
        refine b_X11_rowsOf_42 hg (by omega) k00 X _ _ _ _ _ ?_
        rw [nI_s]
        exact ih (i + 1) p' (by omega) (by rw [← he, foldN, hp])
      refine b_X11_rowsOf_4 hg (by omega) k00 X _ _ _ _ _ ⟨_, hC.g6, _, hC.t.g0, fun q => absurd (le_nI (x := tN_ (sT s)) (by omega) (by omega) q) (by omega), fun _ => ⟨fun z => nxt p (by rw [roG, bitE, if_neg z]), fun z => ⟨_, hC.g6, _, hC.t.o, use_i (c_ahead (d := d - 1) hg (by omega) hC.t (k := i) (by omega) o2 (by show 0 < tN_ (sT s); omega)) (by omega) k00 ⟨fun y => nxt p ?_, fun y => nxt (p + 1) ?_⟩⟩⟩⟩
      · have y' : ¬ bitE v (aheN (sN s) i) = 0 := y
        rw [roG, bitE, if_pos z, if_neg y']
      · have y' : bitE v (aheN (sN s) i) = 0 := y
        rw [roG, bitE, if_pos z, if_pos y']
  exact loop (tN_ (sT s)) 0 0 (by omega) rfl
def m_gaps (s : CoreV) : Res := .inl (roF (sN s) (opnB (sN s) (sL s)), s)
theorem x_gaps (hg : GOK g) (hd : 20 ≤ d) (hC : CA h0 h s x) (hI : IS s) : CT g d yX11_gaps (wsC yX11_gaps cX11_gaps 1 (some .int)) [.ref 0] h 8 64 (PrC h0 (m_gaps s)) (PtC h0 s (m_gaps s)) := by
  refine CT_ofB (by decide +kernel) (Nat.le_of_ble_eq_true rfl) rfl fun K X => ?_
  exact b_X11_gaps_0 hg (by omega) (by omega) X _ _ ⟨_, hC.g8, _, hC.m0, _, hC.g6, _, hC.l.o, use_i (c_openBits (d := d - 1) hg (by omega) hC.l hC.t hI.1.1) (by omega) (by omega) ⟨_, hC.o, use_i (c_rowsOf (d := d - 1) hg (by omega) hC hI _) (by omega) (by omega) (prC hC rfl)⟩⟩
def m_load (s : CoreV) (v : Int32) : Res := if v < 0 then .inr false else if v ≤ 99 then .inl (roF (sN s) (bitsF (fun k => !decide (lStr (sL s) k < v)) (sN s)), s) else .inr false
theorem x_load (hg : GOK g) (hd : 20 ≤ d) (hC : CA h0 h s x) (hI : IS s) (v : Int32) : CT g d yX11_load (wsC yX11_load cX11_load 2 (some .int)) [.ref 0, .int v] h 8 64 (PrC h0 (m_load s v)) (PtC h0 s (m_load s v)) := by
  refine CT_ofB (by decide +kernel) (Nat.le_of_ble_eq_true rfl) rfl fun K X => ?_
  exact b_X11_load_0 hg (by omega) (by omega) X _ _ _ ⟨fun y => b_X11_load_10 hg (by omega) (by omega) X _ ⟨by omega, ptI hC (by rw [m_load, if_pos y])⟩, fun y => ⟨fun z => ⟨_, hC.g8, _, hC.m0, _, hC.g6, _, hC.l.o, use_i (c_strainedBits (d := d - 1) hg (by omega) hC.l hC.t hI.1.1 v) (by omega) (by omega) ⟨_, hC.o, use_i (c_rowsOf (d := d - 1) hg (by omega) hC hI _) (by omega) (by omega) (prC hC (by rw [m_load, if_neg y, if_pos z]; rfl))⟩⟩, fun z => b_X11_load_10 hg (by omega) (by omega) X _ ⟨by omega, ptI hC (by rw [m_load, if_neg y, if_neg z])⟩⟩⟩
def absE (a b : Int32) : Int32 := if 0 ≤ a - b then a - b else 0 - (a - b)
def stpE (n : Nat) (a b : Int32) : Int32 := if nI n - absE a b < absE a b then nI n - absE a b else absE a b
theorem c_steps {b : Nat} {T : ToldV} (hg : GOK g) (hd : 8 ≤ d) (hT : TA h b T) (u v : Int32) : CT g d yX9_steps (wsC yX9_steps cX9_steps 4 (some .int)) [.ref b, .int u, .int v] h 0 0 (fun r h2 => r = some (.int (stpE (tN_ T) u v)) ∧ h2 = h) noT := by
  refine CT_ofB (by decide +kernel) (Nat.le_of_ble_eq_true rfl) rfl fun K X => ?_
  exact b_X9_steps_0 hg hd k00 X _ _ _ _ ⟨_, hT.g0, rfl, rfl⟩
def nrG (n : Nat) (L : LandV) (v : Int32) (i : Nat) (p : Int32 × Int32) : Int32 × Int32 := if p.2 ≤ stpE n (lAt L i) v then p else (nI i, stpE n (lAt L i) v)
def nrF (s : CoreV) (v : Int32) : Int32 × Int32 := foldN (nrG (sN s) (sL s) v) (sW s) 0 (-1, 12)
def m_nearest (s : CoreV) (v : Int32) : Res := if inB (sN s) v then .inl ((nrF s v).1, s) else .inr true
theorem x_nearest (hg : GOK g) (hd : 20 ≤ d) (hC : CA h0 h s x) (hI : IS s) (v : Int32) : CT g d yX11_nearest (wsC yX11_nearest cX11_nearest 6 (some .int)) [.ref 0, .int v] h 8 64 (PrC h0 (m_nearest s v)) (PtC h0 s (m_nearest s v)) := by
  have o2 := hI.1.1.2.2
  refine CT_ofB (by decide +kernel) (Nat.le_of_ble_eq_true rfl) rfl fun K X => ?_
  refine b_X11_nearest_0 hg (by omega) (by omega) X _ _ _ ⟨_, hC.o, st_nS hg hC (by omega) (by omega) (fun q => ptC hC (by rw [m_nearest, q]; rfl)) fun q2 => ?_⟩
  have em : m_nearest s v = .inl ((nrF s v).1, s) := by rw [m_nearest, if_pos q2]
  rw [em]
  generalize hR : nrF s v = R
  have loop : ∀ (j i : Nat) (p : Int32 × Int32), i + j = tW (sT s) → foldN (nrG (sN s) (sL s) v) j i p = R → VB g K 6 d 8 64 (PrC h0 (.inl (R.1, s))) (PtC h0 s (.inl (R.1, s))) 1 6 13 [some (.ref 0), some (.int v), some (.int p.1), some (.int p.2), some (.int (nI i)), none] [] h := by
    intro j
    induction j with
    | zero =>
      intro i p hi he
      have he' : p = R := he
      exact b_X11_nearest_13 hg (by omega) (by omega) X _ _ _ _ _ _ ⟨_, hC.g6, _, hC.t.g1, fun _ => prC hC (by rw [he']), fun q => absurd (nle_nI (x := tW (sT s)) (by omega) (by omega) q) (by omega)⟩
    | succ j ih =>
      intro i p hi he
      refine b_X11_nearest_13 hg (by omega) (by omega) X _ _ _ _ _ _ ⟨_, hC.g6, _, hC.t.g1, fun q => absurd (le_nI (x := tW (sT s)) (by omega) (by omega) q) (by omega), fun _ => ⟨_, hC.g6, _, hC.g8, _, hC.m0, _, hC.l.g4, _, hC.l.r4 (by omega), _, hC.t.o, use_i (c_steps (d := d - 1) hg (by omega) hC.t _ v) (by omega) (by omega) ⟨fun z => ?_, fun z => ?_⟩⟩⟩
      · have z' : p.2 ≤ stpE (sN s) (lAt (sL s) i) v := z
        refine b_X11_nearest_60 hg (by omega) (by omega) X _ _ _ _ _ _ ?_
        rw [nI_s]
        refine ih (i + 1) p (by omega) ?_
        rw [foldN, nrG, if_pos z'] at he
        exact he
      · have z' : ¬ p.2 ≤ stpE (sN s) (lAt (sL s) i) v := z
        refine b_X11_nearest_60 hg (by omega) (by omega) X _ _ _ _ _ _ ?_
        rw [nI_s]
        refine ih (i + 1) (nI i, stpE (sN s) (lAt (sL s) i) v) (by omega) ?_
        rw [foldN, nrG, if_neg z'] at he
        exact he
  exact loop (tW (sT s)) 0 (-1, 12) (by omega) hR
def m_far (s : CoreV) (a b : Int32) : Res := if inB (sN s) a then (if inB (sN s) b then .inl (stpE (sN s) a b, s) else .inr true) else .inr true
theorem x_far (hg : GOK g) (hd : 20 ≤ d) (hC : CA h0 h s x) (a b : Int32) : CT g d yX11_far (wsC yX11_far cX11_far 3 (some .int)) [.ref 0, .int a, .int b] h 8 64 (PrC h0 (m_far s a b)) (PtC h0 s (m_far s a b)) := by
  refine CT_ofB (by decide +kernel) (Nat.le_of_ble_eq_true rfl) rfl fun K X => ?_
  exact b_X11_far_0 hg (by omega) (by omega) X _ _ _ _ ⟨_, hC.o, st_nS hg hC (by omega) (by omega) (fun q => ptC hC (by rw [m_far, q]; rfl)) fun q1 => ⟨_, hC.o, st_nS hg hC (by omega) (by omega) (fun q => ptC hC (by rw [m_far, q1, q]; rfl)) fun q2 => ⟨_, hC.g6, _, hC.t.o, use_i (c_steps (d := d - 1) hg (by omega) hC.t a b) (by omega) (by omega) (prC hC (by rw [m_far, if_pos q1, if_pos q2]; rfl))⟩⟩⟩
def refG (s : CoreV) : Res := .inl (-1, usO s (uoRs (sO s) (oRs (sO s) + 1)))
def m_see (s : CoreV) (a b c : Int32) : Res := if inB (sN s) a then (if 8 ≤ (sS s).1 then refG s else if b < 0 then refG s else if 20 < b then refG s else if c < 0 then refG s else if 99 < c then refG s else .inl (nI ((sS s).1 + 1), usS s ((sS s).1 + 1, upd (sS s).2.1 (sS s).1 a, upd (sS s).2.2.1 (sS s).1 b, upd (sS s).2.2.2 (sS s).1 c))) else .inr true
theorem x_see (hg : GOK g) (hd : 20 ≤ d) (hC : CA h0 h s x) (hI : IS s) (a b c : Int32) : CT g d yX11_see (wsC yX11_see cX11_see 5 (some .int)) [.ref 0, .int a, .int b, .int c] h 8 64 (PrC h0 (m_see s a b c)) (PtC h0 s (m_see s a b c)) := by
  have o3 := hI.2.2.2.1
  refine CT_ofB (by decide +kernel) (Nat.le_of_ble_eq_true rfl) rfl fun K X => ?_
  refine b_X11_see_0 hg (by omega) (by omega) X _ _ _ _ _ ⟨_, hC.o, st_nS hg hC (by omega) (by omega) (fun q => ptC hC (by rw [m_see, q]; rfl)) fun q1 => ?_⟩
  have no : m_see s a b c = refG s → VB g K 5 d 8 64 (PrC h0 (m_see s a b c)) (PtC h0 s (m_see s a b c)) 1 6 44 [some (.ref 0), some (.int a), some (.int b), some (.int c), none] [] h := by
    intro e
    obtain ⟨h2, e2, c2⟩ := hC.w5 (oRs (sO s) + 1)
    exact b_X11_see_44 hg (by omega) (by omega) X _ _ _ _ _ (b_X11_see_45 hg (by omega) (by omega) X _ _ _ _ _ _ ⟨fun z => absurd rfl z, fun _ => ⟨_, hC.g5, _, e2, prC c2 e⟩⟩)
  have em : m_see s a b c = if 8 ≤ (sS s).1 then refG s else if b < 0 then refG s else if 20 < b then refG s else if c < 0 then refG s else if 99 < c then refG s else .inl (nI ((sS s).1 + 1), usS s ((sS s).1 + 1, upd (sS s).2.1 (sS s).1 a, upd (sS s).2.2.1 (sS s).1 b, upd (sS s).2.2.2 (sS s).1 c)) := by rw [m_see, if_pos q1]
  have e8 : (8 : Int32) ≤ nI (sS s).1 ↔ 8 ≤ (sS s).1 := nI_leI (a := 8) (b := (sS s).1) (by omega) (by omega)
  refine ⟨_, hC.g8, _, hC.m2, _, hC.sn.g0, fun z1 => no (by rw [em, if_pos (e8.mp z1)]), fun z1 => ⟨fun z2 => no (by rw [em, if_neg (fun e => z1 (e8.mpr e)), if_pos z2]), fun z2 => ⟨fun z3 => no (by rw [em, if_neg (fun e => z1 (e8.mpr e)), if_neg z2, if_pos z3]), fun z3 => ⟨fun z4 => no (by rw [em, if_neg (fun e => z1 (e8.mpr e)), if_neg z2, if_neg z3, if_pos z4]), fun z4 => ⟨fun z5 => no (by rw [em, if_neg (fun e => z1 (e8.mpr e)), if_neg z2, if_neg z3, if_neg z4, if_pos z5]), fun z5 => ?_⟩⟩⟩⟩⟩
  have h8 : (sS s).1 < 8 := Nat.lt_of_not_le (fun e => z1 (e8.mpr e))
  refine b_X11_see_45 hg (by omega) (by omega) X _ _ _ _ _ _ ⟨fun _ => ⟨_, hC.g8, _, hC.m2, _, hC.sn.o, use_v (c_seenPut (d := d - 1) hg (by omega) hC.sn h8 a b c) (by omega) (by omega) ?_⟩, fun z => absurd z (by decide)⟩
  intro h2 q2
  rw [q2]
  have c2 := hC.u_sn ((sS s).1 + 1, upd (sS s).2.1 (sS s).1 a, upd (sS s).2.2.1 (sS s).1 b, upd (sS s).2.2.2 (sS s).1 c)
  exact ⟨_, c2.g8, _, c2.m2, _, c2.sn.g0, prC c2 (by rw [em, if_neg (fun e => z1 (e8.mpr e)), if_neg z2, if_neg z3, if_neg z4, if_neg z5]; rfl)⟩
def m_forget (s : CoreV) : CoreV := usS s (0, (sS s).2)
theorem x_forget (hg : GOK g) (hd : 20 ≤ d) (hC : CA h0 h s x) : CT g d yX11_forget (wsC yX11_forget cX11_forget 1 none) [.ref 0] h 8 64 (fun v h2 => v = none ∧ ∃ x', CA h0 h2 (m_forget s) x') noT := by
  refine CT_ofB (by decide +kernel) (Nat.le_of_ble_eq_true rfl) rfl fun K X => ?_
  refine b_X11_forget_0 hg (by omega) (by omega) X _ _ ⟨_, hC.g8, _, hC.m2, _, hC.sn.o, use_v (c_seenClear (d := d - 1) hg (by omega) hC.sn) (by omega) (by omega) ?_⟩
  intro h2 q2
  rw [q2]
  exact ⟨rfl, x, hC.u_sn _⟩
def imgS (s : CoreV) : CoreV := usS2 (usP2 (usL2 s (cpyL (sL2 s) (sL s))) (sP s)) (sS s)
def rstS (s : CoreV) : CoreV := usS (usP (usL s (cpyL (sL s) (sL2 s))) (sP2 s)) (sS2 s)
theorem c_img (hg : GOK g) (hd : 10 ≤ d) (hC : CA h0 h s x) : CT g d yX3_copyFrom (wsC yX3_copyFrom cX3_copyFrom 2 none) [.ref 40, .ref 26] h 0 0 (fun v h2 => v = none ∧ CA h0 h2 (imgS s) x) noT := by
  refine CT_ofB (by decide +kernel) (Nat.le_of_ble_eq_true rfl) rfl fun K X => ?_
  refine b_X3_copyFrom_0 hg (by omega) k00 X _ _ _ ⟨_, hC.n0, _, hC.m0, _, hC.l2.o, use_v (c_copyFrom (d := d - 1) hg (by omega) hC.l2 hC.l (by omega)) (by omega) k00 ?_⟩
  intro h1 q1
  rw [q1]
  have c1 := hC.u_l2 (cpyL (sL2 s) (sL s))
  refine ⟨_, c1.n1, _, c1.m1, _, c1.p2.o, use_v (c_pastCopy (d := d - 1) hg (by omega) c1.p2 c1.p (by omega)) (by omega) k00 ?_⟩
  intro h2 q2
  rw [q2]
  have c2 := c1.u_p2 (sP s)
  refine ⟨_, c2.n2, _, c2.m2, _, c2.sn2.o, use_v (c_seenCopy (d := d - 1) hg (by omega) c2.sn2 c2.sn (by omega)) (by omega) k00 ?_⟩
  intro h3 q3
  rw [q3]
  exact ⟨rfl, c2.u_sn2 (sS s)⟩
theorem c_rst (hg : GOK g) (hd : 10 ≤ d) (hC : CA h0 h s x) : CT g d yX3_copyFrom (wsC yX3_copyFrom cX3_copyFrom 2 none) [.ref 26, .ref 40] h 0 0 (fun v h2 => v = none ∧ CA h0 h2 (rstS s) x) noT := by
  refine CT_ofB (by decide +kernel) (Nat.le_of_ble_eq_true rfl) rfl fun K X => ?_
  refine b_X3_copyFrom_0 hg (by omega) k00 X _ _ _ ⟨_, hC.m0, _, hC.n0, _, hC.l.o, use_v (c_copyFrom (d := d - 1) hg (by omega) hC.l hC.l2 (by omega)) (by omega) k00 ?_⟩
  intro h1 q1
  rw [q1]
  have c1 := hC.u_l (cpyL (sL s) (sL2 s))
  refine ⟨_, c1.m1, _, c1.n1, _, c1.p.o, use_v (c_pastCopy (d := d - 1) hg (by omega) c1.p c1.p2 (by omega)) (by omega) k00 ?_⟩
  intro h2 q2
  rw [q2]
  have c2 := c1.u_p (sP2 s)
  refine ⟨_, c2.m2, _, c2.n2, _, c2.sn.o, use_v (c_seenCopy (d := d - 1) hg (by omega) c2.sn c2.sn2 (by omega)) (by omega) k00 ?_⟩
  intro h3 q3
  rw [q3]
  exact ⟨rfl, c2.u_sn (sS2 s)⟩
def m_image (s : CoreV) : CoreV := usO (imgS s) (uoHi (sO s) 1)
theorem x_image (hg : GOK g) (hd : 20 ≤ d) (hC : CA h0 h s x) : CT g d yX11_image (wsC yX11_image cX11_image 1 none) [.ref 0] h 8 64 (fun v h2 => v = none ∧ ∃ x', CA h0 h2 (m_image s) x') noT := by
  refine CT_ofB (by decide +kernel) (Nat.le_of_ble_eq_true rfl) rfl fun K X => ?_
  refine b_X11_image_0 hg (by omega) (by omega) X _ _ ⟨_, hC.g9, _, hC.g8, _, mom_o hC.mk, use_v (c_img (d := d - 1) hg (by omega) hC) (by omega) (by omega) ?_⟩
  intro h2 c2
  obtain ⟨h3, e3, c3⟩ := c2.w10 1
  exact ⟨Or.inr rfl, _, e3, rfl, x, c3⟩
def m_restore (s : CoreV) : Res := if oHi (sO s) = 0 then .inl (0, s) else .inl (1, rstS s)
theorem x_restore (hg : GOK g) (hd : 20 ≤ d) (hC : CA h0 h s x) : CT g d yX11_restore (wsC yX11_restore cX11_restore 1 (some .boolean)) [.ref 0] h 8 64 (PrC h0 (m_restore s)) (PtC h0 s (m_restore s)) := by
  refine CT_ofB (by decide +kernel) (Nat.le_of_ble_eq_true rfl) rfl fun K X => ?_
  refine b_X11_restore_0 hg (by omega) (by omega) X _ _ ⟨_, hC.g10, fun z => ⟨_, hC.g8, _, hC.g9, _, mom_o hC.mo, use_v (c_rst (d := d - 1) hg (by omega) hC) (by omega) (by omega) ?_⟩, fun z => ⟨Or.inl rfl, prC hC (by rw [m_restore, if_pos z])⟩⟩
  intro h2 c2
  exact ⟨Or.inr rfl, prC c2 (by rw [m_restore, if_neg z])⟩
end RW
