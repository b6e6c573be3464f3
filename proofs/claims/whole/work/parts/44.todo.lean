/-! HorizonSeam: what to do; rows round the ring -/
def foldN {σ : Type} (f : Nat → σ → σ) : Nat → Nat → σ → σ
  | 0, _, p => p
  | j + 1, i, p => foldN f j (i + 1) (f i p)
def SmOK (n : Nat) (L : LandV) : Prop := ∀ k, k < n → ∃ q, q ≤ 99 ∧ lSm L k = nI q
section TD
variable {g : GG} {h0 h : Hp} {s : CoreV} {x : ScrV} {d D kc ks mc ms : Nat} {Pt : String → Hp → Prop}
def scF (T : ToldV) (a : Nat) : Nat → LandV → Bool
  | 0, _ => true
  | j + 1, X => if lSm (dayT T X) a = 0 then false else scF T a j (dayT T X)
theorem c_staysClosed {a m : Nat} {Y : LandV} (hg : GOK g) (hd : 16 ≤ d) (hC : CA h0 h s x) (hI : TG (sT s)) (hX : LEs s (xTr x) Y) (hA : AtOK (sN s) (sW s) Y) (ha : a < tN_ (sT s)) (hm : m < 1000) : CT g d yX11_staysClosed (wsC yX11_staysClosed cX11_staysClosed 4 (some .boolean)) [.ref 0, .int (nI a), .int (nI m)] h 0 0 (fun v h2 => ∃ r, v = some (.int r) ∧ r = (if scF (sT s) a m Y then 1 else 0) ∧ ∃ x', CA h0 h2 s x') noT := by
  have o1 := hI.1.1
  have o2 := hI.1.2.1
  refine CT_ofB (by decide +kernel) (Nat.le_of_ble_eq_true rfl) rfl fun K X => ?_
  refine b_X11_staysClosed_0 hg (by omega) k00 X _ _ _ _ ?_
  have loop : ∀ (j k : Nat) (h : Hp) (x : ScrV) (Z : LandV), k + j = m → CA h0 h s x → LEs s (xTr x) Z → AtOK (sN s) (sW s) Z → scF (sT s) a j Z = scF (sT s) a m Y → VB g K 4 d 0 0 (fun v h2 => ∃ r, v = some (.int r) ∧ r = (if scF (sT s) a m Y then 1 else 0) ∧ ∃ x', CA h0 h2 s x') noT 0 0 2 [some (.ref 0), some (.int (nI a)), some (.int (nI m)), some (.int (nI k))] [] h := by
    intro j
    induction j with
    | zero =>
      intro k h x Z hk hC hX hA he
      refine b_X11_staysClosed_2 hg (by omega) k00 X _ _ _ _ _ ⟨fun _ => ⟨Or.inr rfl, 1, rfl, by rw [← he]; rfl, x, hC⟩, fun q => absurd (nle_nI (by omega) (by omega) q) (by omega)⟩
    | succ j ih =>
      intro k h x Z hk hC hX hA he
      refine b_X11_staysClosed_2 hg (by omega) k00 X _ _ _ _ _ ⟨fun q => absurd (le_nI (by omega) (by omega) q) (by omega), fun _ => ⟨_, hC.g11, _, hC.g6, _, hC.tr.o, st_day hg hC hI hX hA (by omega) k00 fun h1 x1 c1 _ _ e1 => ⟨_, c1.g11, _, c1.tr.o, use_i (c_isOpen (d := d - 1) hg (by omega) c1.tr (k := a) (by omega)) (by omega) k00 ⟨fun z => ?_, fun z => ?_⟩⟩⟩⟩
      · have z' : ¬ lSm (dayT (sT s) Z) a = 0 := fun e => by rw [← e1.sm ha] at e; rw [if_pos e] at z; exact absurd z (by decide)
        rw [nI_s]
        refine ih (k + 1) h1 x1 _ (by omega) c1 e1 (AtOK_dayT (by omega) hA) ?_
        rw [← he, scF, if_neg z']
      · have z' : lSm (dayT (sT s) Z) a = 0 := Classical.byContradiction fun e => by rw [← e1.sm ha] at e; rw [if_neg e] at z; exact z rfl
        refine ⟨Or.inl rfl, 0, rfl, ?_, x1, c1⟩
        rw [← he, scF, if_pos z']
        rfl
  exact loop m 0 h x Y (by omega) hC hX hA rfl
/-- the least more, from m on, of j, with which it holds -/
def thdF (T : ToldV) (a n : Nat) (L : LandV) : Nat → Nat → Int32
  | 0, _ => -1
  | j + 1, m => if scF T a n (sSm L a (lSm L a + nI m)) then nI m else thdF T a n L j (m + 1)
def m_toHold (s : CoreV) (a n : Int32) : Res := if inB (sN s) a then (if dyB n 1 then .inl (thdF (sT s) (cl a) (cl n) (sL s) (cl (99 - lSm (sL s) (cl a)) + 1) 0, s) else .inr false) else .inr true
theorem x_toHold (hg : GOK g) (hd : 20 ≤ d) (hC : CA h0 h s x) (hI : IS s) (hS : SmOK (sN s) (sL s)) (a n : Int32) : CT g d yX11_toHold (wsC yX11_toHold cX11_toHold 5 (some .int)) [.ref 0, .int a, .int n] h 8 64 (PrC h0 (m_toHold s a n)) (PtC h0 s (m_toHold s a n)) := by
  have o1 := hI.1.1.1
  have o2 := hI.1.1.2.1
  refine CT_ofB (by decide +kernel) (Nat.le_of_ble_eq_true rfl) rfl fun K X => ?_
  refine b_X11_toHold_0 hg (by omega) (by omega) X _ _ _ _ ⟨_, hC.o, st_nS hg hC (by omega) (by omega) (fun q => ptC hC (by rw [m_toHold, q]; rfl)) fun q1 => st_dy hg (by omega) (by omega) (fun q => ptC hC (by rw [m_toHold, q1, q]; rfl)) fun q3 => ?_⟩
  obtain ⟨ea, ha⟩ := inB_k (by show tN_ (sT s) < _; omega) q1
  obtain ⟨en, _, hn⟩ := dyB_k (m := 1) (by decide) q3
  have em : m_toHold s a n = .inl (thdF (sT s) (cl a) (cl n) (sL s) (cl (99 - lSm (sL s) (cl a)) + 1) 0, s) := by rw [m_toHold, if_pos q1, if_pos q3]
  rw [em]
  generalize cl a = k at *
  generalize cl n = m at *
  rw [ea, en]
  have hk : k < tN_ (sT s) := ha
  obtain ⟨q, hq, eq⟩ := hS k hk
  have er : 99 - lSm (sL s) k = nI (99 - q) := by rw [eq, show (99 : Int32) = nI 99 from rfl, pk_sub hq]
  have ecl : cl (99 - lSm (sL s) k) = 99 - q := by rw [er]; exact nI_clamp (by omega)
  rw [ecl]
  generalize hR : thdF (sT s) k m (sL s) (99 - q + 1) 0 = R
  refine ⟨_, hC.g8, _, hC.m0, _, hC.l.g2, _, hC.l.r2 (by omega), ?_⟩
  rw [er]
  have loop : ∀ (j i : Nat) (h : Hp) (x : ScrV), i + j = 99 - q + 1 → CA h0 h s x → thdF (sT s) k m (sL s) j i = R → VB g K 5 d 8 64 (PrC h0 (.inl (R, s))) (PtC h0 s (.inl (R, s))) 2 12 29 [some (.ref 0), some (.int (nI k)), some (.int (nI m)), some (.int (nI (99 - q))), some (.int (nI i))] [] h := by
    intro j
    induction j with
    | zero =>
      intro i h x hi hC he
      refine b_X11_toHold_29 hg (by omega) (by omega) X _ _ _ _ _ _ ⟨fun _ => prC hC (by rw [← he]; rfl), fun z => absurd (nlt_nI (by omega) (by omega) z) (by omega)⟩
    | succ j ih =>
      intro i h x hi hC he
      refine b_X11_toHold_29 hg (by omega) (by omega) X _ _ _ _ _ _ ⟨fun z => absurd (lt_nI (by omega) (by omega) z) (by omega), fun _ => ⟨_, hC.g11, _, hC.g8, _, hC.m0, _, hC.tr.o, st_copy hg hC (by omega) (by omega) fun h1 x1 c1 _ e1 => ⟨_, c1.g11, _, c1.tr.g2, _, c1.tr.r2 (by omega), _, c1.tr.w2 (by omega), ?_⟩⟩⟩
      have c2 := c1.u_tr (sSm (xTr x1) k (lSm (xTr x1) k + nI i))
      have e2 : LEs s (xTr (uxTr x1 (sSm (xTr x1) k (lSm (xTr x1) k + nI i)))) (sSm (sL s) k (lSm (sL s) k + nI i)) := e1.uSm k (fun hj => by rw [e1.sm hj])
      refine ⟨_, c2.o, use_iP (c_staysClosed (d := d - 1) (m := m) hg (by omega) c2 hI.1 e2 hI.2.1 hk (by omega)) (by omega) (by omega) ?_⟩
      rintro r h3 ⟨hr, x3, c3⟩
      rw [hr]
      cases hz : scF (sT s) k m (sSm (sL s) k (lSm (sL s) k + nI i)) with
      | false =>
        refine ⟨fun _ => ?_, fun z => absurd rfl z⟩
        rw [nI_s]
        exact ih (i + 1) h3 x3 (by omega) c3 (by rw [← he, thdF, hz]; rfl)
      | true =>
        refine ⟨fun z => absurd z (by decide), fun _ => prC c3 ?_⟩
        rw [← he, thdF, hz]
        rfl
  exact loop (99 - q + 1) 0 h x (by omega) hC hR
abbrev opnB (n : Nat) (X : LandV) : Int32 := bitsF (fun k => lSm X k == 0) n
def tsG (T : ToldV) (L : LandV) (a n : Nat) (i : Nat) (p : Int32 × Int32) : Int32 × Int32 := if p.2 ≤ bcE (opnB (tN_ T) (daysT T n (sAt L a (nI i)))) then p else (nI i, bcE (opnB (tN_ T) (daysT T n (sAt L a (nI i)))))
def tsF (s : CoreV) (a n : Nat) : Int32 × Int32 := foldN (tsG (sT s) (sL s) a n) (sN s) 0 (0, 13)
def m_toSend (s : CoreV) (a n v : Int32) : Res := if inB (sW s) a then (if whB v 1 then (if dyB n 1 then .inl (if v = 0 then (tsF s (cl a) (cl n)).1 else (tsF s (cl a) (cl n)).2, s) else .inr false) else .inr true) else .inr true
theorem AtOK_sAt {n w k i : Nat} {L : LandV} (hA : AtOK n w L) (hi : i < n) : AtOK n w (sAt L k (nI i)) := by
  intro v hv
  by_cases e : v = k
  · subst e; exact ⟨i, hi, pk_us⟩
  · obtain ⟨j, h1, h2⟩ := hA v hv
    exact ⟨j, h1, by show upd (lAt L) k _ v = _; rw [pk_un e]; exact h2⟩
theorem x_toSend (hg : GOK g) (hd : 20 ≤ d) (hC : CA h0 h s x) (hI : IS s) (a n v : Int32) : CT g d yX11_toSend (wsC yX11_toSend cX11_toSend 8 (some .int)) [.ref 0, .int a, .int n, .int v] h 8 64 (PrC h0 (m_toSend s a n v)) (PtC h0 s (m_toSend s a n v)) := by
  have o1 := hI.1.1.2.2
  have o2 := hI.1.1.2.1
  refine CT_ofB (by decide +kernel) (Nat.le_of_ble_eq_true rfl) rfl fun K X => ?_
  refine b_X11_toSend_0 hg (by omega) (by omega) X _ _ _ _ _ ⟨_, hC.o, st_nW hg hC (by omega) (by omega) (fun q => ptC hC (by rw [m_toSend, q]; rfl)) fun q1 => st_wh hg (by omega) (by omega) (fun q => ptC hC (by rw [m_toSend, q1, q]; rfl)) fun q2 => st_dy hg (by omega) (by omega) (fun q => ptC hC (by rw [m_toSend, q1, q2, q]; rfl)) fun q3 => ?_⟩
  obtain ⟨ea, ha⟩ := inB_k (by show tW (sT s) < _; omega) q1
  obtain ⟨en, _, hn⟩ := dyB_k (m := 1) (by decide) q3
  have em : m_toSend s a n v = .inl (if v = 0 then (tsF s (cl a) (cl n)).1 else (tsF s (cl a) (cl n)).2, s) := by rw [m_toSend, if_pos q1, if_pos q2, if_pos q3]
  rw [em]
  generalize cl a = k at *
  generalize cl n = m at *
  rw [ea, en]
  have hk : k < tW (sT s) := ha
  generalize hR : tsF s k m = R
  have loop : ∀ (j i : Nat) (h : Hp) (x : ScrV) (p : Int32 × Int32), i + j = sN s → CA h0 h s x → foldN (tsG (sT s) (sL s) k m) j i p = R → VB g K 8 d 8 64 (PrC h0 (.inl (if v = 0 then R.1 else R.2, s))) (PtC h0 s (.inl (if v = 0 then R.1 else R.2, s))) 3 18 25 [some (.ref 0), some (.int (nI k)), some (.int (nI m)), some (.int v), some (.int p.1), some (.int p.2), some (.int (nI i)), none] [] h := by
    intro j
    induction j with
    | zero =>
      intro i h x p hi hC he
      have he' : p = R := he
      have hi2 : i + 0 = tN_ (sT s) := hi
      refine b_X11_toSend_25 hg (by omega) (by omega) X _ _ _ _ _ _ _ _ ⟨_, hC.g6, _, hC.t.g0, fun _ => ⟨fun z => prC hC (by rw [if_neg z, he']), fun z => prC hC (by rw [if_pos z, he'])⟩, fun q => absurd (nle_nI (x := tN_ (sT s)) (by omega) (by omega) q) (by omega)⟩
    | succ j ih =>
      intro i h x p hi hC he
      have hi2 : i < tN_ (sT s) := by have : i + (j + 1) = tN_ (sT s) := hi; omega
      refine b_X11_toSend_25 hg (by omega) (by omega) X _ _ _ _ _ _ _ _ ⟨_, hC.g6, _, hC.t.g0, fun q => absurd (le_nI (x := tN_ (sT s)) (by omega) (by omega) q) (by omega), fun _ => ⟨_, hC.g11, _, hC.g8, _, hC.m0, _, hC.tr.o, st_copy hg hC (by omega) (by omega) fun h1 x1 c1 _ e1 => ⟨_, c1.g11, _, c1.tr.g4, _, c1.tr.w4 (by omega), ?_⟩⟩⟩
      have c2 := c1.u_tr (sAt (xTr x1) k (nI i))
      have e2 : LEs s (xTr (uxTr x1 (sAt (xTr x1) k (nI i)))) (sAt (sL s) k (nI i)) := e1.uAt k (fun _ => rfl)
      refine ⟨_, c2.g11, _, c2.g6, _, c2.tr.o, st_days hg c2 hI.1 e2 (AtOK_sAt hI.2.1 hi2) (by omega) (by omega) (by omega) fun h3 x3 c3 _ e3 => ⟨_, c3.g11, _, c3.g6, _, c3.tr.o, use_i (c_openBits (d := d - 1) hg (by omega) c3.tr c3.t hI.1.1) (by omega) (by omega) (use_i (c_bitCount (d := d - 1) hg (by omega) _) (by omega) (by omega) ?_)⟩⟩
      have eo : bitsF (fun k => lSm (xTr x3) k == 0) (tN_ (tO s x3)) = opnB (tN_ (sT s)) (daysT (sT s) m (sAt (sL s) k (nI i))) := e3.opn
      rw [eo]
      refine ⟨fun z => ?_, fun z => ?_⟩
      · refine b_X11_toSend_105 hg (by omega) (by omega) X _ _ _ _ _ _ _ _ ?_
        rw [nI_s]
        refine ih (i + 1) h3 x3 p (by have := hi; omega) c3 ?_
        rw [foldN, tsG, if_pos z] at he
        exact he
      · refine b_X11_toSend_105 hg (by omega) (by omega) X _ _ _ _ _ _ _ _ ?_
        rw [nI_s]
        refine ih (i + 1) h3 x3 (nI i, bcE (opnB (tN_ (sT s)) (daysT (sT s) m (sAt (sL s) k (nI i))))) (by have := hi; omega) c3 ?_
        rw [foldN, tsG, if_neg z] at he
        exact he
  exact loop (sN s) 0 h x (0, 13) (by omega) hC hR
def bsG (T : ToldV) (L : LandV) (a n : Nat) (i : Nat) (p : Int32 × Int32) : Int32 × Int32 := if lSm (daysT T n (sSt L a (nI i))) a ≤ p.2 then p else (nI i, lSm (daysT T n (sSt L a (nI i))) a)
def bsF (s : CoreV) (a n : Nat) : Int32 × Int32 := foldN (bsG (sT s) (sL s) a n) 3 0 (0, -1)
def m_bestStitch (s : CoreV) (a n : Int32) : Res := if inB (sN s) a then (if dyB n 1 then .inl ((bsF s (cl a) (cl n)).1, s) else .inr false) else .inr true
theorem x_bestStitch (hg : GOK g) (hd : 20 ≤ d) (hC : CA h0 h s x) (hI : IS s) (a n : Int32) : CT g d yX11_bestStitch (wsC yX11_bestStitch cX11_bestStitch 6 (some .int)) [.ref 0, .int a, .int n] h 8 64 (PrC h0 (m_bestStitch s a n)) (PtC h0 s (m_bestStitch s a n)) := by
  have o2 := hI.1.1.2.1
  refine CT_ofB (by decide +kernel) (Nat.le_of_ble_eq_true rfl) rfl fun K X => ?_
  refine b_X11_bestStitch_0 hg (by omega) (by omega) X _ _ _ _ ⟨_, hC.o, st_nS hg hC (by omega) (by omega) (fun q => ptC hC (by rw [m_bestStitch, q]; rfl)) fun q1 => st_dy hg (by omega) (by omega) (fun q => ptC hC (by rw [m_bestStitch, q1, q]; rfl)) fun q3 => ?_⟩
  obtain ⟨ea, ha⟩ := inB_k (by show tN_ (sT s) < _; omega) q1
  obtain ⟨en, _, hn⟩ := dyB_k (m := 1) (by decide) q3
  have em : m_bestStitch s a n = .inl ((bsF s (cl a) (cl n)).1, s) := by rw [m_bestStitch, if_pos q1, if_pos q3]
  rw [em]
  generalize cl a = k at *
  generalize cl n = m at *
  rw [ea, en]
  have hk : k < tN_ (sT s) := ha
  generalize hR : bsF s k m = R
  have loop : ∀ (j i : Nat) (h : Hp) (x : ScrV) (p : Int32 × Int32), i + j = 3 → CA h0 h s x → foldN (bsG (sT s) (sL s) k m) j i p = R → VB g K 6 d 8 64 (PrC h0 (.inl (R.1, s))) (PtC h0 s (.inl (R.1, s))) 2 12 18 [some (.ref 0), some (.int (nI k)), some (.int (nI m)), some (.int p.1), some (.int p.2), some (.int (nI i))] [] h := by
    intro j
    induction j with
    | zero =>
      intro i h x p hi hC he
      have he' : p = R := he
      refine b_X11_bestStitch_18 hg (by omega) (by omega) X _ _ _ _ _ _ _ ⟨fun _ => prC hC (by rw [he']), fun z => absurd (nlt_nI (x := 2) (by omega) (by omega) z) (by omega)⟩
    | succ j ih =>
      intro i h x p hi hC he
      refine b_X11_bestStitch_18 hg (by omega) (by omega) X _ _ _ _ _ _ _ ⟨fun z => absurd (lt_nI (x := 2) (by omega) (by omega) z) (by omega), fun _ => ⟨_, hC.g11, _, hC.g8, _, hC.m0, _, hC.tr.o, st_copy hg hC (by omega) (by omega) fun h1 x1 c1 _ e1 => ⟨_, c1.g11, _, c1.tr.g3, _, c1.tr.w3 (by omega), ?_⟩⟩⟩
      have c2 := c1.u_tr (sSt (xTr x1) k (nI i))
      have e2 : LEs s (xTr (uxTr x1 (sSt (xTr x1) k (nI i)))) (sSt (sL s) k (nI i)) := e1.uSt k (fun _ => rfl)
      refine ⟨_, c2.g11, _, c2.g6, _, c2.tr.o, st_days hg c2 hI.1 e2 hI.2.1 (by omega) (by omega) (by omega) fun h3 x3 c3 _ e3 => ⟨_, c3.g11, _, c3.tr.g2, _, c3.tr.r2 (by omega), ?_⟩⟩
      rw [e3.sm hk]
      refine ⟨fun z => ?_, fun z => ⟨_, c3.g11, _, c3.tr.g2, _, c3.tr.r2 (by omega), ?_⟩⟩
      · refine b_X11_bestStitch_89 hg (by omega) (by omega) X _ _ _ _ _ _ _ ?_
        rw [nI_s]
        refine ih (i + 1) h3 x3 p (by omega) c3 ?_
        rw [foldN, bsG, if_pos z] at he
        exact he
      · rw [e3.sm hk]
        refine b_X11_bestStitch_89 hg (by omega) (by omega) X _ _ _ _ _ _ _ ?_
        rw [nI_s]
        refine ih (i + 1) h3 x3 (nI i, lSm (daysT (sT s) m (sSt (sL s) k (nI i))) k) (by omega) c3 ?_
        rw [foldN, bsG, if_neg z] at he
        exact he
  exact loop 3 0 h x (0, -1) (by omega) hC hR
theorem AtOK_tear {n w k : Nat} {L : LandV} {v : Int32} (hA : AtOK n w L) : AtOK n w (tearL n L k v) := by
  unfold tearL
  split
  · exact hA
  · exact AtOK_wearL hA
theorem st_tear {a : Nat} {v : Int32} {Y : LandV} {Z : Nat → Nat → Hp → Prop} (hg : GOK g) (hC : CA h0 h s x) (hI : TG (sT s)) (hX : LEs s (xTr x) Y) (ha : a < tN_ (sT s)) (hd : 13 ≤ D) (hk : kc ≤ mc ∧ ks ≤ ms) (hz : ∀ h' x', CA h0 h' s x' → xSd x' = xSd x → LEs s (xTr x') (tearL (sN s) Y a v) → Z 0 0 h') :
    ∃ d1 P1 E1 m1 n1, CT g d1 yX2_tearOff (wsC yX2_tearOff cX2_tearOff 4 none) [.ref 54, .ref (tb s), .int (nI a), .int v] h m1 n1 P1 E1 ∧ (d1 + 1 ≤ D ∧ kc + m1 ≤ mc ∧ ks + n1 ≤ ms) ∧ (∀ E h', E1 E h' → Pt E h') ∧ (∀ v h1, P1 v h1 → v = none ∧ Z m1 n1 h1) :=
  use_v (c_tearOff (d := D - 1) hg (by omega) hC.tr hC.t hI.1 (by have := tb_or s; omega) ha v) (by omega) hk (fun h' q => by rw [q]; exact hz _ _ (hC.u_tr _) rfl (hX.tear ha v))
def woG (T : ToldV) (L : LandV) (v : Int32) (i : Nat) (p : Int32 × Int32) : Int32 × Int32 := if lSm L i = 0 then p else if bcE (opnB (tN_ T) (daysT T 7 (tearL (tN_ T) L i v))) ≤ p.2 then p else (nI i, bcE (opnB (tN_ T) (daysT T 7 (tearL (tN_ T) L i v))))
def woF (s : CoreV) (v : Int32) : Int32 × Int32 := foldN (woG (sT s) (sL s) v) (sN s) 0 (-1, -1)
def m_worst (s : CoreV) (v : Int32) : Res := if v < 1 then .inr false else if v ≤ 50 then .inl ((woF s v).1, s) else .inr false
theorem x_worst (hg : GOK g) (hd : 20 ≤ d) (hC : CA h0 h s x) (hI : IS s) (v : Int32) : CT g d yX11_worst (wsC yX11_worst cX11_worst 6 (some .int)) [.ref 0, .int v] h 8 64 (PrC h0 (m_worst s v)) (PtC h0 s (m_worst s v)) := by
  have o2 := hI.1.1.2.1
  refine CT_ofB (by decide +kernel) (Nat.le_of_ble_eq_true rfl) rfl fun K X => ?_
  refine b_X11_worst_0 hg (by omega) (by omega) X _ _ _ ⟨fun y => b_X11_worst_11 hg (by omega) (by omega) X _ ⟨by omega, ptI hC (by rw [m_worst, if_pos y])⟩, fun y => ⟨fun z => ?_, fun z => b_X11_worst_11 hg (by omega) (by omega) X _ ⟨by omega, ptI hC (by rw [m_worst, if_neg y, if_neg z])⟩⟩⟩
  have em : m_worst s v = .inl ((woF s v).1, s) := by rw [m_worst, if_neg y, if_pos z]
  rw [em]
  generalize hR : woF s v = R
  have loop : ∀ (j i : Nat) (h : Hp) (x : ScrV) (p : Int32 × Int32), i + j = sN s → CA h0 h s x → foldN (woG (sT s) (sL s) v) j i p = R → VB g K 6 d 8 64 (PrC h0 (.inl (R.1, s))) (PtC h0 s (.inl (R.1, s))) 0 0 29 [some (.ref 0), some (.int v), some (.int p.1), some (.int p.2), some (.int (nI i)), none] [] h := by
    intro j
    induction j with
    | zero =>
      intro i h x p hi hC he
      have he' : p = R := he
      have hi2 : i + 0 = tN_ (sT s) := hi
      refine b_X11_worst_29 hg (by omega) (by omega) X _ _ _ _ _ _ ⟨_, hC.g6, _, hC.t.g0, fun _ => prC hC (by rw [he']), fun q => absurd (nle_nI (x := tN_ (sT s)) (by omega) (by omega) q) (by omega)⟩
    | succ j ih =>
      intro i h x p hi hC he
      have hi2 : i < tN_ (sT s) := by have : i + (j + 1) = tN_ (sT s) := hi; omega
      refine b_X11_worst_29 hg (by omega) (by omega) X _ _ _ _ _ _ ⟨_, hC.g6, _, hC.t.g0, fun q => absurd (le_nI (x := tN_ (sT s)) (by omega) (by omega) q) (by omega), fun _ => ⟨_, hC.g8, _, hC.m0, _, hC.l.o, use_i (c_isOpen (d := d - 1) hg (by omega) hC.l (k := i) (by omega)) (by omega) (by omega) ⟨fun u => ?_, fun u => ?_⟩⟩⟩
      · have u' : lSm (sL s) i = 0 := Classical.byContradiction fun e => by rw [if_neg e] at u; exact u rfl
        refine b_X11_worst_125 hg (by omega) (by omega) X _ _ _ _ _ _ ?_
        rw [nI_s]
        refine ih (i + 1) h x p (by omega) hC ?_
        rw [foldN, woG, if_pos u'] at he
        exact he
      · have u' : ¬ lSm (sL s) i = 0 := fun e => by rw [if_pos e] at u; exact absurd u (by decide)
        refine ⟨_, hC.g11, _, hC.g8, _, hC.m0, _, hC.tr.o, st_copy hg hC (by omega) (by omega) fun h1 x1 c1 _ e1 => ⟨_, c1.g11, _, c1.g6, _, c1.tr.o, st_tear hg c1 hI.1 e1 hi2 (by omega) (by omega) fun h2 x2 c2 _ e2 => ⟨_, c2.g11, _, c2.g6, _, c2.tr.o, st_days (m := 7) hg c2 hI.1 e2 (AtOK_tear hI.2.1) (by omega) (by omega) (by omega) fun h3 x3 c3 _ e3 => ⟨_, c3.g11, _, c3.g6, _, c3.tr.o, use_i (c_openBits (d := d - 1) hg (by omega) c3.tr c3.t hI.1.1) (by omega) (by omega) (use_i (c_bitCount (d := d - 1) hg (by omega) _) (by omega) (by omega) ?_)⟩⟩⟩⟩
        have eo : bitsF (fun k => lSm (xTr x3) k == 0) (tN_ (tO s x3)) = opnB (tN_ (sT s)) (daysT (sT s) 7 (tearL (tN_ (sT s)) (sL s) i v)) := e3.opn
        rw [eo]
        refine ⟨fun w => ?_, fun w => ?_⟩
        · refine b_X11_worst_125 hg (by omega) (by omega) X _ _ _ _ _ _ ?_
          rw [nI_s]
          refine ih (i + 1) h3 x3 p (by omega) c3 ?_
          rw [foldN, woG, if_neg u', if_pos w] at he
          exact he
        · refine b_X11_worst_125 hg (by omega) (by omega) X _ _ _ _ _ _ ?_
          rw [nI_s]
          refine ih (i + 1) h3 x3 (nI i, bcE (opnB (tN_ (sT s)) (daysT (sT s) 7 (tearL (tN_ (sT s)) (sL s) i v)))) (by omega) c3 ?_
          rw [foldN, woG, if_neg u', if_neg w] at he
          exact he
  exact loop (sN s) 0 h x (-1, -1) (by omega) hC hR
end TD
