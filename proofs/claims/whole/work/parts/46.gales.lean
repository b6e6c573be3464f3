/-! HorizonSeam: gales, a game, years -/
section GL
variable {g : GG} {h0 h : Hp} {s : CoreV} {x : ScrV} {d D kc ks mc ms : Nat} {Pt : String → Hp → Prop}
def wtG (v t : Int32) (i : Nat) (p : Int32) : Int32 := p * (if bitE v i = 1 then t else 10 - t)
def wtF (v t : Int32) (n : Nat) : Int32 := foldN (wtG v t) n 0 1
theorem c_weightOf {n : Nat} (hg : GOK g) (hd : 8 ≤ d) (v t : Int32) (hn : n < 100) : CT g d yX11_weightOf (wsC yX11_weightOf cX11_weightOf 5 (some .int)) [.int v, .int (nI n), .int t] h 0 0 (fun r h2 => r = some (.int (wtF v t n)) ∧ h2 = h) noT := by
  refine CT_ofB (by decide +kernel) (Nat.le_of_ble_eq_true rfl) rfl fun K X => ?_
  refine b_X11_weightOf_0 hg hd k00 X _ _ _ _ ?_
  have loop : ∀ (j i : Nat) (p : Int32), i + j = n → foldN (wtG v t) j i p = wtF v t n → VB g K 5 d 0 0 (fun r h2 => r = some (.int (wtF v t n)) ∧ h2 = h) noT 0 0 5 [some (.int v), some (.int (nI n)), some (.int t), some (.int p), some (.int (nI i))] [] h := by
    intro j
    induction j with
    | zero =>
      intro i p hi he
      exact b_X11_weightOf_5 hg hd k00 X _ _ _ _ _ _ ⟨fun _ => ⟨by rw [← he]; rfl, rfl⟩, fun q => absurd (nle_nI (by omega) (by omega) q) (by omega)⟩
    | succ j ih =>
      intro i p hi he
      refine b_X11_weightOf_5 hg hd k00 X _ _ _ _ _ _ ⟨fun q => absurd (le_nI (by omega) (by omega) q) (by omega), fun _ => ⟨fun z => ?_, fun z => ?_⟩⟩
      · refine b_X11_weightOf_30 hg hd k00 X _ _ _ _ _ _ _ ?_
        rw [nI_s]
        refine ih (i + 1) _ (by omega) ?_
        rw [foldN, wtG, bitE, if_neg z] at he
        exact he
      · refine b_X11_weightOf_30 hg hd k00 X _ _ _ _ _ _ _ ?_
        rw [nI_s]
        refine ih (i + 1) _ (by omega) ?_
        rw [foldN, wtG, bitE, if_pos z] at he
        exact he
  exact loop n 0 1 (by omega) rfl
theorem AtOK_sif {n w k : Nat} {L : LandV} {v : Int32} (hA : AtOK n w L) : AtOK n w (sifC L k v) := by
  unfold sifC
  split
  · exact hA
  · exact hA
theorem AtOK_gale {n w : Nat} : ∀ (j k : Nat) (L : LandV), AtOK n w L → AtOK n w (galeFrom j k L) := by
  intro j
  induction j with
  | zero => intro k L hA; exact hA
  | succ j ih => intro k L hA; exact ih _ _ (AtOK_sif hA)
def blG (T : ToldV) (v : Int32) (i : Nat) (X : LandV) : LandV := dayT T (if bitE v i = 1 then galeFrom (tN_ T) 0 X else X)
def blF (T : ToldV) (v : Int32) (n : Nat) (L : LandV) : LandV := foldN (blG T v) n 0 L
theorem c_blow {n : Nat} (hg : GOK g) (hd : 16 ≤ d) (hC : CA h0 h s x) (hI : IS s) (v : Int32) (hn : n < 100) : CT g d yX11_blow (wsC yX11_blow cX11_blow 4 none) [.ref 0, .int v, .int (nI n)] h 0 0 (fun r h2 => r = none ∧ ∃ x', CA h0 h2 s x' ∧ LEs s (xTr x') (blF (sT s) v n (sL s))) noT := by
  have o1 := hI.1.1.1
  refine CT_ofB (by decide +kernel) (Nat.le_of_ble_eq_true rfl) rfl fun K X => ?_
  have loop : ∀ (j i : Nat) (h : Hp) (x : ScrV) (Y : LandV), i + j = n → CA h0 h s x → LEs s (xTr x) Y → AtOK (sN s) (sW s) Y → foldN (blG (sT s) v) j i Y = blF (sT s) v n (sL s) → VB g K 4 d 0 0 (fun r h2 => r = none ∧ ∃ x', CA h0 h2 s x' ∧ LEs s (xTr x') (blF (sT s) v n (sL s))) noT 0 0 16 [some (.ref 0), some (.int v), some (.int (nI n)), some (.int (nI i))] [] h := by
    intro j
    induction j with
    | zero =>
      intro i h x Y hi hC hX hA he
      have he' : Y = blF (sT s) v n (sL s) := he
      exact b_X11_blow_16 hg (by omega) k00 X _ _ _ _ _ ⟨fun _ => ⟨rfl, x, hC, by rw [← he']; exact hX⟩, fun q => absurd (nle_nI (by omega) (by omega) q) (by omega)⟩
    | succ j ih =>
      intro i h x Y hi hC hX hA he
      have nxt : ∀ (h : Hp) (x : ScrV) (Y' : LandV), CA h0 h s x → LEs s (xTr x) Y' → AtOK (sN s) (sW s) Y' → (if bitE v i = 1 then galeFrom (tN_ (sT s)) 0 Y else Y) = Y' → VB g K 4 d 0 0 (fun r h2 => r = none ∧ ∃ x', CA h0 h2 s x' ∧ LEs s (xTr x') (blF (sT s) v n (sL s))) noT 0 0 41 [some (.ref 0), some (.int v), some (.int (nI n)), some (.int (nI i))] [] h := by
        intro h x Y' hC hX hA hy
        refine b_X11_blow_41 hg (by omega) k00 X _ _ _ _ _ ⟨_, hC.g11, _, hC.g6, _, hC.tr.o, st_day hg hC hI.1 hX hA (by omega) k00 fun h1 x1 c1 _ _ e1 => ?_⟩
        rw [nI_s]
        refine ih (i + 1) h1 x1 _ (by omega) c1 e1 (AtOK_dayT (by omega) hA) ?_
        rw [foldN, blG, hy] at he
        exact he
      refine b_X11_blow_16 hg (by omega) k00 X _ _ _ _ _ ⟨fun q => absurd (le_nI (by omega) (by omega) q) (by omega), fun _ => ⟨fun z => nxt h x Y hC hX hA (if_neg z), fun z => ⟨_, hC.g11, _, hC.g6, _, hC.tr.o, use_v (c_gale (d := d - 1) hg (by omega) hC.tr hC.t hI.1.1 (by have := tb_or s; omega)) (by omega) k00 ?_⟩⟩⟩
      intro h2 q2
      rw [q2]
      have z' : bitE v i = 1 := z
      exact nxt _ _ _ (hC.u_tr _) (LE.gale 15 _ 0 _ _ (by show 0 + tN_ (sT s) ≤ tN_ (sT s); omega) hX) (AtOK_gale _ _ _ hA) (if_pos z')
  refine b_X11_blow_0 hg (by omega) k00 X _ _ _ _ ⟨_, hC.g11, _, hC.g8, _, hC.m0, _, hC.tr.o, st_copy hg hC (by omega) k00 fun h1 x1 c1 _ e1 => ?_⟩
  exact loop n 0 h1 x1 _ (by omega) c1 e1 hI.2.1 rfl
def glG (T : ToldV) (L : LandV) (t : Int32) (n : Nat) (c : Int32) (i : Nat) (p : Int32) : Int32 := if wtF (nI i) t n ≤ 0 then p else if opnB (tN_ T) (blF T (nI i) n L) &&& c = 0 then p else p + wtF (nI i) t n
def glF (s : CoreV) (t : Int32) (n : Nat) : Int32 := foldN (glG (sT s) (sL s) t n (opnB (sN s) (sL s) ^^^ (-1))) (2 ^ n) 0 0
def m_gales (s : CoreV) (n t : Int32) : Res := if n < 1 then .inr false else if 5 < n then .inr false else if t < 0 then .inr false else if t ≤ 10 then .inl (glF s t (cl n), s) else .inr false
theorem shl_nI {n : Nat} (hn : n ≤ 30) : (1 : Int32) <<< (nI n &&& 31) = nI (2 ^ n) := by
  have : ∀ n : Fin 31, (1 : Int32) <<< (nI n.1 &&& 31) = nI (2 ^ n.1) := by decide +kernel
  exact this ⟨n, by omega⟩
theorem x_gales (hg : GOK g) (hd : 20 ≤ d) (hC : CA h0 h s x) (hI : IS s) (n t : Int32) : CT g d yX11_gales (wsC yX11_gales cX11_gales 7 (some .int)) [.ref 0, .int n, .int t] h 8 64 (PrC h0 (m_gales s n t)) (PtC h0 s (m_gales s n t)) := by
  refine CT_ofB (by decide +kernel) (Nat.le_of_ble_eq_true rfl) rfl fun K X => ?_
  refine b_X11_gales_0 hg (by omega) (by omega) X _ _ _ _ ⟨fun y => b_X11_gales_20 hg (by omega) (by omega) X _ ⟨by omega, ptI hC (by rw [m_gales, if_pos y])⟩, fun y => ⟨fun z => b_X11_gales_20 hg (by omega) (by omega) X _ ⟨by omega, ptI hC (by rw [m_gales, if_neg y, if_pos z])⟩, fun z => ⟨fun u => b_X11_gales_20 hg (by omega) (by omega) X _ ⟨by omega, ptI hC (by rw [m_gales, if_neg y, if_neg z, if_pos u])⟩, fun u => ⟨fun w => ⟨_, hC.g8, _, hC.m0, _, hC.g6, _, hC.l.o, use_i (c_openBits (d := d - 1) hg (by omega) hC.l hC.t hI.1.1) (by omega) (by omega) ?_⟩, fun w => b_X11_gales_20 hg (by omega) (by omega) X _ ⟨by omega, ptI hC (by rw [m_gales, if_neg y, if_neg z, if_neg u, if_neg w])⟩⟩⟩⟩⟩
  have em : m_gales s n t = .inl (glF s t (cl n), s) := by rw [m_gales, if_neg y, if_neg z, if_neg u, if_pos w]
  have q0 : ¬ n < 0 := fun e => y (Int32.lt_trans e (by decide))
  have ev := nI_cl q0
  have hm : cl n ≤ 5 := by
    have z2 : n ≤ 5 := Int32.not_lt.mp z
    rw [ev, show (5 : Int32) = nI 5 from rfl] at z2
    exact (nI_leI (cl_lt n) (by decide)).mp z2
  rw [em]
  generalize cl n = m at *
  rw [ev]
  have ec : bitsF (fun k => lSm (sL s) k == 0) (tN_ (tO s x)) ^^^ (-1) = opnB (sN s) (sL s) ^^^ (-1) := rfl
  rw [ec]
  generalize hc : opnB (sN s) (sL s) ^^^ (-1) = c
  have hR0 : glF s t m = foldN (glG (sT s) (sL s) t m c) (2 ^ m) 0 0 := by rw [glF, hc]
  generalize hR : glF s t m = R
  rw [hR] at hR0
  have h32 : 2 ^ m ≤ 32 := by
    have : ∀ k : Fin 6, 2 ^ k.1 ≤ 32 := by decide
    exact this ⟨m, by omega⟩
  generalize hM : 2 ^ m = M at *
  have loop : ∀ (j i : Nat) (h : Hp) (x : ScrV) (p : Int32), i + j = M → CA h0 h s x → foldN (glG (sT s) (sL s) t m c) j i p = R → VB g K 7 d 8 64 (PrC h0 (.inl (R, s))) (PtC h0 s (.inl (R, s))) 0 0 54 [some (.ref 0), some (.int (nI m)), some (.int t), some (.int c), some (.int p), some (.int (nI i)), none] [] h := by
    intro j
    induction j with
    | zero =>
      intro i h x p hi hC he
      have he' : p = R := he
      refine b_X11_gales_54 hg (by omega) (by omega) X _ _ _ _ _ _ _ ⟨fun _ => prC hC (by rw [he']), fun q => absurd ?_ q⟩
      rw [shl_nI (by omega), hM]
      exact nI_le (by omega) (by omega)
    | succ j ih =>
      intro i h x p hi hC he
      have nxt : ∀ (h : Hp) (x : ScrV) (p' : Int32), CA h0 h s x → glG (sT s) (sL s) t m c i p = p' → VB g K 7 d 8 64 (PrC h0 (.inl (R, s))) (PtC h0 s (.inl (R, s))) 0 0 106 [some (.ref 0), some (.int (nI m)), some (.int t), some (.int c), some (.int p'), some (.int (nI i)), none] [] h := by
        intro h x p' hC hp
        refine b_X11_gales_106 hg (by omega) (by omega) X _ _ _ _ _ _ _ ?_
        rw [nI_s]
        exact ih (i + 1) h x p' (by omega) hC (by rw [← he, foldN, hp])
      refine b_X11_gales_54 hg (by omega) (by omega) X _ _ _ _ _ _ _ ⟨fun q => ?_, fun _ => use_i (c_weightOf (d := d - 1) (n := m) hg (by omega) (nI i) t (by omega)) (by omega) (by omega) ⟨fun q => nxt h x p hC (by rw [glG, if_pos q]), fun q => ⟨_, hC.o, use_v (c_blow (d := d - 1) (n := m) hg (by omega) hC hI (nI i) (by omega)) (by omega) (by omega) ?_⟩⟩⟩
      · rw [shl_nI (by omega), hM] at q
        exact absurd (le_nI (by omega) (by omega) q) (by omega)
      · rintro h2 ⟨x2, c2, e2⟩
        refine ⟨_, c2.g11, _, c2.g6, _, c2.tr.o, use_i (c_openBits (d := d - 1) hg (by omega) c2.tr c2.t hI.1.1) (by omega) (by omega) ?_⟩
        have eo : bitsF (fun k => lSm (xTr x2) k == 0) (tN_ (tO s x2)) = opnB (tN_ (sT s)) (blF (sT s) (nI i) m (sL s)) := e2.opn
        rw [eo]
        exact ⟨fun r => nxt h2 x2 p c2 (by rw [glG, if_neg q, if_pos r]), fun r => nxt h2 x2 _ c2 (by rw [glG, if_neg q, if_neg r])⟩
  exact loop M 0 h x 0 (by omega) hC hR0.symm
/-! the game -/
def plL (T : ToldV) (X : LandV) (k : Nat) (c : Int32) : LandV := mendL (tSk T) (if c = 1 then goL (tN_ T) X k else X) k
theorem AtOK_pl {T : ToldV} {X : LandV} {k : Nat} {c : Int32} (h0 : 0 < tN_ T) (hA : AtOK (tN_ T) (tW T) X) : AtOK (tN_ T) (tW T) (plL T X k c) := by
  unfold plL
  refine AtOK_mend ?_
  split
  · exact AtOK_go h0 hA
  · exact hA
theorem c_play {k : Nat} {Y : LandV} (hg : GOK g) (hd : 10 ≤ d) (hC : CA h0 h s x) (hI : IS s) (hX : LEs s (xTr x) Y) (hA : AtOK (sN s) (sW s) Y) (hk : k < tW (sT s)) (c : Int32) : CT g d yX11_play (wsC yX11_play cX11_play 3 none) [.ref 0, .int (nI k), .int c] h 0 0 (fun r h2 => r = none ∧ ∃ x', CA h0 h2 s x' ∧ xGa x' = xGa x ∧ LEs s (xTr x') (plL (sT s) Y k c)) noT := by
  have o1 := hI.1.1.1
  have o2 := hI.1.1.2.1
  have o3 := hI.1.1.2.2
  refine CT_ofB (by decide +kernel) (Nat.le_of_ble_eq_true rfl) rfl fun K X => ?_
  have hk' : k < sW s := hk
  have fin : ∀ (h : Hp) (x1 : ScrV) (Y1 : LandV), CA h0 h s x1 → xGa x1 = xGa x → LEs s (xTr x1) Y1 → AtOK (sN s) (sW s) Y1 → (if c = 1 then goL (tN_ (sT s)) Y k else Y) = Y1 → VB g K 3 d 0 0 (fun r h2 => r = none ∧ ∃ x', CA h0 h2 s x' ∧ xGa x' = xGa x ∧ LEs s (xTr x') (plL (sT s) Y k c)) noT 0 0 17 [some (.ref 0), some (.int (nI k)), none] [] h := by
    intro h x1 Y1 hC hg1 hX hA hy
    obtain ⟨j, hj, ej⟩ := (hX.symm.aok hA) k hk'
    have hj' : j < tN_ (sT s) := hj
    refine b_X11_play_17 hg (by omega) k00 X _ _ _ ⟨_, hC.g11, _, hC.g6, _, hC.tr.o, use_v (c_mendBy (d := d - 1) hg (by omega) hC.tr hC.t (by have := tb_or s; omega) (w := k) (by omega) (j := j) (by omega) ej) (by omega) k00 ?_⟩
    intro h2 q2
    rw [q2]
    refine ⟨rfl, _, hC.u_tr _, hg1, ?_⟩
    rw [plL, hy]
    exact hX.mend hk' rfl
  refine b_X11_play_0 hg (by omega) k00 X _ _ _ _ ⟨fun z => fin h x Y hC rfl hX hA (if_neg z), fun z => ?_⟩
  obtain ⟨j, hj, ej⟩ := (hX.symm.aok hA) k hk'
  have hj' : j < tN_ (sT s) := hj
  refine ⟨_, hC.g11, _, hC.g6, _, hC.tr.o, use_v (c_goOn (d := d - 1) hg (by omega) hC.tr hC.t hI.1.1 (w := k) (by omega) (j := j) (by omega) ej) (by omega) k00 ?_⟩
  intro h2 q2
  rw [q2]
  exact fin _ _ _ (hC.u_tr _) rfl (hX.go hk') (AtOK_go (by show 0 < tN_ (sT s); omega) hA) (if_pos z)
theorem c_seamThen {k : Nat} {Y : LandV} (hg : GOK g) (hd : 10 ≤ d) (hC : CA h0 h s x) (hI : IS s) (hX : LEs s (xTr x) Y) (hk : k < tW (sT s)) : CT g d yX11_seamThen (wsC yX11_seamThen cX11_seamThen 3 (some .int)) [.ref 0, .int (nI k)] h 0 0 (fun r h2 => r = some (.int (lSm Y (cl (lAt (sL s) k)))) ∧ h2 = h) noT := by
  have o2 := hI.1.1.2.1
  have o3 := hI.1.1.2.2
  obtain ⟨j, hj, ej⟩ := hI.2.1 k hk
  refine CT_ofB (by decide +kernel) (Nat.le_of_ble_eq_true rfl) rfl fun K X => ?_
  have e : cl (lAt (sL s) k) = j := by rw [ej]; exact nI_clamp (by omega)
  have eb : inB (sN s) (nI j) = true := by
    have h1 : ¬ nI j < 0 := nI_pos (by omega)
    have h2 : nI j < nI (sN s) := (nI_ltI (by omega) (by show tN_ (sT s) < _; omega)).mpr hj
    simp [inB, h1, h2]
  rw [e]
  refine b_X11_seamThen_0 hg (by omega) k00 X _ _ _ ⟨_, hC.g8, _, hC.m0, _, hC.l.g4, _, hC.l.r4 (by omega), ?_⟩
  rw [ej]
  refine ⟨_, hC.o, use_i (c_isStretch (d := d - 1) hg (by omega) hC (nI j)) (by omega) k00 ?_⟩
  rw [eb]
  exact ⟨fun z => absurd z (by decide), fun _ => ⟨_, hC.g11, _, hC.tr.g2, _, hC.tr.r2 (by omega), by rw [hX.sm hj], rfl⟩⟩
def plX (s : CoreV) (a b : Nat) (c : Nat) : LandV := daysT (sT s) 5 (plL (sT s) (plL (sT s) (sL s) a (nI c >>> ((1 : Int32) &&& 31))) b (nI c &&& 1))
def gnA (s : CoreV) (a b c : Nat) : Int32 := lSm (plX s a b c) (cl (lAt (sL s) a)) / 10 - (nI c >>> ((1 : Int32) &&& 31))
def gnB (s : CoreV) (a b c : Nat) : Int32 := lSm (plX s a b c) (cl (lAt (sL s) b)) / 10 - (nI c &&& 1)
theorem ga_w {k : Nat} {v : Int32} (hC : CA h0 h s x) (hk : k < 8) : uI h 0 82 (nI k) v = some (putC h 82 (arrC 8 (upd (xGa x) k v))) := by
  rw [uI_of (aF_of (hC.ga 0 _ rfl)) hk (by omega), show h.set 82 = h.set (82 + 0) from rfl, hC.ga.set (j := 0) (by simp [arrC])]
  rfl
theorem ga_r {k : Nat} (hC : CA h0 h s x) (hk : k < 8) : aI h 0 82 (nI k) = some (xGa x k) := aI_of (aF_of (hC.ga 0 _ rfl)) hk (by omega)
theorem nI_2 (c : Nat) : 2 * nI c = nI (2 * c) := by rw [show (2 : Int32) = nI 2 from rfl, pk_mul]
theorem c_playCouple {a b c : Nat} (hg : GOK g) (hd : 17 ≤ d) (hC : CA h0 h s x) (hI : IS s) (ha : a < tW (sT s)) (hb : b < tW (sT s)) (hc : c < 4) : CT g d yX11_playCouple (wsC yX11_playCouple cX11_playCouple 6 none) [.ref 0, .int (nI a), .int (nI b), .int (nI c)] h 0 0 (fun r h2 => r = none ∧ ∃ x', CA h0 h2 s x' ∧ xGa x' = upd (upd (xGa x) (2 * c) (gnA s a b c)) (2 * c + 1) (gnB s a b c)) noT := by
  have o1 := hI.1.1.1
  refine CT_ofB (by decide +kernel) (Nat.le_of_ble_eq_true rfl) rfl fun K X => ?_
  refine b_X11_playCouple_0 hg (by omega) k00 X _ _ _ _ _ ⟨_, hC.g11, _, hC.g8, _, hC.m0, _, hC.tr.o, use_v (c_copyFrom (d := d - 1) hg (by omega) hC.tr hC.l (by omega)) (by omega) k00 ?_⟩
  intro h1 q1
  rw [q1]
  have c1 := hC.u_tr (cpyL (xTr x) (sL s))
  have e1 : LEs s (xTr (uxTr x (cpyL (xTr x) (sL s)))) (sL s) := LE.cpy _ _ _ _
  refine ⟨_, c1.o, use_v (c_play (d := d - 1) hg (by omega) c1 hI e1 hI.2.1 ha _) (by omega) k00 ?_⟩
  rintro h2 ⟨x2, c2, g2, e2⟩
  have A2 : AtOK (sN s) (sW s) (plL (sT s) (sL s) a (nI c >>> ((1 : Int32) &&& 31))) := AtOK_pl (by omega) hI.2.1
  refine ⟨_, c2.o, use_v (c_play (d := d - 1) hg (by omega) c2 hI e2 A2 hb _) (by omega) k00 ?_⟩
  rintro h3 ⟨x3, c3, g3, e3⟩
  refine ⟨_, c3.g11, _, c3.g6, _, c3.tr.o, use_v (c_passDays (d := d - 1) (m := 5) hg (by omega) c3.tr c3.t hI.1.1 hI.1.2.1 hI.1.2.2 (e3.symm.aok (AtOK_pl (by omega) A2)) (by have := tb_or s; omega) (by omega)) (by omega) k00 ?_⟩
  rintro h4 ⟨f, q4⟩
  rw [q4]
  have c4 := (c3.u_t (f, (xK x3).2)).u_tr (daysL (tO s x3) (tF0 (sT s)) (tF1 (sT s)) (tP0 (sT s)) (tP1 (sT s)) 5 (xTr x3))
  have e4 : LEs s (daysL (tO s x3) (tF0 (sT s)) (tF1 (sT s)) (tP0 (sT s)) (tP1 (sT s)) 5 (xTr x3)) (plX s a b c) := by
    rw [daysL_O]
    exact e3.dsT hI.1.1.2.1 5
  generalize hX4 : uxTr (uxK x3 (f, (xK x3).2)) (daysL (tO s x3) (tF0 (sT s)) (tF1 (sT s)) (tP0 (sT s)) (tP1 (sT s)) 5 (xTr x3)) = x4 at c4
  have e4' : LEs s (xTr x4) (plX s a b c) := by rw [← hX4]; exact e4
  have g4 : xGa x4 = xGa x := by rw [← hX4]; exact g3.trans g2
  refine ⟨_, c4.g16, _, c4.o, use_i (c_seamThen (d := d - 1) hg (by omega) c4 hI e4' ha) (by omega) k00 ?_⟩
  rw [nI_2]
  have c5 := c4.u_ga (upd (xGa x4) (2 * c) (gnA s a b c))
  refine ⟨_, ga_w c4 (by omega), _, c5.g16, _, c5.o, use_i (c_seamThen (d := d - 1) hg (by omega) c5 hI e4' hb) (by omega) k00 ?_⟩
  rw [nI_s]
  refine ⟨_, ga_w c5 (by omega), rfl, _, c5.u_ga _, ?_⟩
  show upd (upd (xGa x4) _ _) _ _ = _
  rw [g4]
  rfl
def rsB (s : CoreV) (a b c : Nat) : Bool := !decide (gnA s a b c < gnA s a b (c ^^^ 2)) && !decide (gnB s a b c < gnB s a b (c ^^^ 1))
theorem c_rests {a b c : Nat} (hg : GOK g) (hd : 8 ≤ d) (hC : CA h0 h s x) (hc : c < 4) (hG : ∀ i, i < 4 → xGa x (2 * i) = gnA s a b i ∧ xGa x (2 * i + 1) = gnB s a b i) : CT g d yX11_rests (wsC yX11_rests cX11_rests 4 (some .boolean)) [.ref 0, .int (nI c)] h 0 0 (fun r h2 => r = some (.int (if rsB s a b c then 1 else 0)) ∧ h2 = h) noT := by
  refine CT_ofB (by decide +kernel) (Nat.le_of_ble_eq_true rfl) rfl fun K X => ?_
  have x2 : c ^^^ 2 < 4 := Nat.xor_lt_two_pow (n := 2) hc (by omega)
  have x1 : c ^^^ 1 < 4 := Nat.xor_lt_two_pow (n := 2) hc (by omega)
  have n2 : nI c ^^^ 2 = nI (c ^^^ 2) := by
    have : ∀ c : Fin 4, nI c.1 ^^^ 2 = nI (c.1 ^^^ 2) := by decide +kernel
    exact this ⟨c, hc⟩
  have n1 : nI c ^^^ 1 = nI (c ^^^ 1) := by
    have : ∀ c : Fin 4, nI c.1 ^^^ 1 = nI (c.1 ^^^ 1) := by decide +kernel
    exact this ⟨c, hc⟩
  refine b_X11_rests_0 hg hd k00 X _ _ _ ?_
  rw [n2, n1, nI_2, nI_2, nI_2, nI_s, nI_s]
  refine ⟨_, hC.g16, _, ga_r hC (by omega), _, hC.g16, _, ga_r hC (by omega), ?_⟩
  rw [(hG c hc).1, (hG _ x2).1]
  refine ⟨fun z => ⟨Or.inl rfl, by simp [rsB, z], rfl⟩, fun z => ⟨_, hC.g16, _, ga_r hC (by omega), _, hC.g16, _, ga_r hC (by omega), ?_⟩⟩
  rw [(hG c hc).2, (hG _ x1).2]
  exact ⟨fun y => ⟨Or.inl rfl, by simp [rsB, y], rfl⟩, fun y => ⟨Or.inr rfl, by simp [rsB, z, y], rfl⟩⟩
def foldD {σ : Type} (f : Nat → σ → σ) : Nat → σ → σ
  | 0, p => p
  | j + 1, p => foldD f j (f j p)
def gmG (s : CoreV) (a b : Nat) (c : Nat) (p : Int32 × Int32) : Int32 × Int32 := if rsB s a b c then (p.1 + 1, 10 * (nI c >>> ((1 : Int32) &&& 31)) + (nI c &&& 1)) else p
def gmF (s : CoreV) (a b : Nat) : Int32 × Int32 := foldD (gmG s a b) 4 (0, -1)
def m_game (s : CoreV) (a b v : Int32) : Res := if inB (sW s) a then (if inB (sW s) b then (if whB v 1 then (if a = b then .inr false else .inl (if v = 0 then (gmF s (cl a) (cl b)).1 else (gmF s (cl a) (cl b)).2, s)) else .inr true) else .inr true) else .inr true
theorem nI_p (j : Nat) : nI (j + 1) + (-1) = nI j := by
  rw [← nI_1, Int32.add_assoc]
  exact Int32.add_zero _
theorem x_game (hg : GOK g) (hd : 20 ≤ d) (hC : CA h0 h s x) (hI : IS s) (a b v : Int32) : CT g d yX11_game (wsC yX11_game cX11_game 7 (some .int)) [.ref 0, .int a, .int b, .int v] h 8 64 (PrC h0 (m_game s a b v)) (PtC h0 s (m_game s a b v)) := by
  have o1 := hI.1.1.2.2
  refine CT_ofB (by decide +kernel) (Nat.le_of_ble_eq_true rfl) rfl fun K X => ?_
  refine b_X11_game_0 hg (by omega) (by omega) X _ _ _ _ _ ⟨_, hC.o, st_nW hg hC (by omega) (by omega) (fun q => ptC hC (by rw [m_game, q]; rfl)) fun q1 => ⟨_, hC.o, st_nW hg hC (by omega) (by omega) (fun q => ptC hC (by rw [m_game, q1, q]; rfl)) fun q2 => st_wh hg (by omega) (by omega) (fun q => ptC hC (by rw [m_game, q1, q2, q]; rfl)) fun q3 => ⟨fun y => ?_, fun y => ⟨by omega, ptI hC (by rw [m_game, if_pos q1, if_pos q2, if_pos q3, if_pos y])⟩⟩⟩⟩
  obtain ⟨ea, ha⟩ := inB_k (by show tW (sT s) < _; omega) q1
  obtain ⟨eb, hb⟩ := inB_k (by show tW (sT s) < _; omega) q2
  have em : m_game s a b v = .inl (if v = 0 then (gmF s (cl a) (cl b)).1 else (gmF s (cl a) (cl b)).2, s) := by rw [m_game, if_pos q1, if_pos q2, if_pos q3, if_neg y]
  rw [em]
  generalize cl a = k at *
  generalize cl b = m at *
  rw [ea, eb]
  have hk : k < tW (sT s) := ha
  have hm : m < tW (sT s) := hb
  generalize hR : gmF s k m = R
  have loop2 : ∀ (j : Nat) (h : Hp) (x : ScrV) (p : Int32 × Int32), j ≤ 4 → CA h0 h s x → (∀ i, i < 4 → xGa x (2 * i) = gnA s k m i ∧ xGa x (2 * i + 1) = gnB s k m i) → foldD (gmG s k m) j p = R → VB g K 7 d 8 64 (PrC h0 (.inl (if v = 0 then R.1 else R.2, s))) (PtC h0 s (.inl (if v = 0 then R.1 else R.2, s))) 3 18 63 [some (.ref 0), none, none, some (.int v), some (.int p.1), some (.int p.2), some (.int (nI j + (-1)))] [] h := by
    intro j
    induction j with
    | zero =>
      intro h x p hj hC hG he
      have he' : p = R := he
      exact b_X11_game_63 hg (by omega) (by omega) X _ _ _ _ _ _ ⟨fun _ => ⟨fun z => prC hC (by rw [if_neg z, he']), fun z => prC hC (by rw [if_pos z, he'])⟩, fun q => absurd (by decide) q⟩
    | succ j ih =>
      intro h x p hj hC hG he
      rw [nI_p]
      refine b_X11_game_63 hg (by omega) (by omega) X _ _ _ _ _ _ ⟨fun q => absurd q (nI_pos (by omega)), fun _ => ⟨_, hC.o, use_i (c_rests (d := d - 1) (c := j) hg (by omega) hC (by omega) hG) (by omega) (by omega) ?_⟩⟩
      cases hz : rsB s k m j with
      | false =>
        refine ⟨fun _ => ?_, fun z => absurd rfl z⟩
        refine b_X11_game_94 hg (by omega) (by omega) X _ _ _ _ _ _ (ih h x p (by omega) hC hG ?_)
        rw [foldD, gmG, hz] at he
        exact he
      | true =>
        refine ⟨fun z => absurd z (by decide), fun _ => ?_⟩
        refine b_X11_game_94 hg (by omega) (by omega) X _ _ _ _ _ _ (ih h x (p.1 + 1, 10 * (nI j >>> ((1 : Int32) &&& 31)) + (nI j &&& 1)) (by omega) hC hG ?_)
        rw [foldD, gmG, hz] at he
        exact he
  have loop1 : ∀ (j i : Nat) (h : Hp) (x : ScrV), i + j = 4 → CA h0 h s x → (∀ c, c < i → xGa x (2 * c) = gnA s k m c ∧ xGa x (2 * c + 1) = gnB s k m c) → VB g K 7 d 8 64 (PrC h0 (.inl (if v = 0 then R.1 else R.2, s))) (PtC h0 s (.inl (if v = 0 then R.1 else R.2, s))) 3 18 34 [some (.ref 0), some (.int (nI k)), some (.int (nI m)), some (.int v), some (.int (nI i)), none, none] [] h := by
    intro j
    induction j with
    | zero =>
      intro i h x hi hC hG
      have hi4 : i = 4 := by omega
      subst hi4
      exact b_X11_game_34 hg (by omega) (by omega) X _ _ _ _ _ _ ⟨fun _ => loop2 4 h x (0, -1) (by omega) hC hG hR, fun q => absurd (by decide) q⟩
    | succ j ih =>
      intro i h x hi hC hG
      refine b_X11_game_34 hg (by omega) (by omega) X _ _ _ _ _ _ ⟨fun q => absurd (le_nI (x := 4) (by omega) (by omega) q) (by omega), fun _ => ⟨_, hC.o, use_v (c_playCouple (d := d - 1) (c := i) hg (by omega) hC hI hk hm (by omega)) (by omega) (by omega) ?_⟩⟩
      rintro h2 ⟨x2, c2, g2⟩
      rw [nI_s]
      refine ih (i + 1) h2 x2 (by omega) c2 (fun c hc => ?_)
      rw [g2]
      by_cases e : c = i
      · subst e
        rw [pk_un (by omega), pk_us, pk_us]
        exact ⟨rfl, rfl⟩
      · rw [pk_un (by omega), pk_un (by omega), pk_un (by omega), pk_un (by omega)]
        exact hG c (by omega)
  exact loop1 4 0 h x rfl hC (fun c hc => absurd hc (by omega))
end GL
