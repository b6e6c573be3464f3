/-! THE CLASS: ring -/
def ksT (T : ToldV) : KScr := (T.2.2.2.2.2.2.2.2.2.2.2, (tK T).2.2.2.1, (tK T).2.2.2.2.1, (tK T).2.2.2.2.2)
theorem tK4_ks (T : ToldV) : tK4 T (ksT T) = T := rfl
def flS (n : Nat) (L : LandV) : LandV := sSt (sSm (sStr L n 0) n 50) n 0
def flL : Nat → Nat → LandV → LandV
  | 0, _, L => L
  | j + 1, n, L => if 3 ≤ n then L else flL j (n + 1) (flS n L)
def n3 (n : Nat) : Nat := if n < 3 then 3 else n
def rgT (T : ToldV) : ToldV := zN_ T (n3 (tN_ T))
def rgL (T : ToldV) (L : LandV) : LandV := flL 3 (tN_ T) L
def ringS (s : CoreV) (T : ToldV) (L : LandV) : CoreV := ((0, -1, oRt (sO s), oRa (sO s), oRs (sO s), !(oSw (sO s)), 0), sTp s, rgT T, cpyL (sL s) (rgL T L), (0, 0, (sP s).2.2), (0, (sS s).2), sL2 s, sP2 s, sS2 s)
def rgP (s : CoreV) (x : ScrV) (n : Nat) : LR := txP (sTp s) n (n + 1) (stF (sTp s) n 0) (clT (xD x)) (sDay (xTr x) 0)
def rgE (s : CoreV) (e : Int32 × Nat) : CoreV := usO s (0, nI e.2, oRt (sO s) + 1, oRa (sO s), oRs (sO s), oSw (sO s), oHi (sO s))
def m_ring (s : CoreV) (x : ScrV) (v : Int32) : Res := if v < 0 ∨ ¬ v ≤ nI (oTl (sO s)) then .inr false else match rgP s x (cl v) with
  | .inr e => .inl (e.1, rgE s e)
  | .inl z => .inl (0, ringS s z.2.1 z.2.2)
section RGX
variable {g : GG} {h h0 h2 : Hp} {s : CoreV} {x : ScrV} {d A td ld : Nat} {T : ToldV} {L : LandV}
theorem Chunk.same {a : Nat} {cs : List va_E} (q : Chunk h a cs) (e : ∀ k, a ≤ k → k < a + cs.length → h2[k]? = h[k]?) : Chunk h2 a cs := fun j z hj => by
  have hl := (List.getElem?_eq_some_iff.mp hj).1
  rw [e (a + j) (by omega) (by omega)]
  exact q j z hj
theorem CA.gen (q : CA h0 h s x) (hl : h.length ≤ h2.length) (hA : 83 ≤ A ∧ h0.length ≤ A) (e : ∀ k, k ≠ A → (k < tb s ∨ tb s + 12 ≤ k) → (k < db s ∨ db s + 12 ≤ k) → (k < 54 ∨ 54 + 7 ≤ k) → h2[k]? = h[k]?) {T' D' : ToldV} {z : KScr} {L' : LandV} (a : TA h2 (tb s) (tK4 T' z)) (b : TA h2 (db s) D') (c : LA h2 54 L') : CA h0 h2 (usT s T') (uxTr (uxD (uxK x z) D') L') := by
  have tbo := tb_or s
  have sm : ∀ {a n : Nat} {cs : List va_E}, Chunk h a cs → cs.length = n → a + n ≤ 83 → (a + n ≤ 2 ∨ 26 ≤ a) → (a + n ≤ 54 ∨ 61 ≤ a) → Chunk h2 a cs := fun {a n cs} q1 q2 q3 q4 q5 => q1.same fun k k1 k2 => e k (by omega) (by omega) (by omega) (by omega)
  exact ⟨⟨by have := q.fr.1; omega, fun k hk hk2 => by rw [e k (by omega) (by omega) (by omega) (by omega)]; exact q.fr.2 k hk hk2⟩, sm q.ob (n := 1) rfl (by decide) (by decide) (by decide), sm q.tp (n := 1) rfl (by decide) (by decide) (by decide), a, b, sm q.mo (n := 1) rfl (by decide) (by decide) (by decide), sm q.l (n := 7) rfl (by decide) (by decide) (by decide), sm q.p (n := 2) rfl (by decide) (by decide) (by decide), sm q.sn (n := 4) rfl (by decide) (by decide) (by decide), sm q.mk (n := 1) rfl (by decide) (by decide) (by decide), sm q.l2 (n := 7) rfl (by decide) (by decide) (by decide), sm q.p2 (n := 2) rfl (by decide) (by decide) (by decide), sm q.sn2 (n := 4) rfl (by decide) (by decide) (by decide), c, sm q.be (n := 7) rfl (by decide) (by decide) (by decide), sm q.gu (n := 1) rfl (by decide) (by decide) (by decide), sm q.gl (n := 7) rfl (by decide) (by decide) (by decide), sm q.lk (n := 1) rfl (by decide) (by decide) (by decide), sm q.lo (n := 1) rfl (by decide) (by decide) (by decide), sm q.hi (n := 1) rfl (by decide) (by decide) (by decide), sm q.se (n := 3) rfl (by decide) (by decide) (by decide), sm q.ga (n := 1) rfl (by decide) (by decide) (by decide)⟩
/-- Told and the draft change places -/
theorem CA.swap (q : CA h0 h s x) : ∃ h1 h2, pF h 0 10 6 (.ref (db s)) = some h1 ∧ pF h1 0 10 7 (.ref (tb s)) = some h2 ∧ CA h0 h2 (usT (usO s (uoSw (sO s) (!(oSw (sO s))))) (xD x)) (uxD (uxK x (ksT (xD x))) (tO s x)) := by
  have e1 : tb (usT (usO s (uoSw (sO s) (!(oSw (sO s))))) (xD x)) = db s := by show (if (!(oSw (sO s))) = true then 14 else 2) = (if oSw (sO s) = true then 2 else 14); cases oSw (sO s) <;> rfl
  have e2 : db (usT (usO s (uoSw (sO s) (!(oSw (sO s))))) (xD x)) = tb s := by show (if (!(oSw (sO s))) = true then 2 else 14) = (if oSw (sO s) = true then 14 else 2); cases oSw (sO s) <;> rfl
  have hl := q.ob.le (by show 0 < 1; decide)
  have p1 : pF h 0 10 6 (.ref (db s)) = some (h.set 0 (.inr (10, [.ref 1, .int (nI (oTl (sO s))), .int (oFp (sO s)), .int (oRt (sO s)), .int (oRa (sO s)), .int (oRs (sO s)), .ref (db s), .ref (db s), .ref 26, .ref 40, .int (oHi (sO s)), .ref 54, .ref 61, .ref 68, .int (xSd x), .ref 79, .ref 82]))) := by
    unfold pF
    rw [q.o]
    rfl
  have hl' : 0 < h.length := by have : (objC s x).length = 1 := rfl; omega
  have p2 : pF (h.set 0 (.inr (10, [.ref 1, .int (nI (oTl (sO s))), .int (oFp (sO s)), .int (oRt (sO s)), .int (oRa (sO s)), .int (oRs (sO s)), .ref (db s), .ref (db s), .ref 26, .ref 40, .int (oHi (sO s)), .ref 54, .ref 61, .ref 68, .int (xSd x), .ref 79, .ref 82]))) 0 10 7 (.ref (tb s)) = some (putC h 0 [.inr (10, [.ref 1, .int (nI (oTl (sO s))), .int (oFp (sO s)), .int (oRt (sO s)), .int (oRa (sO s)), .int (oRs (sO s)), .ref (db s), .ref (tb s), .ref 26, .ref 40, .int (oHi (sO s)), .ref 54, .ref 61, .ref 68, .int (xSd x), .ref 79, .ref 82])]) := by
    unfold pF
    rw [oF_of (List.getElem?_set_self hl')]
    simp only [List.length_cons, List.length_nil, Nat.zero_add, Nat.reduceAdd, Nat.reduceLT, if_true, List.set_set]
    rfl
  refine ⟨_, _, p1, p2, ?_⟩
  unfold CA
  rw [e1, e2]
  refine ⟨q.fr.put (m := 1) rfl (by decide), ?_, q.tp.offN (n := 1) (m := 1) rfl rfl (by decide), q.d.offN (n := 12) (m := 1) rfl rfl (by have := tb_or s; omega), q.t.offN (n := 12) (m := 1) rfl rfl (by have := tb_or s; omega), q.mo.offN (n := 1) (m := 1) rfl rfl (by decide), q.l.offN (n := 7) (m := 1) rfl rfl (by decide), q.p.offN (n := 2) (m := 1) rfl rfl (by decide), q.sn.offN (n := 4) (m := 1) rfl rfl (by decide), q.mk.offN (n := 1) (m := 1) rfl rfl (by decide), q.l2.offN (n := 7) (m := 1) rfl rfl (by decide), q.p2.offN (n := 2) (m := 1) rfl rfl (by decide), q.sn2.offN (n := 4) (m := 1) rfl rfl (by decide), q.tr.offN (n := 7) (m := 1) rfl rfl (by decide), q.be.offN (n := 7) (m := 1) rfl rfl (by decide), q.gu.offN (n := 1) (m := 1) rfl rfl (by decide), q.gl.offN (n := 7) (m := 1) rfl rfl (by decide), q.lk.offN (n := 1) (m := 1) rfl rfl (by decide), q.lo.offN (n := 1) (m := 1) rfl rfl (by decide), q.hi.offN (n := 1) (m := 1) rfl rfl (by decide), q.se.offN (n := 3) (m := 1) rfl rfl (by decide), q.ga.offN (n := 1) (m := 1) rfl rfl (by decide)⟩
  have : objC (usT (usO s (uoSw (sO s) (!(oSw (sO s))))) (xD x)) (uxD (uxK x (ksT (xD x))) (tO s x)) = [.inr (10, [.ref 1, .int (nI (oTl (sO s))), .int (oFp (sO s)), .int (oRt (sO s)), .int (oRa (sO s)), .int (oRs (sO s)), .ref (db s), .ref (tb s), .ref 26, .ref 40, .int (oHi (sO s)), .ref 54, .ref 61, .ref 68, .int (xSd x), .ref 79, .ref 82])] := by
    unfold objC
    rw [e1, e2]
    rfl
  rw [this]
  exact q.ob.putN (n := 0) rfl rfl
theorem c_fillUp (hg : GOK g) (hd : 9 ≤ d) (hT : TA h td T) (hL : LA h ld L) (hN : tN_ T ≤ 12) (hj : td + 12 ≤ ld ∨ ld + 7 ≤ td) : CT g d yX11_fillUp (wsC yX11_fillUp cX11_fillUp 3 none) [.ref td, .ref ld] h 0 0 (fun r h2 => r = none ∧ TA h2 td (rgT T) ∧ LA h2 ld (rgL T L) ∧ OutW td td ld h h2) noT := by
  refine CT_ofB (by decide +kernel) (Nat.le_of_ble_eq_true rfl) rfl fun K X => ?_
  refine b_X11_fillUp_0 hg (by omega) k00 X _ _ _ ⟨_, hT.g0, ?_⟩
  have fin : ∀ (n : Nat) (L1 : LandV) (h1 : Hp), 3 ≤ n → n ≤ 12 → L1 = rgL T L → TA h1 td T → LA h1 ld L1 → OutW td td ld h h1 → VB g K 3 d 0 0 (fun r h2 => r = none ∧ TA h2 td (rgT T) ∧ LA h2 ld (rgL T L) ∧ OutW td td ld h h2) noT 0 0 5 [some (.ref td), some (.ref ld), some (.int (nI n))] [] h1 := by
    intro n L1 h1 hn hn2 eL t1 l1 o1
    refine b_X11_fillUp_5 hg (by omega) k00 X _ _ _ _ ⟨fun _ => ⟨_, t1.g0, pT h1 td (rgT T), ?_, rfl, t1.put _, ?_, o1.trans ⟨putC_len _ _ _, fun k _ k2 _ => putC_out _ _ _ _ (by have : (toldC td (rgT T)).length = 12 := rfl; omega)⟩⟩, fun y => absurd (nI_le (a := 3) hn (by omega)) y⟩
    · have e : (if nI (tN_ T) < 3 then (3 : Int32) else nI (tN_ T)) = nI (n3 (tN_ T)) := by
        unfold n3
        by_cases y : tN_ T < 3
        · rw [if_pos y, if_pos (show nI (tN_ T) < 3 from nI_lt (b := 3) y (by omega))]; rfl
        · rw [if_neg y, if_neg (show ¬ nI (tN_ T) < 3 from fun z => y (lt_nI (y := 3) (by omega) (by omega) z))]
      rw [e]
      exact t1.z0 _
    · rw [← eL]; exact l1.offT (by omega) _
  have loop : ∀ (j n : Nat) (L1 : LandV) (h1 : Hp), 3 ≤ n + j → n ≤ 12 → flL j n L1 = rgL T L → TA h1 td T → LA h1 ld L1 → OutW td td ld h h1 → VB g K 3 d 0 0 (fun r h2 => r = none ∧ TA h2 td (rgT T) ∧ LA h2 ld (rgL T L) ∧ OutW td td ld h h2) noT 0 0 5 [some (.ref td), some (.ref ld), some (.int (nI n))] [] h1 := by
    intro j
    induction j with
    | zero => intro n L1 h1 hn hn2 e t1 l1 o1; exact fin n L1 h1 hn hn2 e t1 l1 o1
    | succ j ih =>
      intro n L1 h1 hn hn2 e t1 l1 o1
      unfold flL at e
      by_cases y : 3 ≤ n
      · rw [if_pos y] at e
        exact fin n L1 h1 y hn2 e t1 l1 o1
      · rw [if_neg y] at e
        refine b_X11_fillUp_5 hg (by omega) k00 X _ _ _ _ ⟨fun z => absurd (le_nI (x := 3) (by omega) (by omega) z) y, fun _ => ⟨_, l1.o, use_v (c_putStretch (d := d - 1) hg (by omega) l1 (k := n) (by omega) 0 50 0) (by omega) k00 ?_⟩⟩
        intro h2 e2
        rw [e2, nI_s]
        exact ih (n + 1) (flS n L1) _ (by omega) (by omega) e (t1.offL (by omega) _) (l1.put _) (o1.trans ⟨putC_len _ _ _, fun k _ _ k3 => putC_out _ _ _ _ (by have : (landC ld (flS n L1)).length = 7 := rfl; show k < ld ∨ ld + (landC ld (flS n L1)).length ≤ k; omega)⟩)
  exact loop 3 (tN_ T) L h (by omega) hN rfl hT hL OutW.refl
theorem pF_app {fs : List Value} {k : Nat} {v : Value} (hk : k < fs.length) : pF (h ++ [.inr (5, fs)]) h.length 5 k v = some (h ++ [.inr (5, fs.set k v)]) := by
  unfold pF
  rw [oF_of (show (h ++ [.inr (5, fs)])[h.length]? = some (.inr (5, fs)) by simp)]
  simp [hk]
theorem c_rdInit {n : Nat} {a b c : Nat} (hg : GOK g) (hd : 9 ≤ d) (hl : lenA h a = some (nI 700)) (ha : a < h.length) (hn : n ≤ 700) : CT g d yX5_init (wsC yX5_init cX5_init 5 none) [.ref h.length, .ref a, .int (nI n), .ref b, .ref c] (h ++ [.inr (5, [.int 0, .int 0, .null, .int 0, .null, .null, .int 0, .int 0, .int 0, .int 0, .int 0])]) 0 0 (fun r h2 => r = none ∧ h2 = h ++ rdC (0, -1) a n b c (0, 0, 0, 0, 0)) noT := by
  refine CT_ofB (by decide +kernel) (Nat.le_of_ble_eq_true rfl) rfl fun K X => ?_
  have l1 : ∀ z, lenA (h ++ [z]) a = some (nI 700) := fun z => by
    unfold lenA at hl ⊢
    rw [List.getElem?_append_left ha]
    exact hl
  have e : (if nI 700 < nI n then nI 700 else nI n) = nI n := if_neg fun z => absurd (lt_nI (by omega) (by omega) z) (by omega)
  refine b_X5_init_0 hg (by omega) k00 X _ _ _ _ _ _ ⟨_, pF_app (by decide), _, pF_app (by decide), _, pF_app (by decide), _, pF_app (by decide), _, pF_app (by decide), _, pF_app (by decide), _, pF_app (by decide), _, pF_app (by decide), _, l1 _, _, pF_app (by simp), _, pF_app (by simp), _, pF_app (by simp), rfl, ?_⟩
  rw [e]
  rfl
theorem FR.tr {h1 : Hp} (a : FR h0 h1) (b : FR h1 h) : FR h0 h := ⟨Nat.le_trans a.1 b.1, fun k k1 k2 => (b.2 k k1 (by have := a.1; omega)).trans (a.2 k k1 k2)⟩
theorem CA.back {h1 : Hp} (q : CA h1 h s x) (a : FR h0 h1) : CA h0 h s x := ⟨a.tr q.1, q.2⟩
theorem CA.self (q : CA h0 h s x) : CA h h s x := ⟨⟨Nat.le_refl _, fun _ _ _ => rfl⟩, q.2⟩
theorem Chunk.end_ {cs : List va_E} : Chunk (h ++ cs) h.length cs := fun j z hj => by rw [List.getElem?_append_right (by omega), Nat.add_sub_cancel_left]; exact hj
theorem tx_di {f : AF} {len : Nat} : ∀ (k st : Nat) (T : ToldV) (L : LandV) (xF xP : RuX), DI len st T L xF xP → DIX len st (txP f len k st T L)
  | 0, st, T, L, xF, xP, di => ⟨⟨xF, xP, di⟩, Nat.le_refl _⟩
  | k + 1, st, T, L, xF, xP, di => by
    unfold txP
    split
    · exact ⟨⟨xF, xP, di⟩, Nat.le_refl _⟩
    · rename_i hk
      have q := ln_di (f := f) di hk
      cases e : lnA f len st (mOf T) (nOf T) T L with
      | inr e => trivial
      | inl z =>
        rw [e] at q
        obtain ⟨⟨yF, yP, d2⟩, h2⟩ := q
        exact (tx_di k z.1 z.2.1 z.2.2 yF yP d2).mono (by omega)
theorem rg_di (s : CoreV) (x : ScrV) {n : Nat} (hn : n ≤ 700) : DIX n (stF (sTp s) n 0) (rgP s x n) := tx_di _ _ _ _ none none (DI_0 (stF_le (by omega)).2 hn)
theorem CA.tbo (q : CA h0 h s x) : (tb s = 2 ∧ db s = 14) ∨ (tb s = 14 ∧ db s = 2) := tb_or s
theorem CA.hl (q : CA h0 h s x) : 83 ≤ h.length := by
  have := q.ga.le (by show 0 < 1; decide)
  have e : (arrC 8 (xGa x)).length = 1 := rfl
  omega
theorem CA.gT (q : CA h0 h s x) {T' : ToldV} {L' : LandV} (o : OutW (tb s) (tb s) 54 h h2) (a : TA h2 (tb s) T') (c : LA h2 54 L') : CA h0 h2 (usT s T') (uxTr (uxK x (ksT T')) L') := by
  have t := tb_or s
  have e : (toldC (db s) (xD x)).length = 12 := rfl
  exact CA.gen (A := h.length) (z := ksT T') (D' := xD x) q (Nat.le_of_eq o.1.symm) ⟨q.hl, q.fr.1⟩ (fun k _ k2 k3 k4 => o.2 k (by omega) k2 k4) a (q.d.same fun k k1 k2 => o.2 k (by omega) (by omega) (by omega)) c
theorem x_ring (hg : GOK g) (hO : GOW g) (hd : 146 ≤ d) (hC : CA h0 h s x) (ht : oTl (sO s) ≤ 700) (v : Int32) : CT g d yX11_ring (wsC yX11_ring cX11_ring 4 (some .int)) [.ref 0, .int v] h 8 64 (PrC h0 (m_ring s x v)) (PtC h0 s (m_ring s x v)) := by
  refine CT_ofB (by decide +kernel) (Nat.le_of_ble_eq_true rfl) rfl fun K X => ?_
  have no : m_ring s x v = .inr false → VB g K 4 d 8 64 (PrC h0 (m_ring s x v)) (PtC h0 s (m_ring s x v)) 0 0 12 [none, none, none, none] [] h := fun e => b_X11_ring_12 hg (by omega) (by omega) X _ ⟨by omega, ptC hC e⟩
  refine b_X11_ring_0 hg (by omega) (by omega) X _ _ _ ⟨fun y => no (by rw [m_ring, if_pos (Or.inl y)]), fun y1 => ⟨_, hC.g1, fun y2 => ?_, fun y => no (by rw [m_ring, if_pos (Or.inr y)])⟩⟩
  have em : m_ring s x v = match rgP s x (cl v) with
    | .inr e => .inl (e.1, rgE s e)
    | .inl z => .inl (0, ringS s z.2.1 z.2.2) := by rw [m_ring, if_neg (fun z => z.elim y1 fun z => z y2)]
  rw [em]
  have ev := nI_cl y1
  have hb : cl v < 2 ^ 31 := by
    have := Int32.toInt_lt v
    have e : cl v = v.toInt.toNat := rfl
    omega
  generalize cl v = n at ev em hb
  rw [ev] at y2 ⊢
  have hn : n ≤ 700 := by
    have := le_nI hb (by omega) y2
    omega
  clear ev y1 em no
  obtain ⟨h2, e2, c2⟩ := hC.w1 0
  refine ⟨h2, e2, _, c2.g7, _, c2.d.o, use_v (c_toldClear (d := d - 1) hg (by omega) c2.d) (by omega) (by omega) ?_⟩
  intro h3 e3
  have c3 := c2.u_d (clT (xD x))
  rw [show h3 = _ from e3]
  have c6 := c3.u_tr (sDay (xTr x) 0)
  refine ⟨_, c3.g11, _, c3.tr.w0, ⟨by omega, by omega⟩, ?_⟩
  have c6' : CA h0 (pL (putC h2 (db (usO s (uoTl (sO s) 0))) (toldC (db (usO s (uoTl (sO s) 0))) (clT (xD x)))) 54 (sDay (xTr (uxD x (clT (xD x)))) 0)) (usO s (uoTl (sO s) 0)) (uxTr (uxD x (clT (xD x))) (sDay (xTr x) 0)) := c6
  generalize pL (putC h2 (db (usO s (uoTl (sO s) 0))) (toldC (db (usO s (uoTl (sO s) 0))) (clT (xD x)))) 54 (sDay (xTr (uxD x (clT (xD x)))) 0) = h6 at c6'
  clear c6 e3 c3 e2 c2 y2
  have c7 := c6'.app [.inr (5, [.int 0, .int 0, .null, .int 0, .null, .null, .int 0, .int 0, .int 0, .int 0, .int 0])]
  have hA : 83 ≤ h6.length := by
    have := c6'.ga.le (by show 0 < 1; decide)
    have e : (arrC 8 (xGa (uxTr (uxD x (clT (xD x))) (sDay (xTr x) 0)))).length = 1 := rfl
    omega
  refine ⟨_, c7.g0, _, c7.g7, _, c7.g11, d - 1, _, 0, 0, c_rdInit (a := 1) (b := db (usO s (uoTl (sO s) 0))) (c := 54) hg (by omega) (tp_len c6') (by omega) hn, ⟨by omega, by omega, by omega⟩, fun r h10 q => ⟨q.1, ?_⟩⟩
  rw [q.2]
  clear q c7
  have c10 := c6'.app (rdC (0, -1) 1 n (db (usO s (uoTl (sO s) 0))) 54 (0, 0, 0, 0, 0))
  have tbo := tb_or (usO s (uoTl (sO s) 0))
  have w : RdW (h6 ++ rdC (0, -1) 1 n (db (usO s (uoTl (sO s) 0))) 54 (0, 0, 0, 0, 0)) h6.length 1 n (db (usO s (uoTl (sO s) 0))) 54 (sTp s) (0, -1) (0, 0, 0, 0, 0) (clT (xD x)) (sDay (xTr x) 0) := ⟨Chunk.end_, ⟨aF_of (c10.tp 0 _ rfl), by omega, hn⟩, c10.d, c10.tr, by omega, by omega, by omega, by omega, by omega⟩
  have hf0 := c6'.fr.1
  have hl10 : (h6 ++ rdC (0, -1) 1 n (db (usO s (uoTl (sO s) 0))) 54 (0, 0, 0, 0, 0)).length = h6.length + 1 := by rw [List.length_append]; rfl
  generalize h6 ++ rdC (0, -1) 1 n (db (usO s (uoTl (sO s) 0))) 54 (0, 0, 0, 0, 0) = h10 at c10 w hl10
  refine ⟨_, w.rd.o, d - 1, _, _, 0, 0, c_readText hg hO (by omega) w rfl (DI_0 (stF_le (by omega)).2 hn), ⟨by omega, by omega, by omega⟩, fun _ _ q => q.elim, fun r h11 q => ?_⟩
  have q : LnW h6.length 1 n (db (usO s (uoTl (sO s) 0))) 54 (sTp s) (0, -1) (rgP s x n) h10 r h11 := q
  have dx := rg_di s x hn
  obtain ⟨o, q⟩ := q
  have ta : TA h11 (tb (usO s (uoTl (sO s) 0))) (tO (usO s (uoTl (sO s) 0)) (uxTr (uxD x (clT (xD x))) (sDay (xTr x) 0))) := c10.t.same fun k k1 k2 => o.2 k (by have e : (toldC (tb (usO s (uoTl (sO s) 0))) (tO (usO s (uoTl (sO s) 0)) (uxTr (uxD x (clT (xD x))) (sDay (xTr x) 0)))).length = 12 := rfl; omega) (by have e : (toldC (tb (usO s (uoTl (sO s) 0))) (tO (usO s (uoTl (sO s) 0)) (uxTr (uxD x (clT (xD x))) (sDay (xTr x) 0)))).length = 12 := rfl; omega) (by have e : (toldC (tb (usO s (uoTl (sO s) 0))) (tO (usO s (uoTl (sO s) 0)) (uxTr (uxD x (clT (xD x))) (sDay (xTr x) 0)))).length = 12 := rfl; omega)
  have cg : ∀ {D' : ToldV} {L' : LandV}, TA h11 (db (usO s (uoTl (sO s) 0))) D' → LA h11 54 L' → CA h0 h11 (usO s (uoTl (sO s) 0)) (uxTr (uxD (uxK (uxTr (uxD x (clT (xD x))) (sDay (xTr x) 0)) (xK x)) D') L') := fun {D' L'} b c => CA.gen (T' := sT s) (z := xK x) c10 (Nat.le_of_eq o.1.symm) ⟨hA, hf0⟩ (fun k k1 _ k3 k4 => o.2 k k1 k3 k4) ta b c
  cases hp : rgP s x n with
  | inr e =>
    rw [hp] at q
    obtain ⟨er, t', T', L', w2⟩ := q
    have c11 := (cg w2.ta w2.la)
    obtain ⟨h34, e34, c34⟩ := c11.self.w2 (nI e.2)
    obtain ⟨h36, e36, c36⟩ := c34.w3 (oRt (sO s) + 1)
    have hA1 : h6.length < h11.length := by have := o.1; omega
    have e1 : gI h11 h6.length 5 1 = some (nI e.2) := by unfold gI; rw [w2.rd.o]; rfl
    have e0 : gI h36 h6.length 5 0 = some e.1 := by
      have : h36[h6.length]? = h11[h6.length]? := c36.fr.2 _ hA hA1
      unfold gI oF
      rw [this]
      have := w2.rd.o
      unfold oF at this
      rw [this]
      rfl
    refine ⟨0, er, fun z => absurd rfl z, fun _ => ⟨_, e1, h34, e34, _, c34.g3, h36, e36, _, e0, ?_⟩⟩
    exact prC (c36.back c11.fr) rfl
  | inl z =>
    rw [hp] at q dx
    obtain ⟨er, t', w2, _⟩ := q
    have c11 := (cg w2.ta w2.la)
    obtain ⟨h14, e14, c14⟩ := c11.w2 (-1)
    obtain ⟨h17, h18, e17, e18, c18⟩ := c14.swap
    obtain ⟨⟨xF, xP, di⟩, _⟩ := dx
    have hN : tN_ z.2.1 ≤ 12 := di.1.1
    have tbo2 := c18.tbo
    refine ⟨1, er, fun _ => ⟨h14, e14, _, c14.g6, _, c14.g7, h17, e17, h18, e18, _, c18.g6, _, c18.g11, use_v (c_fillUp (d := d - 1) (T := z.2.1) (L := z.2.2) hg (by omega) c18.t c18.tr hN (by omega)) (by omega) (by omega) ?_⟩, fun z => absurd z (by decide)⟩
    rintro h20 ⟨t20, l20, o20⟩
    have c20 := c18.gT o20 t20 l20
    refine ⟨_, c20.g8, _, c20.m0, _, c20.g11, _, c20.l.o, use_v (c_copyFrom (d := d - 1) hg (by omega) c20.l c20.tr (by omega)) (by omega) (by omega) ?_⟩
    intro h24 e24
    have c24 := c20.u_l (cpyL (sL s) (rgL z.2.1 z.2.2))
    rw [e24]
    refine ⟨_, c24.g8, _, c24.m1, _, c24.p.o, use_v (c_pastClear (d := d - 1) hg (by omega) c24.p) (by omega) (by omega) ?_⟩
    intro h27 e27
    have c27 := c24.u_p (0, 0, (sP s).2.2)
    rw [e27]
    refine ⟨_, c27.g8, _, c27.m2, _, c27.sn.o, use_v (c_seenClear (d := d - 1) hg (by omega) c27.sn) (by omega) (by omega) ?_⟩
    intro h30 e30
    have c30 := c27.u_sn (0, (sS s).2)
    rw [e30]
    obtain ⟨h32, e32, c32⟩ := c30.w10 0
    exact ⟨Or.inl rfl, h32, e32, prC c32 rfl⟩
end RGX
