/-! FEED -/
def byE (v : Int32) (n : Nat) : Int32 := narT 1 (Int8.toInt32 (Int32.toInt8 ((Int32.toUInt32 v >>> (Int32.toUInt32 (nI n) &&& Int32.toUInt32 31)).toInt32)))
def pb1 (s : CoreV) (v : Int32) (n : Nat) : CoreV := usO (usTp s (upd (sTp s) (oTl (sO s)) (byE v n))) (uoTl (sO s) (oTl (sO s) + 1))
def pbS (s : CoreV) (v : Int32) : CoreV := pb1 (pb1 (pb1 (pb1 s v 24) v 16) v 8) v 0
def m_feed (s : CoreV) (a b c d e : Int32) : Res := if oTl (sO s) + 20 ≤ 700 then .inl (nI (oTl (sO s) + 20), pbS (pbS (pbS (pbS (pbS s a) b) c) d) e) else .inl (-1, s)
theorem pbS_l (s : CoreV) (v : Int32) : oTl (sO (pbS s v)) = oTl (sO s) + 4 := rfl
section FE
variable {g : GG} {h0 h : Hp} {s : CoreV} {x : ScrV} {d : Nat}
theorem tp_len (hC : CA h0 h s x) : lenA h 1 = some (nI 700) := by unfold lenA; rw [show h[1]? = _ from hC.tp 0 _ rfl]; rfl
theorem tp_w {k : Nat} {v : Int32} (hC : CA h0 h s x) (hk : k < 700) : uI h 1 1 (nI k) v = some (putC h 1 (tapC (upd (sTp s) k (narT 1 v)))) := by
  rw [uI_of (aF_of (hC.tp 0 _ rfl)) hk (by omega), show h.set 1 = h.set (1 + 0) from rfl, hC.tp.set (j := 0) (by simp [tapC])]
  rfl
theorem c_put1 {K : KX} (XX : CB g K cX11_putBytes 3 yX11_putBytes none []) {Pr : Option Value → Hp → Prop} {v : Int32} {n : Nat} (hg : GOK g) (hd : 9 ≤ d) (hC : CA h0 h s x) (ht : oTl (sO s) < 700) (hn : n < 32) (fin : ∀ h2, CA h0 h2 (pb1 s v n) x → VB g K 3 d 0 0 Pr noT 0 0 3 [some (.ref 0), some (.int v), some (.int (nI n + -8))] [] h2) : VB g K 3 d 0 0 Pr noT 0 0 3 [some (.ref 0), some (.int v), some (.int (nI n))] [] h := by
  have c2 := hC.u_tp (upd (sTp s) (oTl (sO s)) (byE v n))
  obtain ⟨h3, e3, c3⟩ := c2.w1 (oTl (sO s) + 1)
  refine b_X11_putBytes_3 hg (by omega) k00 XX _ _ _ _ ⟨fun q => absurd q (nI_pos (by omega)), fun _ => ⟨_, hC.g1, _, hC.g0, _, tp_len hC, fun q => absurd (le_nI (by omega) (by omega) q) (by omega), fun _ => ⟨_, hC.g0, _, hC.g1, _, tp_w hC ht, _, c2.g1, h3, ?_, b_X11_putBytes_42 hg (by omega) k00 XX _ _ _ _ (fin h3 c3)⟩⟩⟩
  rw [show nI (oTl (sO (usTp s (upd (sTp s) (oTl (sO s)) (byE v n))))) + 1 = nI (oTl (sO s) + 1) from nI_s _]
  exact e3
theorem c_putBytes {v : Int32} (hg : GOK g) (hd : 9 ≤ d) (hC : CA h0 h s x) (ht : oTl (sO s) + 4 ≤ 700) : CT g d yX11_putBytes (wsC yX11_putBytes cX11_putBytes 3 none) [.ref 0, .int v] h 0 0 (fun r h2 => r = none ∧ CA h0 h2 (pbS s v) x) noT := by
  refine CT_ofB (by decide +kernel) (Nat.le_of_ble_eq_true rfl) rfl fun K XX => ?_
  refine b_X11_putBytes_0 hg (by omega) k00 XX _ _ _ ?_
  refine c_put1 (n := 24) XX hg hd hC (by omega) (by omega) (fun h2 c2 => ?_)
  refine c_put1 (n := 16) XX hg hd c2 (by show oTl (sO s) + 1 < 700; omega) (by omega) (fun h3 c3 => ?_)
  refine c_put1 (n := 8) XX hg hd c3 (by show oTl (sO s) + 1 + 1 < 700; omega) (by omega) (fun h4 c4 => ?_)
  refine c_put1 (n := 0) XX hg hd c4 (by show oTl (sO s) + 1 + 1 + 1 < 700; omega) (by omega) (fun h5 c5 => ?_)
  exact b_X11_putBytes_3 hg (by omega) k00 XX _ _ _ _ ⟨fun _ => ⟨rfl, c5⟩, fun q => absurd (by decide) q⟩
theorem x_feed (hg : GOK g) (hd : 20 ≤ d) (hC : CA h0 h s x) (ht : oTl (sO s) ≤ 700) (a b c e f : Int32) : CT g d yX11_feed (wsC yX11_feed cX11_feed 6 (some .int)) [.ref 0, .int a, .int b, .int c, .int e, .int f] h 8 64 (PrC h0 (m_feed s a b c e f)) (PtC h0 s (m_feed s a b c e f)) := by
  refine CT_ofB (by decide +kernel) (Nat.le_of_ble_eq_true rfl) rfl fun K XX => ?_
  refine b_X11_feed_0 hg (by omega) (by omega) XX _ _ _ _ _ _ _ ⟨_, hC.g1, ?_⟩
  rw [show nI (oTl (sO s)) + 20 = nI (oTl (sO s) + 20) from nI_add _ 20]
  refine ⟨fun q => ?_, fun q => prC hC ?_⟩
  · have q' : oTl (sO s) + 20 ≤ 700 := le_nI (y := 700) (by omega) (by omega) q
    refine ⟨_, hC.o, use_v (c_putBytes (v := a) (d := d - 1) hg (by omega) hC (by omega)) (by omega) (by omega) fun h1 c1 => ?_⟩
    refine ⟨_, c1.o, use_v (c_putBytes (v := b) (d := d - 1) hg (by omega) c1 (by rw [pbS_l]; omega)) (by omega) (by omega) fun h2 c2 => ?_⟩
    refine ⟨_, c2.o, use_v (c_putBytes (v := c) (d := d - 1) hg (by omega) c2 (by rw [pbS_l, pbS_l]; omega)) (by omega) (by omega) fun h3 c3 => ?_⟩
    refine ⟨_, c3.o, use_v (c_putBytes (v := e) (d := d - 1) hg (by omega) c3 (by rw [pbS_l, pbS_l, pbS_l]; omega)) (by omega) (by omega) fun h4 c4 => ?_⟩
    refine ⟨_, c4.o, use_v (c_putBytes (v := f) (d := d - 1) hg (by omega) c4 (by rw [pbS_l, pbS_l, pbS_l, pbS_l]; omega)) (by omega) (by omega) fun h5 c5 => ?_⟩
    refine ⟨_, c5.g1, prC c5 ?_⟩
    rw [m_feed, if_pos q', pbS_l, pbS_l, pbS_l, pbS_l, pbS_l]
  · have q' : ¬ oTl (sO s) + 20 ≤ 700 := fun e => q (nI_le (b := 700) e (by omega))
    rw [m_feed, if_neg q']
end FE
