/-! HorizonSeam: how it is now -/
section MN
variable {g : GG} {h0 h : Hp} {s : CoreV} {x : ScrV} {d : Nat}
theorem prC {m : Res} {a : Int32} {s' : CoreV} (hC : CA h0 h s' x) (e : m = .inl (a, s')) : PrC h0 m (some (.int a)) h := ⟨a, s', x, e, rfl, hC⟩
theorem ptC {m : Res} {b : Bool} (hC : CA h0 h s x) (e : m = .inr b) : PtC h0 s m (nmE b) (h ++ [dead]) := ⟨b, x, e, rfl, hC.app _⟩
theorem ptN {m : Res} (hC : CA h0 h s x) (e : m = .inr true) : PtC h0 s m "java/util/NoSuchElementException" (h ++ [dead]) := ⟨true, x, e, rfl, hC.app _⟩
theorem ptI {m : Res} (hC : CA h0 h s x) (e : m = .inr false) : PtC h0 s m "java/lang/IllegalArgumentException" (h ++ [dead]) := ⟨false, x, e, rfl, hC.app _⟩
theorem whB_no {v : Int32} {m : Nat} (hm : m < 2 ^ 31) (q : v.toInt < 0 ∨ (m : Int) < v.toInt) : whB v (nI m) = false := by
  have e0 : (0 : Int32).toInt = 0 := rfl
  have e1 : (nI m).toInt = m := Int32.toInt_ofNat_of_lt hm
  rcases q with q | q
  · have : v < 0 := Int32.lt_iff_toInt_lt.mpr (by rw [e0]; exact q)
    simp [whB, this]
  · have : ¬ v ≤ nI m := fun z => by have := Int32.le_iff_toInt_le.mp z; omega
    simp [whB, this]
def m_fault (s : CoreV) : Res := .inl (oFp (sO s), s)
theorem x_fault (hg : GOK g) (hd : 20 ≤ d) (hC : CA h0 h s x) : CT g d yX11_fault (wsC yX11_fault cX11_fault 1 (some .int)) [.ref 0] h 8 64 (PrC h0 (m_fault s)) (PtC h0 s (m_fault s)) := by
  refine CT_ofB (by decide +kernel) (Nat.le_of_ble_eq_true rfl) rfl fun K X => ?_
  exact b_X11_fault_0 hg (by omega) (by omega) X _ _ ⟨_, hC.g2, prC hC rfl⟩
def cntV (s : CoreV) (v : Int32) : Int32 := if v = 0 then nI (sN s) else if v = 1 then nI (sW s) else if v = 2 then (tK (sT s)).1 else if v = 3 then tWk (sT s) else if v = 4 then lDay (sL s) else if v = 5 then bitsF (fun k => lSm (sL s) k == 0) (sN s) else if v = 6 then sumF (lSm (sL s)) (sN s) else if v = 7 then sumF (lTh (sL s)) (sW s) else if v = 8 then idleF (sL s) (sW s) (sW s) else if v = 9 then nI (sP s).1 else if v = 10 then nI (sS s).1 else if v = 11 then nI (oTl (sO s)) else if v = 12 then oRt (sO s) else if v = 13 then oRa (sO s) else oRs (sO s)
def m_count (s : CoreV) (v : Int32) : Res := if whB v 14 then .inl (cntV s v, s) else .inr true
theorem TA.o2 {h : Hp} {b : Nat} {T : ToldV} (q : TA h b T) : oF h (b + 2) 1 = some [.int (tK T).1, .ref (b + 3), .ref (b + 4), .ref (b + 5), .ref (b + 6), .ref (b + 7)] := oF_of (q 2 _ rfl)
theorem TA.k0 {h : Hp} {b : Nat} {T : ToldV} (q : TA h b T) : gI h (b + 2) 1 0 = some (tK T).1 := by unfold gI; rw [q.o2]; rfl
theorem x_count (hg : GOK g) (hd : 20 ≤ d) (hC : CA h0 h s x) (hI : IS s) (v : Int32) : CT g d yX11_count (wsC yX11_count cX11_count 2 (some .int)) [.ref 0, .int v] h 8 64 (PrC h0 (m_count s v)) (PtC h0 s (m_count s v)) := by
  refine CT_ofB (by decide +kernel) (Nat.le_of_ble_eq_true rfl) rfl fun K X => ?_
  refine b_X11_count_0 hg (by omega) (by omega) X _ _ _ ⟨fun q => ⟨by omega, ptN hC (by rw [m_count, show (14 : Int32) = nI 14 from rfl, whB_no (by decide) q]; rfl)⟩, fun q => ?_, fun q => ?_, fun q => ?_, fun q => ?_, fun q => ?_, fun q => ?_, fun q => ?_, fun q => ?_, fun q => ?_, fun q => ?_, fun q => ?_, fun q => ?_, fun q => ?_, fun q => ?_, fun q => ?_⟩
  · obtain rfl : v = 0 := tI_eq (by rw [q]; rfl)
    exact ⟨_, hC.g6, _, hC.t.g0, prC hC rfl⟩
  · obtain rfl : v = 1 := tI_eq (by rw [q]; rfl)
    exact ⟨_, hC.g6, _, hC.t.g1, prC hC rfl⟩
  · obtain rfl : v = 2 := tI_eq (by rw [q]; rfl)
    exact ⟨_, hC.g6, _, hC.t.g6, _, hC.t.k0, prC hC rfl⟩
  · obtain rfl : v = 3 := tI_eq (by rw [q]; rfl)
    exact ⟨_, hC.g6, _, hC.t.g2, prC hC rfl⟩
  · obtain rfl : v = 4 := tI_eq (by rw [q]; rfl)
    exact ⟨_, hC.g8, _, hC.m0, _, hC.l.g0, prC hC rfl⟩
  · obtain rfl : v = 5 := tI_eq (by rw [q]; rfl)
    exact ⟨_, hC.g8, _, hC.m0, _, hC.g6, _, hC.l.o, use_i (c_openBits (d := d - 1) hg (by omega) hC.l hC.t hI.1.1) (by omega) (by omega) (prC hC rfl)⟩
  · obtain rfl : v = 6 := tI_eq (by rw [q]; rfl)
    exact ⟨_, hC.g8, _, hC.m0, _, hC.g6, _, hC.l.o, use_i (c_seamOfAll (d := d - 1) hg (by omega) hC.l hC.t hI.1.1) (by omega) (by omega) (prC hC rfl)⟩
  · obtain rfl : v = 7 := tI_eq (by rw [q]; rfl)
    exact ⟨_, hC.g8, _, hC.m0, _, hC.g6, _, hC.l.o, use_i (c_threadOfAll (d := d - 1) hg (by omega) hC.l hC.t hI.1.1) (by omega) (by omega) (prC hC rfl)⟩
  · obtain rfl : v = 8 := tI_eq (by rw [q]; rfl)
    exact ⟨_, hC.g8, _, hC.m0, _, hC.g6, _, hC.l.o, use_i (c_idleBits (d := d - 1) hg (by omega) hC.l hC.t hI.1.1) (by omega) (by omega) (prC hC rfl)⟩
  · obtain rfl : v = 9 := tI_eq (by rw [q]; rfl)
    exact ⟨_, hC.g8, _, hC.m1, _, hC.p.g0, prC hC rfl⟩
  · obtain rfl : v = 10 := tI_eq (by rw [q]; rfl)
    exact ⟨_, hC.g8, _, hC.m2, _, hC.sn.g0, prC hC rfl⟩
  · obtain rfl : v = 11 := tI_eq (by rw [q]; rfl)
    exact ⟨_, hC.g1, prC hC rfl⟩
  · obtain rfl : v = 12 := tI_eq (by rw [q]; rfl)
    exact ⟨_, hC.g3, prC hC rfl⟩
  · obtain rfl : v = 13 := tI_eq (by rw [q]; rfl)
    exact ⟨_, hC.g4, prC hC rfl⟩
  · obtain rfl : v = 14 := tI_eq (by rw [q]; rfl)
    exact ⟨_, hC.g5, prC hC rfl⟩
def strV (s : CoreV) (k : Nat) (v : Int32) : Int32 := if v = 0 then lStr (sL s) k else if v = 1 then lSm (sL s) k else if v = 2 then lSt (sL s) k else if v = 3 then bitsF (fun w => lAt (sL s) w == nI k) (sW s) else if v = 4 then (if lSm (sL s) k = 0 then 0 else fraE (sT s) (tF0 (sT s)) (tF1 (sT s)) (sL s) k) else (if lSm (sL s) k = 0 then 0 else pulE (sT s) (tP0 (sT s)) (tP1 (sT s)) (sL s) k)
def m_stretch (s : CoreV) (a v : Int32) : Res := if inB (sN s) a then (if whB v 5 then .inl (strV s (cl a) v, s) else .inr true) else .inr true
theorem x_stretch (hg : GOK g) (hd : 20 ≤ d) (hC : CA h0 h s x) (hI : IS s) (a v : Int32) : CT g d yX11_stretch (wsC yX11_stretch cX11_stretch 3 (some .int)) [.ref 0, .int a, .int v] h 8 64 (PrC h0 (m_stretch s a v)) (PtC h0 s (m_stretch s a v)) := by
  have o2 := hI.1.1.2.1
  refine CT_ofB (by decide +kernel) (Nat.le_of_ble_eq_true rfl) rfl fun K X => ?_
  refine b_X11_stretch_0 hg (by omega) (by omega) X _ _ _ _ ⟨_, hC.o, st_nS hg hC (by omega) (by omega) (fun q => ptC hC (by rw [m_stretch, q]; rfl)) fun q1 => ?_⟩
  obtain ⟨ea, ha⟩ := inB_k (by show tN_ (sT s) < _; omega) q1
  have ha' : cl a < tN_ (sT s) := ha
  have ha2 : cl a < 12 := by omega
  have em : m_stretch s a v = if whB v 5 then .inl (strV s (cl a) v, s) else .inr true := by rw [m_stretch, if_pos q1]
  rw [em]
  generalize hk : cl a = k at *
  rw [ea]
  refine ⟨fun q => ⟨by omega, ptN hC (by rw [show (5 : Int32) = nI 5 from rfl, whB_no (by decide) q]; rfl)⟩, fun q => ?_, fun q => ?_, fun q => ?_, fun q => ?_, fun q => ?_, fun q => ?_⟩
  · obtain rfl : v = 0 := tI_eq (by rw [q]; rfl)
    exact ⟨_, hC.g8, _, hC.m0, _, hC.l.g1, _, hC.l.r1 ha2, prC hC rfl⟩
  · obtain rfl : v = 1 := tI_eq (by rw [q]; rfl)
    exact ⟨_, hC.g8, _, hC.m0, _, hC.l.g2, _, hC.l.r2 ha2, prC hC rfl⟩
  · obtain rfl : v = 2 := tI_eq (by rw [q]; rfl)
    exact ⟨_, hC.g8, _, hC.m0, _, hC.l.g3, _, hC.l.r3 ha2, prC hC rfl⟩
  · obtain rfl : v = 3 := tI_eq (by rw [q]; rfl)
    exact ⟨_, hC.g8, _, hC.m0, _, hC.g6, _, hC.l.o, use_i (c_womenBits (d := d - 1) hg (by omega) hC.l hC.t hI.1.1 _) (by omega) (by omega) (prC hC rfl)⟩
  · obtain rfl : v = 4 := tI_eq (by rw [q]; rfl)
    refine ⟨_, hC.g8, _, hC.m0, _, hC.l.o, use_i (c_isOpen (d := d - 1) hg (by omega) hC.l ha2) (by omega) (by omega) ⟨fun z => ⟨_, hC.g8, _, hC.m0, _, hC.g6, _, hC.l.o, use_iP (c_fraysBy (d := d - 1) hg (by omega) hC.l hC.t hI.1.1 hI.1.2.1 (by have := tb_or s; omega) ha') (by omega) (by omega) ?_⟩, fun z => ?_⟩⟩
    · have z' : ¬ lSm (sL s) k = 0 := fun e => by rw [if_pos e] at z; exact absurd z (by decide)
      rintro r h' ⟨hr, f, hh⟩
      rw [hh, hr]
      refine prC (hC.u_t (f, (xK x).2)) ?_
      show Sum.inl (if lSm (sL s) k = 0 then (0 : Int32) else _, s) = _
      rw [if_neg z']
      rfl
    · have z' : lSm (sL s) k = 0 := Classical.byContradiction fun e => by rw [if_neg e] at z; exact z rfl
      refine prC hC ?_
      show Sum.inl (if lSm (sL s) k = 0 then (0 : Int32) else _, s) = _
      rw [if_pos z']
  · obtain rfl : v = 5 := tI_eq (by rw [q]; rfl)
    refine ⟨_, hC.g8, _, hC.m0, _, hC.l.o, use_i (c_isOpen (d := d - 1) hg (by omega) hC.l ha2) (by omega) (by omega) ⟨fun z => ⟨_, hC.g8, _, hC.m0, _, hC.g6, _, hC.l.o, use_iP (c_pullsBy (d := d - 1) hg (by omega) hC.l hC.t hI.1.1 hI.1.2.1 (by have := tb_or s; omega) ha') (by omega) (by omega) ?_⟩, fun z => ?_⟩⟩
    · have z' : ¬ lSm (sL s) k = 0 := fun e => by rw [if_pos e] at z; exact absurd z (by decide)
      rintro r h' ⟨hr, f, hh⟩
      rw [hh, hr]
      refine prC (hC.u_t (f, (xK x).2)) ?_
      show Sum.inl (if lSm (sL s) k = 0 then (0 : Int32) else _, s) = _
      rw [if_neg z']
      rfl
    · have z' : lSm (sL s) k = 0 := Classical.byContradiction fun e => by rw [if_neg e] at z; exact z rfl
      refine prC hC ?_
      show Sum.inl (if lSm (sL s) k = 0 then (0 : Int32) else _, s) = _
      rw [if_pos z']
def womV (s : CoreV) (k : Nat) (v : Int32) : Int32 := if v = 0 then tSk (sT s) k else if v = 1 then lAt (sL s) k else lTh (sL s) k
def m_woman (s : CoreV) (a v : Int32) : Res := if inB (sW s) a then (if whB v 2 then .inl (womV s (cl a) v, s) else .inr true) else .inr true
theorem x_woman (hg : GOK g) (hd : 20 ≤ d) (hC : CA h0 h s x) (hI : IS s) (a v : Int32) : CT g d yX11_woman (wsC yX11_woman cX11_woman 3 (some .int)) [.ref 0, .int a, .int v] h 8 64 (PrC h0 (m_woman s a v)) (PtC h0 s (m_woman s a v)) := by
  have o2 := hI.1.1.2.2
  refine CT_ofB (by decide +kernel) (Nat.le_of_ble_eq_true rfl) rfl fun K X => ?_
  refine b_X11_woman_0 hg (by omega) (by omega) X _ _ _ _ ⟨_, hC.o, st_nW hg hC (by omega) (by omega) (fun q => ptC hC (by rw [m_woman, q]; rfl)) fun q1 => ?_⟩
  obtain ⟨ea, ha⟩ := inB_k (by show tW (sT s) < _; omega) q1
  have ha2 : cl a < 6 := by have : cl a < tW (sT s) := ha; omega
  have em : m_woman s a v = if whB v 2 then .inl (womV s (cl a) v, s) else .inr true := by rw [m_woman, if_pos q1]
  rw [em]
  generalize hk : cl a = k at *
  rw [ea]
  refine ⟨fun q => ⟨by omega, ptN hC (by rw [show (2 : Int32) = nI 2 from rfl, whB_no (by decide) q]; rfl)⟩, fun q => ?_, fun q => ?_, fun q => ?_⟩
  · obtain rfl : v = 0 := tI_eq (by rw [q]; rfl)
    exact ⟨_, hC.g6, _, hC.t.g5, _, hC.t.r1 ha2, prC hC rfl⟩
  · obtain rfl : v = 1 := tI_eq (by rw [q]; rfl)
    exact ⟨_, hC.g8, _, hC.m0, _, hC.l.g4, _, hC.l.r4 ha2, prC hC rfl⟩
  · obtain rfl : v = 2 := tI_eq (by rw [q]; rfl)
    exact ⟨_, hC.g8, _, hC.m0, _, hC.l.g5, _, hC.l.r5 ha2, prC hC rfl⟩
end MN
