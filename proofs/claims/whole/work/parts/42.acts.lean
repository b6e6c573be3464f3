/-! HorizonSeam: acts -/
section AC
variable {g : GG} {h0 h : Hp} {s : CoreV} {x : ScrV} {d D kc ks mc ms : Nat} {Pt : String → Hp → Prop}
def refS (s : CoreV) : CoreV := usO s (uoRa (sO s) (oRa (sO s) + 1))
def refR (s : CoreV) : Res := .inl (-1, refS s)
theorem c_refuseAct (hg : GOK g) (hd : 8 ≤ d) (hC : CA h0 h s x) : CT g d yX11_refuseAct (wsC yX11_refuseAct cX11_refuseAct 1 (some .int)) [.ref 0] h 0 0 (fun v h2 => ∃ r, v = some (.int r) ∧ r = -1 ∧ CA h0 h2 (refS s) x) noT := by
  refine CT_ofB (by decide +kernel) (Nat.le_of_ble_eq_true rfl) rfl fun K X => ?_
  obtain ⟨h2, e2, c2⟩ := hC.w4 (oRa (sO s) + 1)
  exact b_X11_refuseAct_0 hg hd k00 X _ _ ⟨_, hC.g4, _, e2, _, rfl, rfl, c2⟩
theorem st_ref {Z : Nat → Nat → Int32 → Hp → Prop} (hg : GOK g) (hC : CA h0 h s x) (hd : 10 ≤ D) (hk : kc ≤ mc ∧ ks ≤ ms) (hz : ∀ h', CA h0 h' (refS s) x → Z 0 0 (-1) h') :
    ∃ d1 P1 E1 m1 n1, CT g d1 yX11_refuseAct (wsC yX11_refuseAct cX11_refuseAct 1 (some .int)) [.ref 0] h m1 n1 P1 E1 ∧ (d1 + 1 ≤ D ∧ kc + m1 ≤ mc ∧ ks + n1 ≤ ms) ∧ (∀ E h', E1 E h' → Pt E h') ∧ (∀ v h1, P1 v h1 → ∃ x, v = some (.int x) ∧ Z m1 n1 x h1) :=
  use_iP (c_refuseAct (d := D - 1) hg (by omega) hC) (by omega) hk (fun r h' q => by rw [q.1]; exact hz h' q.2)
def keepS (s : CoreV) : CoreV := usP s (keepP (sP s) (sL s))
def actS (s : CoreV) (L : LandV) : CoreV := usL (keepS s) L
theorem st_keep {Z : Nat → Nat → Hp → Prop} (hg : GOK g) (hC : CA h0 h s x) (hI : IS s) (hd : 11 ≤ D) (hk : kc ≤ mc ∧ ks ≤ ms) (hz : ∀ h', CA h0 h' (keepS s) x → Z 0 0 h') :
    ∃ d1 P1 E1 m1 n1, CT g d1 yX4_keep (wsC yX4_keep cX4_keep 2 none) [.ref 34, .ref 27] h m1 n1 P1 E1 ∧ (d1 + 1 ≤ D ∧ kc + m1 ≤ mc ∧ ks + n1 ≤ ms) ∧ (∀ E h', E1 E h' → Pt E h') ∧ (∀ v h1, P1 v h1 → v = none ∧ Z m1 n1 h1) :=
  use_v (c_keep (d := D - 1) hg (by omega) hC.l hC.p hI.2.2.1.1 hI.2.2.1.2 (by omega)) (by omega) hk (fun h' q => by rw [q]; exact hz _ (hC.u_p _))
theorem daysL_O (s : CoreV) (x : ScrV) (m : Nat) (L : LandV) : daysL (tO s x) (tF0 (sT s)) (tF1 (sT s)) (tP0 (sT s)) (tP1 (sT s)) m L = daysT (sT s) m L := by
  rw [← daysL_T]
  have key : ∀ (k : Nat) (L : LandV), daysL (tO s x) (tF0 (sT s)) (tF1 (sT s)) (tP0 (sT s)) (tP1 (sT s)) k L = daysL (sT s) (tF0 (sT s)) (tF1 (sT s)) (tP0 (sT s)) (tP1 (sT s)) k L := by
    intro k
    induction k with
    | zero => intro L; rfl
    | succ k ih => intro L; exact ih _
  exact key m _
def m_days (s : CoreV) (v : Int32) : Res := if v < 1 then refR s else if 20 < v then refR s else if lDay (sL s) + v ≤ 999 then .inl (lDay (daysT (sT s) (cl v) (sL s)), actS s (daysT (sT s) (cl v) (sL s))) else refR s
theorem x_days (hg : GOK g) (hd : 20 ≤ d) (hC : CA h0 h s x) (hI : IS s) (v : Int32) : CT g d yX11_days (wsC yX11_days cX11_days 2 (some .int)) [.ref 0, .int v] h 8 64 (PrC h0 (m_days s v)) (PtC h0 s (m_days s v)) := by
  refine CT_ofB (by decide +kernel) (Nat.le_of_ble_eq_true rfl) rfl fun K X => ?_
  have no : m_days s v = refR s → VB g K 2 d 8 64 (PrC h0 (m_days s v)) (PtC h0 s (m_days s v)) 0 0 29 [some (.ref 0), none] [] h := fun e => b_X11_days_29 hg (by omega) (by omega) X _ _ ⟨_, hC.o, st_ref hg hC (by omega) (by omega) fun h' c' => prC c' e⟩
  refine b_X11_days_0 hg (by omega) (by omega) X _ _ _ ⟨fun q => no (by rw [m_days, if_pos q]), fun q => ⟨fun z => no (by rw [m_days, if_neg q, if_pos z]), fun z => ⟨_, hC.g8, _, hC.m0, _, hC.l.g0, fun y => ⟨_, hC.g8, _, hC.m1, _, hC.g8, _, hC.m0, _, hC.p.o, st_keep hg hC hI (by omega) (by omega) fun h1 c1 => ⟨_, c1.g8, _, c1.m0, _, c1.g6, _, c1.l.o, ?_⟩⟩, fun y => no (by rw [m_days, if_neg q, if_neg z, if_neg y])⟩⟩⟩
  have q0 : ¬ v < 0 := fun e => q (Int32.lt_trans e (by decide))
  have ev := nI_cl q0
  have hm : cl v ≤ 20 := by
    have z2 : v ≤ 20 := Int32.not_lt.mp z
    rw [ev, show (20 : Int32) = nI 20 from rfl] at z2
    have : cl v < 2 ^ 31 := by
      have := Int32.toInt_lt v
      have e : cl v = v.toInt.toNat := rfl
      omega
    exact (nI_leI this (by decide)).mp z2
  have em : m_days s v = .inl (lDay (daysT (sT s) (cl v) (sL s)), actS s (daysT (sT s) (cl v) (sL s))) := by rw [m_days, if_neg q, if_neg z, if_pos y]
  rw [em]
  generalize hk : cl v = k at *
  rw [ev]
  refine use_v (c_passDays (d := d - 1) hg (by omega) c1.l c1.t hI.1.1 hI.1.2.1 hI.1.2.2 hI.2.1 (by have := tb_or (keepS s); omega) (m := k) (by omega)) (by omega) (by omega) ?_
  rintro h2 ⟨f, q2⟩
  rw [q2]
  have c2 : CA h0 (HH h1 27 (tb (keepS s)) (tO (keepS s) x) f (daysL (tO s x) (tF0 (sT s)) (tF1 (sT s)) (tP0 (sT s)) (tP1 (sT s)) k (sL s))) (actS s (daysL (tO s x) (tF0 (sT s)) (tF1 (sT s)) (tP0 (sT s)) (tP1 (sT s)) k (sL s))) (uxK x (f, (xK x).2)) := (c1.u_t (f, (xK x).2)).u_l _
  refine ⟨_, c2.g8, _, c2.m0, _, c2.l.g0, prC c2 ?_⟩
  rw [daysL_O]
  rfl
def m_mend (s : CoreV) (a : Int32) : Res := if inB (sW s) a then (if 1 ≤ lTh (sL s) (cl a) then .inl (lSm (mendL (tSk (sT s)) (sL s) (cl a)) (cl (lAt (sL s) (cl a))), actS s (mendL (tSk (sT s)) (sL s) (cl a))) else refR s) else .inr true
theorem x_mend (hg : GOK g) (hd : 20 ≤ d) (hC : CA h0 h s x) (hI : IS s) (a : Int32) : CT g d yX11_mend (wsC yX11_mend cX11_mend 2 (some .int)) [.ref 0, .int a] h 8 64 (PrC h0 (m_mend s a)) (PtC h0 s (m_mend s a)) := by
  have o2 := hI.1.1.2.2
  have o1 := hI.1.1.2.1
  refine CT_ofB (by decide +kernel) (Nat.le_of_ble_eq_true rfl) rfl fun K X => ?_
  refine b_X11_mend_0 hg (by omega) (by omega) X _ _ _ ⟨_, hC.o, st_nW hg hC (by omega) (by omega) (fun q => ptC hC (by rw [m_mend, q]; rfl)) fun q1 => ?_⟩
  obtain ⟨ea, ha⟩ := inB_k (by show tW (sT s) < _; omega) q1
  have em : m_mend s a = if 1 ≤ lTh (sL s) (cl a) then .inl (lSm (mendL (tSk (sT s)) (sL s) (cl a)) (cl (lAt (sL s) (cl a))), actS s (mendL (tSk (sT s)) (sL s) (cl a))) else refR s := by rw [m_mend, if_pos q1]
  rw [em]
  generalize hk : cl a = k at *
  rw [ea]
  have ha' : k < tW (sT s) := ha
  obtain ⟨j, hj, ej⟩ := hI.2.1 k ha'
  have hj2 : j < 12 := by omega
  have cj : cl (lAt (sL s) k) = j := by rw [ej]; exact nI_clamp (by omega)
  have e2 : lAt (mendL (tSk (sT s)) (sL s) k) k = nI j := by
    unfold mendL; split <;> exact ej
  refine ⟨_, hC.g8, _, hC.m0, _, hC.l.g5, _, hC.l.r5 (by omega), fun y => ⟨_, hC.g8, _, hC.m1, _, hC.g8, _, hC.m0, _, hC.p.o, st_keep hg hC hI (by omega) (by omega) fun h1 c1 => ⟨_, c1.g8, _, c1.m0, _, c1.g6, _, c1.l.o, use_v (c_mendBy (d := d - 1) hg (by omega) c1.l c1.t (by have := tb_or (keepS s); omega) (w := k) (by omega) hj2 ej) (by omega) (by omega) ?_⟩⟩, fun y => ⟨_, hC.o, st_ref hg hC (by omega) (by omega) fun h' c' => prC c' (by rw [if_neg y]; rfl)⟩⟩
  intro h2 q2
  rw [q2]
  have c2 := c1.u_l (mendL (tSk (sT s)) (sL s) k)
  refine ⟨_, c2.g8, _, c2.m0, _, c2.l.o, use_i (c_seamWhere (d := d - 1) hg (by omega) c2.l (w := k) (by omega) hj2 e2) (by omega) (by omega) (prC c2 ?_)⟩
  rw [if_pos y, cj]
  rfl
def m_go (s : CoreV) (a b : Int32) : Res := if inB (sW s) a then (if inB (sN s) b then (if lAt (sL s) (cl a) = b then refR s else .inl (lAt (sL s) (cl a), actS s (sAt (sL s) (cl a) b))) else .inr true) else .inr true
theorem x_go (hg : GOK g) (hd : 20 ≤ d) (hC : CA h0 h s x) (hI : IS s) (a b : Int32) : CT g d yX11_go (wsC yX11_go cX11_go 4 (some .int)) [.ref 0, .int a, .int b] h 8 64 (PrC h0 (m_go s a b)) (PtC h0 s (m_go s a b)) := by
  have o2 := hI.1.1.2.2
  refine CT_ofB (by decide +kernel) (Nat.le_of_ble_eq_true rfl) rfl fun K X => ?_
  refine b_X11_go_0 hg (by omega) (by omega) X _ _ _ _ ⟨_, hC.o, st_nW hg hC (by omega) (by omega) (fun q => ptC hC (by rw [m_go, q]; rfl)) fun q1 => ⟨_, hC.o, st_nS hg hC (by omega) (by omega) (fun q => ptC hC (by rw [m_go, q1, q]; rfl)) fun q2 => ?_⟩⟩
  obtain ⟨ea, ha⟩ := inB_k (by show tW (sT s) < _; omega) q1
  have em : m_go s a b = if lAt (sL s) (cl a) = b then refR s else .inl (lAt (sL s) (cl a), actS s (sAt (sL s) (cl a) b)) := by rw [m_go, if_pos q1, if_pos q2]
  rw [em]
  generalize hk : cl a = k at *
  rw [ea]
  have ha' : k < tW (sT s) := ha
  refine ⟨_, hC.g8, _, hC.m0, _, hC.l.g4, _, hC.l.r4 (by omega), fun y => ⟨_, hC.g8, _, hC.m1, _, hC.g8, _, hC.m0, _, hC.p.o, st_keep hg hC hI (by omega) (by omega) fun h1 c1 => ⟨_, c1.g8, _, c1.m0, _, c1.l.g4, _, c1.l.w4 (by omega), prC (c1.u_l _) (by rw [if_neg y]; rfl)⟩⟩, fun y => ⟨_, hC.o, st_ref hg hC (by omega) (by omega) fun h' c' => prC c' (by rw [if_pos y]; rfl)⟩⟩
def m_stitch (s : CoreV) (a b : Int32) : Res := if inB (sN s) a then (if b < 0 then refR s else if 2 < b then refR s else if b = lSt (sL s) (cl a) then refR s else .inl (lSt (sL s) (cl a), actS s (sSt (sL s) (cl a) b))) else .inr true
theorem x_stitch (hg : GOK g) (hd : 20 ≤ d) (hC : CA h0 h s x) (hI : IS s) (a b : Int32) : CT g d yX11_stitch (wsC yX11_stitch cX11_stitch 4 (some .int)) [.ref 0, .int a, .int b] h 8 64 (PrC h0 (m_stitch s a b)) (PtC h0 s (m_stitch s a b)) := by
  have o1 := hI.1.1.2.1
  refine CT_ofB (by decide +kernel) (Nat.le_of_ble_eq_true rfl) rfl fun K X => ?_
  have no : ∀ {kc ks}, kc ≤ 8 → ks ≤ 64 → m_stitch s a b = refR s → VB g K 4 d 8 64 (PrC h0 (m_stitch s a b)) (PtC h0 s (m_stitch s a b)) kc ks 32 [some (.ref 0), none, none, none] [] h := fun i1 i2 e => b_X11_stitch_32 hg (by omega) (by omega) X _ _ ⟨_, hC.o, st_ref hg hC (by omega) (by omega) fun h' c' => prC c' e⟩
  refine b_X11_stitch_0 hg (by omega) (by omega) X _ _ _ _ ⟨_, hC.o, st_nS hg hC (by omega) (by omega) (fun q => ptC hC (by rw [m_stitch, q]; rfl)) fun q1 => ?_⟩
  obtain ⟨ea, ha⟩ := inB_k (by show tN_ (sT s) < _; omega) q1
  have em : m_stitch s a b = if b < 0 then refR s else if 2 < b then refR s else if b = lSt (sL s) (cl a) then refR s else .inl (lSt (sL s) (cl a), actS s (sSt (sL s) (cl a) b)) := by rw [m_stitch, if_pos q1]
  rw [em] at no ⊢
  generalize hk : cl a = k at *
  rw [ea]
  have ha' : k < tN_ (sT s) := ha
  refine ⟨_, hC.g8, _, hC.m0, _, hC.l.g3, _, hC.l.r3 (by omega), fun y => no (by omega) (by omega) (by rw [if_pos y]), fun y => ⟨fun z => no (by omega) (by omega) (by rw [if_neg y, if_pos z]), fun z => ⟨fun u => ⟨_, hC.g8, _, hC.m1, _, hC.g8, _, hC.m0, _, hC.p.o, st_keep hg hC hI (by omega) (by omega) fun h1 c1 => ⟨_, c1.g8, _, c1.m0, _, c1.l.g3, _, c1.l.w3 (by omega), prC (c1.u_l _) (by rw [if_neg y, if_neg z, if_neg u]; rfl)⟩⟩, fun u => no (by omega) (by omega) (by rw [if_neg y, if_neg z, if_pos u])⟩⟩⟩
def m_thread (s : CoreV) (a b : Int32) : Res := if inB (sW s) a then (if b < 1 then refR s else if b ≤ 50 then .inl (lTh (giveL (sL s) (cl a) b) (cl a), actS s (giveL (sL s) (cl a) b)) else refR s) else .inr true
theorem x_thread (hg : GOK g) (hd : 20 ≤ d) (hC : CA h0 h s x) (hI : IS s) (a b : Int32) : CT g d yX11_thread (wsC yX11_thread cX11_thread 3 (some .int)) [.ref 0, .int a, .int b] h 8 64 (PrC h0 (m_thread s a b)) (PtC h0 s (m_thread s a b)) := by
  have o2 := hI.1.1.2.2
  refine CT_ofB (by decide +kernel) (Nat.le_of_ble_eq_true rfl) rfl fun K X => ?_
  have no : ∀ {kc ks}, kc ≤ 8 → ks ≤ 64 → m_thread s a b = refR s → VB g K 3 d 8 64 (PrC h0 (m_thread s a b)) (PtC h0 s (m_thread s a b)) kc ks 16 [some (.ref 0), none, none] [] h := fun i1 i2 e => b_X11_thread_16 hg (by omega) (by omega) X _ _ ⟨_, hC.o, st_ref hg hC (by omega) (by omega) fun h' c' => prC c' e⟩
  refine b_X11_thread_0 hg (by omega) (by omega) X _ _ _ _ ⟨_, hC.o, st_nW hg hC (by omega) (by omega) (fun q => ptC hC (by rw [m_thread, q]; rfl)) fun q1 => ?_⟩
  obtain ⟨ea, ha⟩ := inB_k (by show tW (sT s) < _; omega) q1
  have em : m_thread s a b = if b < 1 then refR s else if b ≤ 50 then .inl (lTh (giveL (sL s) (cl a) b) (cl a), actS s (giveL (sL s) (cl a) b)) else refR s := by rw [m_thread, if_pos q1]
  rw [em] at no ⊢
  generalize hk : cl a = k at *
  rw [ea]
  have ha' : k < tW (sT s) := ha
  refine ⟨fun y => no (by omega) (by omega) (by rw [if_pos y]), fun y => ⟨fun z => ⟨_, hC.g8, _, hC.m1, _, hC.g8, _, hC.m0, _, hC.p.o, st_keep hg hC hI (by omega) (by omega) fun h1 c1 => ⟨_, c1.g8, _, c1.m0, _, c1.l.o, use_v (c_giveThread (d := d - 1) hg (by omega) c1.l (k := k) (by omega) b) (by omega) (by omega) ?_⟩⟩, fun z => no (by omega) (by omega) (by rw [if_neg y, if_neg z])⟩⟩
  intro h2 q2
  rw [q2]
  have c2 := c1.u_l (giveL (sL s) k b)
  exact ⟨_, c2.g8, _, c2.m0, _, c2.l.g5, _, c2.l.r5 (by omega), prC c2 (by rw [if_neg y, if_pos z]; rfl)⟩
def m_tear (s : CoreV) (a b : Int32) : Res := if inB (sN s) a then (if b < 1 then refR s else if 50 < b then refR s else if lSm (sL s) (cl a) = 0 then refR s else .inl (lSm (tearL (sN s) (sL s) (cl a) b) (cl a), actS s (tearL (sN s) (sL s) (cl a) b))) else .inr true
theorem x_tear (hg : GOK g) (hd : 20 ≤ d) (hC : CA h0 h s x) (hI : IS s) (a b : Int32) : CT g d yX11_tear (wsC yX11_tear cX11_tear 3 (some .int)) [.ref 0, .int a, .int b] h 8 64 (PrC h0 (m_tear s a b)) (PtC h0 s (m_tear s a b)) := by
  have o1 := hI.1.1.2.1
  refine CT_ofB (by decide +kernel) (Nat.le_of_ble_eq_true rfl) rfl fun K X => ?_
  have no : ∀ {kc ks}, kc ≤ 8 → ks ≤ 64 → m_tear s a b = refR s → VB g K 3 d 8 64 (PrC h0 (m_tear s a b)) (PtC h0 s (m_tear s a b)) kc ks 30 [some (.ref 0), none, none] [] h := fun i1 i2 e => b_X11_tear_30 hg (by omega) (by omega) X _ _ ⟨_, hC.o, st_ref hg hC (by omega) (by omega) fun h' c' => prC c' e⟩
  refine b_X11_tear_0 hg (by omega) (by omega) X _ _ _ _ ⟨_, hC.o, st_nS hg hC (by omega) (by omega) (fun q => ptC hC (by rw [m_tear, q]; rfl)) fun q1 => ?_⟩
  obtain ⟨ea, ha⟩ := inB_k (by show tN_ (sT s) < _; omega) q1
  have em : m_tear s a b = if b < 1 then refR s else if 50 < b then refR s else if lSm (sL s) (cl a) = 0 then refR s else .inl (lSm (tearL (sN s) (sL s) (cl a) b) (cl a), actS s (tearL (sN s) (sL s) (cl a) b)) := by rw [m_tear, if_pos q1]
  rw [em] at no ⊢
  generalize hk : cl a = k at *
  rw [ea]
  have ha' : k < tN_ (sT s) := ha
  refine ⟨fun y => no (by omega) (by omega) (by rw [if_pos y]), fun y => ⟨fun z => no (by omega) (by omega) (by rw [if_neg y, if_pos z]), fun z => ⟨_, hC.g8, _, hC.m0, _, hC.l.o, use_i (c_isOpen (d := d - 1) hg (by omega) hC.l (k := k) (by omega)) (by omega) (by omega) ⟨fun u => ⟨_, hC.g8, _, hC.m1, _, hC.g8, _, hC.m0, _, hC.p.o, st_keep hg hC hI (by omega) (by omega) fun h1 c1 => ⟨_, c1.g8, _, c1.m0, _, c1.g6, _, c1.l.o, use_v (c_tearOff (d := d - 1) hg (by omega) c1.l c1.t hI.1.1 (by have := tb_or (keepS s); omega) (k := k) ha' b) (by omega) (by omega) ?_⟩⟩, fun u => ?_⟩⟩⟩⟩
  · have u' : ¬ lSm (sL s) k = 0 := fun e => by rw [if_pos e] at u; exact absurd u (by decide)
    intro h2 q2
    rw [q2]
    have c2 := c1.u_l (tearL (sN s) (sL s) k b)
    exact ⟨_, c2.g8, _, c2.m0, _, c2.l.g2, _, c2.l.r2 (by omega), prC c2 (by rw [if_neg y, if_neg z, if_neg u']; rfl)⟩
  · have u' : lSm (sL s) k = 0 := Classical.byContradiction fun e => by rw [if_neg e] at u; exact u rfl
    exact no (by omega) (by omega) (by rw [if_neg y, if_neg z, if_pos u'])
def undoS (s : CoreV) : CoreV := usL (usP s ((sP s).1 - 1, (sP s).2)) (rdL (sL s) (sP s).2.2 (((sP s).2.1 + ((sP s).1 - 1)) % 40 * 49))
def m_undo (s : CoreV) : Res := if (sP s).1 = 0 then .inl (-1, s) else .inl (nI ((sP s).1 - 1), undoS s)
theorem x_undo (hg : GOK g) (hd : 20 ≤ d) (hC : CA h0 h s x) (hI : IS s) : CT g d yX11_undo (wsC yX11_undo cX11_undo 1 (some .int)) [.ref 0] h 8 64 (PrC h0 (m_undo s)) (PtC h0 s (m_undo s)) := by
  obtain ⟨p1, p2⟩ := hI.2.2.1
  refine CT_ofB (by decide +kernel) (Nat.le_of_ble_eq_true rfl) rfl fun K X => ?_
  refine b_X11_undo_0 hg (by omega) (by omega) X _ _ ⟨_, hC.g8, _, hC.m1, _, hC.p.g0, fun y => ⟨_, hC.g8, _, hC.m1, _, hC.g8, _, hC.m0, _, hC.p.o, ?_⟩, fun y => ?_⟩
  · rw [nI_o, nI_leI (by omega) (by omega)] at y
    refine use_v (c_takeBack (d := d - 1) hg (by omega) hC.l hC.p (by omega) p1 p2 (by omega)) (by omega) (by omega) ?_
    intro h2 q2
    rw [q2]
    have c2 : CA h0 _ (undoS s) x := (hC.u_p ((sP s).1 - 1, (sP s).2)).u_l _
    exact ⟨_, c2.g8, _, c2.m1, _, c2.p.g0, prC c2 (by rw [m_undo, if_neg (by omega)]; rfl)⟩
  · rw [nI_o, nI_leI (by omega) (by omega)] at y
    exact prC hC (by rw [m_undo, if_pos (by omega)])
end AC
