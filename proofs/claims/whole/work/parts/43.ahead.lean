/-! HorizonSeam: if only days go by -/
section AH
variable {g : GG} {h0 h : Hp} {s : CoreV} {x : ScrV} {d D kc ks mc ms : Nat} {Pt : String → Hp → Prop}
theorem LE.opn {n w : Nat} {L M : LandV} (q : LE n w L M) : bitsF (fun k => lSm L k == 0) n = bitsF (fun k => lSm M k == 0) n := bitsF_congr fun k hk => by rw [q.sm hk]
theorem LE.bar {n w : Nat} {L M : LandV} (q : LE n w L M) : bitsF (fun k => lTh L k == 0) w = bitsF (fun k => lTh M k == 0) w := bitsF_congr fun k hk => by rw [q.th hk]
theorem LE.sth {n w : Nat} {L M : LandV} (q : LE n w L M) : sumF (lTh L) w = sumF (lTh M) w := sumF_congr fun k hk => q.th hk
theorem LE.ssm {n w : Nat} {L M : LandV} (q : LE n w L M) : sumF (lSm L) n = sumF (lSm M) n := sumF_congr fun k hk => q.sm hk
theorem LE.bst {n w : Nat} {L M : LandV} (q : LE n w L M) (h0 : 0 < n) : bestF (lStr L) (n - 1) = bestF (lStr M) (n - 1) := bestF_congr fun k hk => q.st (by omega)
theorem LE.mst {n w : Nat} {L M : LandV} (q : LE n w L M) (h0 : 0 < n) : mostF (lStr L) (n - 1) = mostF (lStr M) (n - 1) := mostF_congr fun k hk => q.st (by omega)
theorem LE.lst {n w : Nat} {L M : LandV} (q : LE n w L M) (h0 : 0 < n) : leastF (lStr L) (n - 1) = leastF (lStr M) (n - 1) := leastF_congr fun k hk => q.st (by omega)
theorem LE.lik {n w : Nat} {L M L2 M2 : LandV} (q : LE n w L M) (r : LE n w L2 M2) : likeF (lStr L) (lStr L2) (lSm L) (lSm L2) n = likeF (lStr M) (lStr M2) (lSm M) (lSm M2) n := by
  by_cases e : ∀ k, k < n → lStr M k = lStr M2 k ∧ lSm M k = lSm M2 k
  · rw [likeF_yes e, likeF_yes fun k hk => by rw [q.st hk, q.sm hk, r.st hk, r.sm hk]; exact e k hk]
  · obtain ⟨k, hk⟩ := Classical.not_forall.mp e
    obtain ⟨hk, e2⟩ := Classical.not_imp.mp hk
    rw [likeF_no hk e2, likeF_no hk (by rw [q.st hk, q.sm hk, r.st hk, r.sm hk]; exact e2)]
theorem cl_lt (v : Int32) : cl v < 2 ^ 31 := by
  have := Int32.toInt_lt v
  have e : cl v = v.toInt.toNat := rfl
  omega
def m_then (s : CoreV) (a n v : Int32) : Res := if inB (sN s) a then (if whB v 1 then (if dyB n 0 then .inl (if v = 0 then lStr (daysT (sT s) (cl n) (sL s)) (cl a) else lSm (daysT (sT s) (cl n) (sL s)) (cl a), s) else .inr false) else .inr true) else .inr true
theorem x_then (hg : GOK g) (hd : 20 ≤ d) (hC : CA h0 h s x) (hI : IS s) (a n v : Int32) : CT g d yX11_then (wsC yX11_then cX11_then 4 (some .int)) [.ref 0, .int a, .int n, .int v] h 8 64 (PrC h0 (m_then s a n v)) (PtC h0 s (m_then s a n v)) := by
  have o1 := hI.1.1.2.1
  refine CT_ofB (by decide +kernel) (Nat.le_of_ble_eq_true rfl) rfl fun K X => ?_
  refine b_X11_then_0 hg (by omega) (by omega) X _ _ _ _ _ ⟨_, hC.o, st_nS hg hC (by omega) (by omega) (fun q => ptC hC (by rw [m_then, q]; rfl)) fun q1 => st_wh hg (by omega) (by omega) (fun q => ptC hC (by rw [m_then, q1, q]; rfl)) fun q2 => st_dy hg (by omega) (by omega) (fun q => ptC hC (by rw [m_then, q1, q2, q]; rfl)) fun q3 => ?_⟩
  obtain ⟨ea, ha⟩ := inB_k (by show tN_ (sT s) < _; omega) q1
  obtain ⟨en, _, hn⟩ := dyB_k (m := 0) (by decide) q3
  have em : m_then s a n v = .inl (if v = 0 then lStr (daysT (sT s) (cl n) (sL s)) (cl a) else lSm (daysT (sT s) (cl n) (sL s)) (cl a), s) := by rw [m_then, if_pos q1, if_pos q2, if_pos q3]
  rw [em]
  generalize cl a = k at *
  generalize cl n = m at *
  rw [ea, en]
  have hk : k < tN_ (sT s) := ha
  refine ⟨_, hC.o, st_look hg hC hI (by omega) (by omega) (by omega) fun h1 x1 c1 e1 => ⟨fun y => ⟨_, c1.g11, _, c1.tr.g2, _, c1.tr.r2 (by omega), prC c1 ?_⟩, fun y => ⟨_, c1.g11, _, c1.tr.g1, _, c1.tr.r1 (by omega), prC c1 ?_⟩⟩⟩
  · rw [if_neg y, e1.sm hk]
  · rw [if_pos y, e1.st hk]
def latV (s : CoreV) (X : LandV) (v : Int32) : Int32 := if v = 0 then bitsF (fun k => lSm X k == 0) (sN s) else if v = 1 then nI (bestF (lStr X) (sN s - 1)) else if v = 2 then mostF (lStr X) (sN s - 1) - leastF (lStr X) (sN s - 1) else sumF (lTh (sL s)) (sW s) - sumF (lTh X) (sW s)
def m_later (s : CoreV) (n v : Int32) : Res := if whB v 3 then (if dyB n 0 then .inl (latV s (daysT (sT s) (cl n) (sL s)) v, s) else .inr false) else .inr true
theorem x_later (hg : GOK g) (hd : 20 ≤ d) (hC : CA h0 h s x) (hI : IS s) (n v : Int32) : CT g d yX11_later (wsC yX11_later cX11_later 3 (some .int)) [.ref 0, .int n, .int v] h 8 64 (PrC h0 (m_later s n v)) (PtC h0 s (m_later s n v)) := by
  have o1 := hI.1.1.1
  have n0 : 0 < sN s := by show 0 < tN_ (sT s); omega
  refine CT_ofB (by decide +kernel) (Nat.le_of_ble_eq_true rfl) rfl fun K X => ?_
  refine b_X11_later_0 hg (by omega) (by omega) X _ _ _ _ (st_wh hg (by omega) (by omega) (fun q => ptC hC (by rw [m_later, q]; rfl)) fun q2 => st_dy hg (by omega) (by omega) (fun q => ptC hC (by rw [m_later, q2, q]; rfl)) fun q3 => ?_)
  obtain ⟨en, _, hn⟩ := dyB_k (m := 0) (by decide) q3
  have em : m_later s n v = .inl (latV s (daysT (sT s) (cl n) (sL s)) v, s) := by rw [m_later, if_pos q2, if_pos q3]
  rw [em]
  generalize cl n = m at *
  rw [en]
  refine ⟨_, hC.o, st_look hg hC hI (by omega) (by omega) (by omega) fun h1 x1 c1 e1 => ⟨fun y => ?_, fun y => ?_, fun y => ?_, fun y => ?_⟩⟩
  · have v0 : ¬ v = 0 := fun e => by rw [e] at y; revert y; decide
    have v1 : ¬ v = 1 := fun e => by rw [e] at y; revert y; decide
    have v2 : ¬ v = 2 := fun e => by rw [e] at y; revert y; decide
    refine ⟨_, c1.g8, _, c1.m0, _, c1.g6, _, c1.l.o, use_i (c_threadOfAll (d := d - 1) hg (by omega) c1.l c1.t hI.1.1) (by omega) (by omega) ⟨_, c1.g11, _, c1.g6, _, c1.tr.o, use_i (c_threadOfAll (d := d - 1) hg (by omega) c1.tr c1.t hI.1.1) (by omega) (by omega) (prC c1 ?_)⟩⟩
    rw [latV, if_neg v0, if_neg v1, if_neg v2, ← e1.sth]
    rfl
  · obtain rfl : v = 0 := tI_eq (by rw [y]; rfl)
    refine ⟨_, c1.g11, _, c1.g6, _, c1.tr.o, use_i (c_openBits (d := d - 1) hg (by omega) c1.tr c1.t hI.1.1) (by omega) (by omega) (prC c1 ?_)⟩
    rw [latV, if_pos rfl, ← e1.opn]
    rfl
  · obtain rfl : v = 1 := tI_eq (by rw [y]; rfl)
    refine ⟨_, c1.g11, _, c1.g6, _, c1.tr.o, use_i (c_tightest (d := d - 1) hg (by omega) c1.tr c1.t hI.1.1) (by omega) (by omega) (prC c1 ?_)⟩
    rw [latV, if_neg (by decide), if_pos rfl, ← e1.bst n0]
    rfl
  · obtain rfl : v = 2 := tI_eq (by rw [y]; rfl)
    refine ⟨_, c1.g11, _, c1.g6, _, c1.tr.o, use_i (c_mostStrain (d := d - 1) hg (by omega) c1.tr c1.t hI.1.1) (by omega) (by omega) ⟨_, c1.g11, _, c1.g6, _, c1.tr.o, use_i (c_leastStrain (d := d - 1) hg (by omega) c1.tr c1.t hI.1.1) (by omega) (by omega) (prC c1 ?_)⟩⟩
    rw [latV, if_neg (by decide), if_neg (by decide), if_pos rfl, ← e1.mst n0, ← e1.lst n0]
    rfl
/-- the first day, from k on, of j, when a stretch is open -/
def opnF (T : ToldV) (a : Nat) : Nat → Nat → LandV → Int32
  | 0, _, _ => -1
  | j + 1, k, X => if lSm X a = 0 then nI k else opnF T a j (k + 1) (dayT T X)
def m_opens (s : CoreV) (a : Int32) : Res := if inB (sN s) a then .inl (opnF (sT s) (cl a) 61 0 (sL s), s) else .inr true
theorem nlt_nI {x y : Nat} (hx : x < 2 ^ 31) (hy : y < 2 ^ 31) (q : ¬ nI x < nI y) : y ≤ x := by
  rw [nI_ltI hx hy] at q; omega
theorem lt_nI {x y : Nat} (hx : x < 2 ^ 31) (hy : y < 2 ^ 31) (q : nI x < nI y) : x < y := (nI_ltI hx hy).mp q
theorem x_opens (hg : GOK g) (hd : 20 ≤ d) (hC : CA h0 h s x) (hI : IS s) (a : Int32) : CT g d yX11_opens (wsC yX11_opens cX11_opens 3 (some .int)) [.ref 0, .int a] h 8 64 (PrC h0 (m_opens s a)) (PtC h0 s (m_opens s a)) := by
  have o1 := hI.1.1.1
  have o2 := hI.1.1.2.1
  refine CT_ofB (by decide +kernel) (Nat.le_of_ble_eq_true rfl) rfl fun K X => ?_
  refine b_X11_opens_0 hg (by omega) (by omega) X _ _ _ ⟨_, hC.o, st_nS hg hC (by omega) (by omega) (fun q => ptC hC (by rw [m_opens, q]; rfl)) fun q1 => ?_⟩
  obtain ⟨ea, ha⟩ := inB_k (by show tN_ (sT s) < _; omega) q1
  have em : m_opens s a = .inl (opnF (sT s) (cl a) 61 0 (sL s), s) := by rw [m_opens, if_pos q1]
  rw [em]
  generalize cl a = k at *
  rw [ea]
  have hk : k < tN_ (sT s) := ha
  have loop : ∀ (j m : Nat) (h : Hp) (x : ScrV) (X : LandV), m + j = 61 → CA h0 h s x → LEs s (xTr x) X → AtOK (sN s) (sW s) X → opnF (sT s) k j m X = opnF (sT s) k 61 0 (sL s) → VB g K 3 d 8 64 (PrC h0 (.inl (opnF (sT s) k 61 0 (sL s), s))) (PtC h0 s (.inl (opnF (sT s) k 61 0 (sL s), s))) 1 6 21 [some (.ref 0), some (.int (nI k)), some (.int (nI m))] [] h := by
    intro j
    induction j with
    | zero =>
      intro m h x Y hm hC hX hA he
      refine b_X11_opens_21 hg (by omega) (by omega) X _ _ _ _ ⟨fun _ => prC hC (by rw [← he]; rfl), fun q => absurd (nlt_nI (x := 60) (by omega) (by omega) q) (by omega)⟩
    | succ j ih =>
      intro m h x Y hm hC hX hA he
      refine b_X11_opens_21 hg (by omega) (by omega) X _ _ _ _ ⟨fun q => absurd (lt_nI (x := 60) (by omega) (by omega) q) (by omega), fun _ => ⟨_, hC.g11, _, hC.tr.o, use_i (c_isOpen (d := d - 1) hg (by omega) hC.tr (k := k) (by omega)) (by omega) (by omega) ⟨fun z => ⟨_, hC.g11, _, hC.g6, _, hC.tr.o, st_day hg hC hI.1 hX hA (by omega) (by omega) fun h1 x1 c1 _ _ e1 => ?_⟩, fun z => ?_⟩⟩⟩
      · have z' : ¬ lSm (xTr x) k = 0 := fun e => by rw [if_pos e] at z; exact absurd z (by decide)
        rw [nI_s]
        refine ih (m + 1) h1 x1 _ (by omega) c1 e1 (AtOK_dayT (by omega) hA) ?_
        rw [← he, opnF, if_neg (by rw [← hX.sm hk]; exact z')]
      · have z' : lSm (xTr x) k = 0 := Classical.byContradiction fun e => by rw [if_neg e] at z; exact z rfl
        refine prC hC ?_
        rw [← he, opnF, if_pos (by rw [← hX.sm hk]; exact z')]
  exact ⟨_, hC.g11, _, hC.g8, _, hC.m0, _, hC.tr.o, st_copy hg hC (by omega) (by omega) fun h1 x1 c1 _ e1 => loop 61 0 h1 x1 _ rfl c1 e1 hI.2.1 rfl⟩
def lstB (v : Int32) : Nat → Nat → Int32
  | 0, _ => -1
  | j + 1, k => if (v >>> (nI k &&& 31)) &&& 1 = 1 then nI k else lstB v j (k + 1)
theorem c_leastBit (hg : GOK g) (hd : 8 ≤ d) (v : Int32) : CT g d yX11_leastBit (wsC yX11_leastBit cX11_leastBit 2 (some .int)) [.int v] h 0 0 (fun r h2 => r = some (.int (lstB v 32 0)) ∧ h2 = h) noT := by
  refine CT_ofB (by decide +kernel) (Nat.le_of_ble_eq_true rfl) rfl fun K X => ?_
  refine b_X11_leastBit_0 hg hd k00 X _ _ ?_
  have loop : ∀ (j k : Nat), k + j = 32 → lstB v j k = lstB v 32 0 → VB g K 2 d 0 0 (fun r h2 => r = some (.int (lstB v 32 0)) ∧ h2 = h) noT 0 0 2 [some (.int v), some (.int (nI k))] [] h := by
    intro j
    induction j with
    | zero =>
      intro k hk he
      exact b_X11_leastBit_2 hg hd k00 X _ _ _ ⟨fun _ => ⟨by rw [← he]; rfl, rfl⟩, fun q => absurd (nle_nI (x := 32) (by omega) (by omega) q) (by omega)⟩
    | succ j ih =>
      intro k hk he
      refine b_X11_leastBit_2 hg hd k00 X _ _ _ ⟨fun q => absurd (le_nI (x := 32) (by omega) (by omega) q) (by omega), fun _ => ⟨fun z => ?_, fun z => ⟨?_, rfl⟩⟩⟩
      · rw [nI_s]
        exact ih (k + 1) (by omega) (by rw [← he, lstB, if_neg z])
      · rw [← he, lstB, if_pos z]
  exact loop 32 0 rfl rfl
def fstF (T : ToldV) (c : Int32) : Nat → LandV → Int32
  | 0, _ => -1
  | j + 1, X => if bitsF (fun k => lSm (dayT T X) k == 0) (tN_ T) &&& c = 0 then fstF T c j (dayT T X) else lstB (bitsF (fun k => lSm (dayT T X) k == 0) (tN_ T) &&& c) 32 0
def m_first (s : CoreV) : Res := .inl (fstF (sT s) (bitsF (fun k => lSm (sL s) k == 0) (sN s) ^^^ (-1)) 60 (sL s), s)
theorem x_first (hg : GOK g) (hd : 20 ≤ d) (hC : CA h0 h s x) (hI : IS s) : CT g d yX11_first (wsC yX11_first cX11_first 4 (some .int)) [.ref 0] h 8 64 (PrC h0 (m_first s)) (PtC h0 s (m_first s)) := by
  have o1 := hI.1.1.1
  refine CT_ofB (by decide +kernel) (Nat.le_of_ble_eq_true rfl) rfl fun K X => ?_
  generalize hc : bitsF (fun k => lSm (sL s) k == 0) (sN s) ^^^ (-1) = c
  have em : m_first s = .inl (fstF (sT s) c 60 (sL s), s) := by rw [m_first, hc]
  rw [em]
  have loop : ∀ (j m : Nat) (h : Hp) (x : ScrV) (X : LandV), m + j = 61 → CA h0 h s x → LEs s (xTr x) X → AtOK (sN s) (sW s) X → fstF (sT s) c j X = fstF (sT s) c 60 (sL s) → VB g K 4 d 8 64 (PrC h0 (.inl (fstF (sT s) c 60 (sL s), s))) (PtC h0 s (.inl (fstF (sT s) c 60 (sL s), s))) 0 0 30 [some (.ref 0), some (.int c), some (.int (nI m)), none] [] h := by
    intro j
    induction j with
    | zero =>
      intro m h x Y hm hC hX hA he
      refine b_X11_first_30 hg (by omega) (by omega) X _ _ _ _ ⟨fun _ => prC hC (by rw [← he]; rfl), fun q => absurd (nlt_nI (x := 60) (by omega) (by omega) q) (by omega)⟩
    | succ j ih =>
      intro m h x Y hm hC hX hA he
      refine b_X11_first_30 hg (by omega) (by omega) X _ _ _ _ ⟨fun q => absurd (lt_nI (x := 60) (by omega) (by omega) q) (by omega), fun _ => ⟨_, hC.g11, _, hC.g6, _, hC.tr.o, st_day hg hC hI.1 hX hA (by omega) (by omega) fun h1 x1 c1 _ _ e1 => ⟨_, c1.g11, _, c1.g6, _, c1.tr.o, use_i (c_openBits (d := d - 1) hg (by omega) c1.tr c1.t hI.1.1) (by omega) (by omega) ⟨fun z => ?_, fun z => ?_⟩⟩⟩⟩
      · have z' : bitsF (fun k => lSm (dayT (sT s) Y) k == 0) (tN_ (sT s)) &&& c = 0 := by rw [← e1.opn]; exact z
        rw [nI_s]
        refine ih (m + 1) h1 x1 _ (by omega) c1 e1 (AtOK_dayT (by omega) hA) ?_
        rw [← he, fstF, if_pos z']
      · have z' : ¬ bitsF (fun k => lSm (dayT (sT s) Y) k == 0) (tN_ (sT s)) &&& c = 0 := by rw [← e1.opn]; exact z
        refine use_i (c_leastBit (d := d - 1) hg (by omega) _) (by omega) (by omega) (prC c1 ?_)
        rw [← he, fstF, if_neg z', ← e1.opn]
        rfl
  refine b_X11_first_0 hg (by omega) (by omega) X _ _ ⟨_, hC.g11, _, hC.g8, _, hC.m0, _, hC.tr.o, st_copy hg hC (by omega) (by omega) fun h1 x1 c1 _ e1 => ⟨_, c1.g11, _, c1.g6, _, c1.tr.o, use_i (c_openBits (d := d - 1) hg (by omega) c1.tr c1.t hI.1.1) (by omega) (by omega) ?_⟩⟩
  have ec : bitsF (fun k => lSm (xTr x1) k == 0) (tN_ (tO s x1)) ^^^ (-1) = c := by rw [← hc, ← e1.opn]; rfl
  rw [ec]
  exact loop 60 1 h1 x1 _ rfl c1 e1 hI.2.1 rfl
def m_where (s : CoreV) (a n v : Int32) : Res := if inB (sW s) a then (if whB v 1 then (if dyB n 0 then .inl (if v = 0 then lAt (daysT (sT s) (cl n) (sL s)) (cl a) else lTh (daysT (sT s) (cl n) (sL s)) (cl a), s) else .inr false) else .inr true) else .inr true
theorem x_where (hg : GOK g) (hd : 20 ≤ d) (hC : CA h0 h s x) (hI : IS s) (a n v : Int32) : CT g d yX11_where (wsC yX11_where cX11_where 4 (some .int)) [.ref 0, .int a, .int n, .int v] h 8 64 (PrC h0 (m_where s a n v)) (PtC h0 s (m_where s a n v)) := by
  have o1 := hI.1.1.2.2
  refine CT_ofB (by decide +kernel) (Nat.le_of_ble_eq_true rfl) rfl fun K X => ?_
  refine b_X11_where_0 hg (by omega) (by omega) X _ _ _ _ _ ⟨_, hC.o, st_nW hg hC (by omega) (by omega) (fun q => ptC hC (by rw [m_where, q]; rfl)) fun q1 => st_wh hg (by omega) (by omega) (fun q => ptC hC (by rw [m_where, q1, q]; rfl)) fun q2 => st_dy hg (by omega) (by omega) (fun q => ptC hC (by rw [m_where, q1, q2, q]; rfl)) fun q3 => ?_⟩
  obtain ⟨ea, ha⟩ := inB_k (by show tW (sT s) < _; omega) q1
  obtain ⟨en, _, hn⟩ := dyB_k (m := 0) (by decide) q3
  have em : m_where s a n v = .inl (if v = 0 then lAt (daysT (sT s) (cl n) (sL s)) (cl a) else lTh (daysT (sT s) (cl n) (sL s)) (cl a), s) := by rw [m_where, if_pos q1, if_pos q2, if_pos q3]
  rw [em]
  generalize cl a = k at *
  generalize cl n = m at *
  rw [ea, en]
  have hk : k < tW (sT s) := ha
  refine ⟨_, hC.o, st_look hg hC hI (by omega) (by omega) (by omega) fun h1 x1 c1 e1 => ⟨fun y => ⟨_, c1.g11, _, c1.tr.g5, _, c1.tr.r5 (by omega), prC c1 ?_⟩, fun y => ⟨_, c1.g11, _, c1.tr.g4, _, c1.tr.r4 (by omega), prC c1 ?_⟩⟩⟩
  · rw [if_neg y, e1.th hk]
  · rw [if_pos y, e1.at_ hk]
def spnF (T : ToldV) : Nat → Nat → LandV → Int32
  | 0, _, _ => -1
  | j + 1, k, X => if sumF (lTh X) (tW T) = 0 then nI k else spnF T j (k + 1) (dayT T X)
def m_spent (s : CoreV) : Res := .inl (spnF (sT s) 61 0 (sL s), s)
theorem x_spent (hg : GOK g) (hd : 20 ≤ d) (hC : CA h0 h s x) (hI : IS s) : CT g d yX11_spent (wsC yX11_spent cX11_spent 2 (some .int)) [.ref 0] h 8 64 (PrC h0 (m_spent s)) (PtC h0 s (m_spent s)) := by
  have o1 := hI.1.1.1
  refine CT_ofB (by decide +kernel) (Nat.le_of_ble_eq_true rfl) rfl fun K X => ?_
  have loop : ∀ (j m : Nat) (h : Hp) (x : ScrV) (X : LandV), m + j = 61 → CA h0 h s x → LEs s (xTr x) X → AtOK (sN s) (sW s) X → spnF (sT s) j m X = spnF (sT s) 61 0 (sL s) → VB g K 2 d 8 64 (PrC h0 (m_spent s)) (PtC h0 s (m_spent s)) 0 0 16 [some (.ref 0), some (.int (nI m))] [] h := by
    intro j
    induction j with
    | zero =>
      intro m h x Y hm hC hX hA he
      refine b_X11_spent_16 hg (by omega) (by omega) X _ _ _ ⟨fun _ => prC hC (by rw [m_spent, ← he]; rfl), fun q => absurd (nlt_nI (x := 60) (by omega) (by omega) q) (by omega)⟩
    | succ j ih =>
      intro m h x Y hm hC hX hA he
      refine b_X11_spent_16 hg (by omega) (by omega) X _ _ _ ⟨fun q => absurd (lt_nI (x := 60) (by omega) (by omega) q) (by omega), fun _ => ⟨_, hC.g11, _, hC.g6, _, hC.tr.o, use_i (c_threadOfAll (d := d - 1) hg (by omega) hC.tr hC.t hI.1.1) (by omega) (by omega) ⟨fun z => ⟨_, hC.g11, _, hC.g6, _, hC.tr.o, st_day hg hC hI.1 hX hA (by omega) (by omega) fun h1 x1 c1 _ _ e1 => ?_⟩, fun z => ?_⟩⟩⟩
      · have z' : ¬ sumF (lTh Y) (tW (sT s)) = 0 := by rw [← hX.sth]; exact z
        rw [nI_s]
        refine ih (m + 1) h1 x1 _ (by omega) c1 e1 (AtOK_dayT (by omega) hA) ?_
        rw [← he, spnF, if_neg z']
      · have z' : sumF (lTh Y) (tW (sT s)) = 0 := by rw [← hX.sth]; exact z
        refine prC hC ?_
        rw [m_spent, ← he, spnF, if_pos z']
  refine b_X11_spent_0 hg (by omega) (by omega) X _ _ ⟨_, hC.g11, _, hC.g8, _, hC.m0, _, hC.tr.o, st_copy hg hC (by omega) (by omega) fun h1 x1 c1 _ e1 => ?_⟩
  exact loop 61 0 h1 x1 _ rfl c1 e1 hI.2.1 rfl
def stdF (T : ToldV) : Nat → Nat → LandV → Int32
  | 0, _, _ => -1
  | j + 1, k, X => if likeF (lStr (dayT T X)) (lStr X) (lSm (dayT T X)) (lSm X) (tN_ T) then nI k else stdF T j (k + 1) (dayT T X)
def m_steady (s : CoreV) : Res := .inl (stdF (sT s) 60 1 (sL s), s)
theorem x_steady (hg : GOK g) (hd : 20 ≤ d) (hC : CA h0 h s x) (hI : IS s) : CT g d yX11_steady (wsC yX11_steady cX11_steady 2 (some .int)) [.ref 0] h 8 64 (PrC h0 (m_steady s)) (PtC h0 s (m_steady s)) := by
  have o1 := hI.1.1.1
  refine CT_ofB (by decide +kernel) (Nat.le_of_ble_eq_true rfl) rfl fun K X => ?_
  have loop : ∀ (j m : Nat) (h : Hp) (x : ScrV) (X : LandV), m + j = 61 → CA h0 h s x → LEs s (xTr x) X → AtOK (sN s) (sW s) X → stdF (sT s) j m X = stdF (sT s) 60 1 (sL s) → VB g K 2 d 8 64 (PrC h0 (m_steady s)) (PtC h0 s (m_steady s)) 0 0 16 [some (.ref 0), some (.int (nI m))] [] h := by
    intro j
    induction j with
    | zero =>
      intro m h x Y hm hC hX hA he
      refine b_X11_steady_16 hg (by omega) (by omega) X _ _ _ ⟨fun _ => prC hC (by rw [m_steady, ← he]; rfl), fun q => absurd (nlt_nI (x := 60) (by omega) (by omega) q) (by omega)⟩
    | succ j ih =>
      intro m h x Y hm hC hX hA he
      refine b_X11_steady_16 hg (by omega) (by omega) X _ _ _ ⟨fun q => absurd (lt_nI (x := 60) (by omega) (by omega) q) (by omega), fun _ => ⟨_, hC.g12, _, hC.g11, _, hC.be.o, use_v (c_copyFrom (d := d - 1) hg (by omega) hC.be hC.tr (by omega)) (by omega) (by omega) ?_⟩⟩
      intro hb qb
      rw [qb]
      have cb := hC.u_be (cpyL (xBe x) (xTr x))
      have hXb : LEs s (xTr (uxBe x (cpyL (xBe x) (xTr x)))) Y := hX
      have eb : LEs s (xBe (uxBe x (cpyL (xBe x) (xTr x)))) Y := (LE.cpy _ _ _ _).trans hX
      refine ⟨_, cb.g11, _, cb.g6, _, cb.tr.o, st_day hg cb hI.1 hXb hA (by omega) (by omega) fun h1 x1 c1 _ b1 e1 => ⟨_, c1.g11, _, c1.g12, _, c1.g6, _, c1.tr.o, use_i (c_isLike (d := d - 1) hg (by omega) c1.tr c1.be c1.t hI.1.1) (by omega) (by omega) ?_⟩⟩
      rw [← b1] at eb
      have el : likeF (lStr (xTr x1)) (lStr (xBe x1)) (lSm (xTr x1)) (lSm (xBe x1)) (tN_ (tO s x1)) = likeF (lStr (dayT (sT s) Y)) (lStr Y) (lSm (dayT (sT s) Y)) (lSm Y) (tN_ (sT s)) := e1.lik eb
      rw [el]
      cases hl : likeF (lStr (dayT (sT s) Y)) (lStr Y) (lSm (dayT (sT s) Y)) (lSm Y) (tN_ (sT s)) with
      | false =>
        refine ⟨fun z => ?_, fun z => absurd rfl z⟩
        rw [nI_s]
        refine ih (m + 1) h1 x1 _ (by omega) c1 e1 (AtOK_dayT (by omega) hA) ?_
        rw [← he, stdF, hl]
        rfl
      | true =>
        refine ⟨fun z => absurd z (by decide), fun z => prC c1 ?_⟩
        rw [m_steady, ← he, stdF, hl]
        rfl
  refine b_X11_steady_0 hg (by omega) (by omega) X _ _ ⟨_, hC.g11, _, hC.g8, _, hC.m0, _, hC.tr.o, st_copy hg hC (by omega) (by omega) fun h1 x1 c1 _ e1 => ?_⟩
  exact loop 60 1 h1 x1 _ rfl c1 e1 hI.2.1 rfl
def m_bare (s : CoreV) (n : Int32) : Res := if dyB n 0 then .inl (bitsF (fun k => lTh (daysT (sT s) (cl n) (sL s)) k == 0) (sW s), s) else .inr false
theorem x_bare (hg : GOK g) (hd : 20 ≤ d) (hC : CA h0 h s x) (hI : IS s) (n : Int32) : CT g d yX11_bare (wsC yX11_bare cX11_bare 2 (some .int)) [.ref 0, .int n] h 8 64 (PrC h0 (m_bare s n)) (PtC h0 s (m_bare s n)) := by
  refine CT_ofB (by decide +kernel) (Nat.le_of_ble_eq_true rfl) rfl fun K X => ?_
  refine b_X11_bare_0 hg (by omega) (by omega) X _ _ _ (st_dy hg (by omega) (by omega) (fun q => ptC hC (by rw [m_bare, q]; rfl)) fun q3 => ?_)
  obtain ⟨en, _, hn⟩ := dyB_k (m := 0) (by decide) q3
  have em : m_bare s n = .inl (bitsF (fun k => lTh (daysT (sT s) (cl n) (sL s)) k == 0) (sW s), s) := by rw [m_bare, if_pos q3]
  rw [em]
  generalize cl n = m at *
  rw [en]
  refine ⟨_, hC.o, st_look hg hC hI (by omega) (by omega) (by omega) fun h1 x1 c1 e1 => ⟨_, c1.g11, _, c1.g6, _, c1.tr.o, use_i (c_bareBits (d := d - 1) hg (by omega) c1.tr c1.t hI.1.1) (by omega) (by omega) (prC c1 ?_)⟩⟩
  rw [← e1.bar]
  rfl
def m_meet (s : CoreV) (a b : Int32) : Res := if inB (sW s) a then (if inB (sW s) b then .inl (if a = b then -1 else if lAt (sL s) (cl a) = lAt (sL s) (cl b) then 0 else -1, s) else .inr true) else .inr true
theorem x_meet (hg : GOK g) (hd : 20 ≤ d) (hC : CA h0 h s x) (hI : IS s) (a b : Int32) : CT g d yX11_meet (wsC yX11_meet cX11_meet 3 (some .int)) [.ref 0, .int a, .int b] h 8 64 (PrC h0 (m_meet s a b)) (PtC h0 s (m_meet s a b)) := by
  have o1 := hI.1.1.2.2
  refine CT_ofB (by decide +kernel) (Nat.le_of_ble_eq_true rfl) rfl fun K X => ?_
  refine b_X11_meet_0 hg (by omega) (by omega) X _ _ _ _ ⟨_, hC.o, st_nW hg hC (by omega) (by omega) (fun q => ptC hC (by rw [m_meet, q]; rfl)) fun q1 => ⟨_, hC.o, st_nW hg hC (by omega) (by omega) (fun q => ptC hC (by rw [m_meet, q1, q]; rfl)) fun q2 => ?_⟩⟩
  obtain ⟨ea, ha⟩ := inB_k (by show tW (sT s) < _; omega) q1
  obtain ⟨eb, hb⟩ := inB_k (by show tW (sT s) < _; omega) q2
  have em : m_meet s a b = .inl (if a = b then -1 else if lAt (sL s) (cl a) = lAt (sL s) (cl b) then 0 else -1, s) := by rw [m_meet, if_pos q1, if_pos q2]
  rw [em]
  generalize cl a = k at *
  generalize cl b = m at *
  rw [ea, eb]
  have hk : k < tW (sT s) := ha
  have hm : m < tW (sT s) := hb
  refine ⟨fun y => prC hC (by rw [if_pos y]), fun y => ⟨_, hC.g8, _, hC.m0, _, hC.l.g4, _, hC.l.r4 (by omega), _, hC.g8, _, hC.m0, _, hC.l.g4, _, hC.l.r4 (by omega), fun z => prC hC (by rw [if_neg y, if_neg z]), fun z => prC hC (by rw [if_neg y, if_pos z])⟩⟩
end AH
