/-! THE REFERENCE'S public methods: a game, years -/
/-- she goes to j and mends by e -/
def acL (X : LandV) (a j : Nat) (e : Int32) : LandV := if lTh X a ≤ 0 then sAt X a (nI j) else sSm (sTh (sAt X a (nI j)) a (lTh X a - 1)) j (min99 (lSm X j + e))
def jN (n : Nat) (X : LandV) (a : Nat) (c : Int32) : Nat := if c = 1 then aftN n (cl (lAt X a)) else cl (lAt X a)
theorem min99_c {x p q : Nat} (hx : x ≤ 99) (hp : p ≤ 100) (hq : q ≤ 100) : min99 (min99 (nI x + nI p) + nI q) = min99 (min99 (nI x + nI q) + nI p) := by
  have m : ∀ y : Nat, y < 2 ^ 20 → min99 (nI y) = nI (if y < 99 then y else 99) := by
    intro y hy
    unfold min99
    by_cases e : y < 99
    · have e' : nI y < 99 := nI_lt (b := 99) e (by omega)
      rw [if_pos e', if_pos e]
    · have e' : ¬ nI y < 99 := nI_nlt (b := 99) (by omega) (by omega)
      rw [if_neg e', if_neg e]; rfl
  rw [nI_add, nI_add, m _ (by omega), m _ (by omega), nI_add, nI_add, m _ (by split <;> omega), m _ (by split <;> omega)]
  congr 1
  split <;> split <;> split <;> split <;> omega
theorem f_d1 (L : LandV) (k : Nat) (x : Int32) : lDay (sSm L k x) = lDay L := rfl
theorem f_d2 (L : LandV) (k : Nat) (x : Int32) : lDay (sTh L k x) = lDay L := rfl
theorem f_d3 (L : LandV) (k : Nat) (x : Int32) : lDay (sAt L k x) = lDay L := rfl
theorem f_s1 (L : LandV) (k : Nat) (x : Int32) : lStr (sSm L k x) = lStr L := rfl
theorem f_s2 (L : LandV) (k : Nat) (x : Int32) : lStr (sTh L k x) = lStr L := rfl
theorem f_s3 (L : LandV) (k : Nat) (x : Int32) : lStr (sAt L k x) = lStr L := rfl
theorem f_t1 (L : LandV) (k : Nat) (x : Int32) : lSt (sSm L k x) = lSt L := rfl
theorem f_t2 (L : LandV) (k : Nat) (x : Int32) : lSt (sTh L k x) = lSt L := rfl
theorem f_t3 (L : LandV) (k : Nat) (x : Int32) : lSt (sAt L k x) = lSt L := rfl
theorem f_a1 (L : LandV) (k : Nat) (x : Int32) : lAt (sSm L k x) = lAt L := rfl
theorem f_a2 (L : LandV) (k : Nat) (x : Int32) : lAt (sTh L k x) = lAt L := rfl
theorem f_a3 (L : LandV) (k : Nat) (x : Int32) : lAt (sAt L k x) = upd (lAt L) k x := rfl
theorem f_h1 (L : LandV) (k : Nat) (x : Int32) : lTh (sSm L k x) = lTh L := rfl
theorem f_h2 (L : LandV) (k : Nat) (x : Int32) : lTh (sTh L k x) = upd (lTh L) k x := rfl
theorem f_h3 (L : LandV) (k : Nat) (x : Int32) : lTh (sAt L k x) = lTh L := rfl
theorem f_m1 (L : LandV) (k : Nat) (x : Int32) : lSm (sSm L k x) = upd (lSm L) k x := rfl
theorem f_m2 (L : LandV) (k : Nat) (x : Int32) : lSm (sTh L k x) = lSm L := rfl
theorem f_m3 (L : LandV) (k : Nat) (x : Int32) : lSm (sAt L k x) = lSm L := rfl
section PL
variable {n w : Nat} {X : LandV}
theorem updC {f : AF} {a b : Nat} {x y : Int32} (ne : a ≠ b) : upd (upd f a x) b y = upd (upd f b y) a x := by
  funext k
  by_cases e1 : k = b
  · subst e1; rw [pk_us, pk_un (Ne.symm ne), pk_us]
  · rw [pk_un e1]
    by_cases e2 : k = a
    · subst e2; rw [pk_us, pk_us]
    · rw [pk_un e2, pk_un e2, pk_un e1]
theorem acL_comm {a b j k : Nat} {e f : Nat} (hL : LOK n w X) (ne : a ≠ b) (hj : j < n) (hk : k < n) (he : e ≤ 100) (hf : f ≤ 100) : LE n w (acL (acL X a j (nI e)) b k (nI f)) (acL (acL X b k (nI f)) a j (nI e)) := by
  have t1 : lTh (acL X a j (nI e)) b = lTh X b := by
    unfold acL; split
    · rfl
    · exact pk_un (Ne.symm ne)
  have t2 : lTh (acL X b k (nI f)) a = lTh X a := by
    unfold acL; split
    · rfl
    · exact pk_un ne
  by_cases ta : lTh X a ≤ 0
  · have ea : acL X a j (nI e) = sAt X a (nI j) := by rw [acL, if_pos ta]
    have ea2 : acL (acL X b k (nI f)) a j (nI e) = sAt (acL X b k (nI f)) a (nI j) := by rw [acL, t2, if_pos ta]
    rw [ea2, ea]
    by_cases tb : lTh X b ≤ 0
    · have tb' : lTh (sAt X a (nI j)) b ≤ 0 := tb
      rw [acL, if_pos tb', acL, if_pos tb]
      refine ⟨rfl, fun _ _ => ⟨rfl, rfl, rfl⟩, fun i _ => ⟨?_, rfl⟩⟩
      show upd (upd (lAt X) a (nI j)) b (nI k) i = upd (upd (lAt X) b (nI k)) a (nI j) i
      rw [updC ne]
    · have tb' : ¬ lTh (sAt X a (nI j)) b ≤ 0 := tb
      rw [acL, if_neg tb', acL, if_neg tb]
      refine ⟨rfl, fun _ _ => ⟨rfl, rfl, rfl⟩, fun i _ => ⟨?_, rfl⟩⟩
      show upd (upd (lAt X) a (nI j)) b (nI k) i = upd (upd (lAt X) b (nI k)) a (nI j) i
      rw [updC ne]
  · have ea : acL X a j (nI e) = sSm (sTh (sAt X a (nI j)) a (lTh X a - 1)) j (min99 (lSm X j + nI e)) := by rw [acL, if_neg ta]
    have ea2 : acL (acL X b k (nI f)) a j (nI e) = sSm (sTh (sAt (acL X b k (nI f)) a (nI j)) a (lTh X a - 1)) j (min99 (lSm (acL X b k (nI f)) j + nI e)) := by rw [acL, t2, if_neg ta]
    rw [ea] at t1
    by_cases tb : lTh X b ≤ 0
    · rw [ea2, ea]
      have eb : acL X b k (nI f) = sAt X b (nI k) := by rw [acL, if_pos tb]
      rw [eb, acL, t1, if_pos tb]
      refine ⟨rfl, fun _ _ => ⟨rfl, rfl, rfl⟩, fun i _ => ⟨?_, rfl⟩⟩
      show upd (upd (lAt X) a (nI j)) b (nI k) i = upd (upd (lAt X) b (nI k)) a (nI j) i
      rw [updC ne]
    · rw [ea2, ea]
      have eb : acL X b k (nI f) = sSm (sTh (sAt X b (nI k)) b (lTh X b - 1)) k (min99 (lSm X k + nI f)) := by rw [acL, if_neg tb]
      rw [eb, acL, t1, if_neg tb]
      refine ⟨by rw [f_d1, f_d2, f_d3, f_d1, f_d2, f_d3, f_d1, f_d2, f_d3, f_d1, f_d2, f_d3], fun i hi => ⟨by rw [f_s1, f_s2, f_s3, f_s1, f_s2, f_s3, f_s1, f_s2, f_s3, f_s1, f_s2, f_s3], ?_, by rw [f_t1, f_t2, f_t3, f_t1, f_t2, f_t3, f_t1, f_t2, f_t3, f_t1, f_t2, f_t3]⟩, fun i _ => ⟨?_, ?_⟩⟩
      · rw [f_m1, f_m2, f_m3, f_m1, f_m2, f_m3, f_m1, f_m2, f_m3, f_m1, f_m2, f_m3]
        by_cases ejk : j = k
        · subst ejk
          rw [pk_us, pk_us]
          by_cases ei : i = j
          · subst ei
            rw [pk_us, pk_us]
            obtain ⟨x, x1, x2⟩ := (hL.1 i hj).2.1
            rw [x2]
            exact min99_c x1 he hf
          · rw [pk_un ei, pk_un ei, pk_un ei, pk_un ei]
        · rw [pk_un (Ne.symm ejk), pk_un ejk, updC ejk]
      · rw [f_a1, f_a2, f_a3, f_a1, f_a2, f_a3, f_a1, f_a2, f_a3, f_a1, f_a2, f_a3, updC ne]
      · rw [f_h1, f_h2, f_h3, f_h1, f_h2, f_h3, f_h1, f_h2, f_h3, f_h1, f_h2, f_h3, updC ne]
theorem plL_ac {T : ToldV} {a : Nat} {c : Int32} (hn : tN_ T ≤ 12) (hL : LOK (tN_ T) (tW T) X) (ha : a < tW T) : LE (tN_ T) (tW T) (plL T X a c) (acL X a (jN (tN_ T) X a c) (2 * tSk T a + 3)) := by
  obtain ⟨j, j1, j2⟩ := (hL.2 a ha).1
  have cj : cl (lAt X a) = j := by rw [j2]; exact nI_clamp (by omega)
  have hs : ∀ Y : LandV, lTh Y = lTh X → lSm Y = lSm X → lDay Y = lDay X → lStr Y = lStr X → lSt Y = lSt X → lAt Y a = nI (jN (tN_ T) X a c) → (∀ i, i < tW T → lAt Y i = upd (lAt X) a (nI (jN (tN_ T) X a c)) i) → LE (tN_ T) (tW T) (mendL (tSk T) Y a) (acL X a (jN (tN_ T) X a c) (2 * tSk T a + 3)) := by
    intro Y e1 e2 e3 e4 e5 e6 e7
    have hJ : jN (tN_ T) X a c < tN_ T := by
      unfold jN; split
      · exact aftN_lt (by omega)
      · rw [cj]; exact j1
    unfold mendL acL
    rw [e1]
    split
    · exact ⟨e3, fun _ _ => ⟨by rw [e4]; rfl, by rw [e2]; rfl, by rw [e5]; rfl⟩, fun i hi => ⟨e7 i hi, by rw [e1]; rfl⟩⟩
    · dsimp only
      rw [e6, show (nI (jN (tN_ T) X a c)).toNatClampNeg = jN (tN_ T) X a c from nI_clamp (by omega), e2, Int32.add_assoc]
      refine ⟨e3, fun i _ => ⟨by show lStr Y i = _; rw [e4]; rfl, ?_, by show lSt Y i = _; rw [e5]; rfl⟩, fun i hi => ⟨e7 i hi, ?_⟩⟩
      · show upd (lSm Y) _ _ i = upd (lSm X) _ _ i
        rw [e2]
      · show upd (lTh Y) _ _ i = upd (lTh X) _ _ i
        rw [e1]
  unfold plL
  by_cases ec : c = 1
  · rw [if_pos ec]
    have ej : jN (tN_ T) X a c = aftN (tN_ T) (cl (lAt X a)) := by rw [jN, if_pos ec]
    refine hs (goL (tN_ T) X a) rfl rfl rfl rfl rfl ?_ (fun i _ => ?_)
    · rw [ej]; exact pk_us
    · rw [ej]; rfl
  · rw [if_neg ec]
    have ej : jN (tN_ T) X a c = j := by rw [jN, if_neg ec, cj]
    refine hs X rfl rfl rfl rfl rfl (by rw [ej]; exact j2) (fun i _ => ?_)
    rw [ej]
    by_cases ei : i = a
    · subst ei; rw [pk_us]; exact j2
    · rw [pk_un ei]
theorem LOK.pl {T : ToldV} {a : Nat} {c : Int32} (hn : tN_ T ≤ 12) (h0 : 0 < tN_ T) (hs : SkOK T) (hL : LOK (tN_ T) (tW T) X) (ha : a < tW T) : LOK (tN_ T) (tW T) (plL T X a c) := by
  unfold plL
  refine LOK.mend ?_ hn ha (hs a ha)
  split
  · exact hL.go h0
  · exact hL
theorem LE.ac {Y : LandV} {a j : Nat} {e : Int32} (q : LE n w X Y) (ha : a < w) : LE n w (acL X a j e) (acL Y a j e) := by
  unfold acL
  rw [q.th ha]
  split
  · exact q.uAt a (fun _ => rfl)
  · exact ((q.uAt a (fun _ => rfl)).uTh a (fun _ => rfl)).uSm j (fun hj => by rw [q.sm hj])
theorem pl_comm {T : ToldV} {a b : Nat} {c e : Int32} (hn : tN_ T ≤ 12) (h0 : 0 < tN_ T) (hs : SkOK T) (hL : LOK (tN_ T) (tW T) X) (ha : a < tW T) (hb : b < tW T) (ne : a ≠ b) : LE (tN_ T) (tW T) (plL T (plL T X a c) b e) (plL T (plL T X b e) a c) := by
  have jr : ∀ (u : Nat) (x : Int32), u < tW T → jN (tN_ T) X u x < tN_ T := by
    intro u x hu
    obtain ⟨j, j1, j2⟩ := (hL.2 u hu).1
    unfold jN; split
    · exact aftN_lt h0
    · rw [j2, show cl (nI j) = j from nI_clamp (by omega)]; exact j1
  have jk : ∀ (u v : Nat) (x y : Int32), u < tW T → v < tW T → u ≠ v → jN (tN_ T) (plL T X u x) v y = jN (tN_ T) X v y := by
    intro u v x y hu hv nuv
    have : lAt (plL T X u x) v = lAt X v := by
      have q := (plL_ac (c := x) hn hL hu).at_ hv
      rw [q]
      unfold acL; split
      · exact pk_un (Ne.symm nuv)
      · exact pk_un (Ne.symm nuv)
    unfold jN; rw [this]
  obtain ⟨sa, sa1, sa2⟩ := hs a ha
  obtain ⟨sb, sb1, sb2⟩ := hs b hb
  have ga : 2 * tSk T a + 3 = nI (2 * sa + 3) := by rw [sa2, show (2 : Int32) = nI 2 from rfl, show (3 : Int32) = nI 3 from rfl, pk_mul, nI_add]
  have gb : 2 * tSk T b + 3 = nI (2 * sb + 3) := by rw [sb2, show (2 : Int32) = nI 2 from rfl, show (3 : Int32) = nI 3 from rfl, pk_mul, nI_add]
  have h1 := plL_ac (T := T) (c := e) hn (hL.pl (c := c) hn h0 hs ha) hb
  have h2 := plL_ac (T := T) (c := c) hn (hL.pl (c := e) hn h0 hs hb) ha
  rw [jk a b c e ha hb ne] at h1
  rw [jk b a e c hb ha (Ne.symm ne)] at h2
  have h3 := (plL_ac (T := T) (c := c) hn hL ha).ac (j := jN (tN_ T) X b e) (e := 2 * tSk T b + 3) hb
  have h4 := (plL_ac (T := T) (c := e) hn hL hb).ac (j := jN (tN_ T) X a c) (e := 2 * tSk T a + 3) ha
  have h5 := acL_comm (j := jN (tN_ T) X a c) (k := jN (tN_ T) X b e) (e := 2 * sa + 3) (f := 2 * sb + 3) hL ne (jr a c ha) (jr b e hb) (by omega) (by omega)
  rw [ga] at h3 h4 h2
  rw [gb] at h3 h4 h1
  exact ((h1.trans h3).trans h5).trans (h4.symm.trans h2.symm)
end PL
section RY
variable {g : GG} {h h2 : Hp} {B b d D k kc ks mc ms : Nat} {T : ToldV} {X Y : LandV} {R0 R R' : RefV} {s s' : CoreV} {a : Int32}
theorem d_plays (hg : GOK g) (hd : 11 ≤ d) (hR : RA h B R) (hI : IV s) (hX : TM (sT s) Y R) (hL : LOK (sN s) (sW s) Y) (hk : k < sW s) (c : Int32) : CT g d yX12_plays (wsC yX12_plays cX12_plays 3 none) [.ref B, .int (nI k), .int c] h 0 0 (fun r h2 => r = none ∧ ∃ R', h2 = pR h B R' ∧ TX (sT s) 49 (plL (sT s) Y k c) R R') noT := by
  have o1 := hI.o1
  refine CT_ofB (by decide +kernel) (Nat.le_of_ble_eq_true rfl) rfl fun K XX => ?_
  have fin : ∀ (R1 : RefV) (Y1 : LandV), TX (sT s) 49 Y1 R R1 → LOK (sN s) (sW s) Y1 → mendL (tSk (sT s)) Y1 k = plL (sT s) Y k c → VB g K 3 d 0 0 (fun r h2 => r = none ∧ ∃ R', h2 = pR h B R' ∧ TX (sT s) 49 (plL (sT s) Y k c) R R') noT 0 0 12 [some (.ref B), some (.int (nI k)), none] [] (pR h B R1) := by
    intro R1 Y1 x1 l1 e1
    have r1 := hR.put R1
    refine b_X12_plays_12 hg (by omega) k00 XX _ _ _ ⟨_, r1.o, use_vR (d_mends (b := 49) (d := d - 1) hg (by omega) r1 x1 l1 (k := k) hk) (by omega) k00 ?_⟩
    intro R2 x2
    rw [hR.pp]
    exact ⟨rfl, R2, rfl, by rw [← e1]; exact x2⟩
  refine b_X12_plays_0 hg (by omega) k00 XX _ _ _ _ ⟨fun y => ?_, fun y => ⟨_, hR.o, use_vR (d_goesOn (b := 49) (d := d - 1) hg (by omega) hR hX hL.aok (k := k) hk) (by omega) k00 ?_⟩⟩
  · have := fin R Y hX hL (by rw [plL, if_neg y])
    rw [hR.id] at this
    exact this
  · intro R1 x1
    exact fin R1 _ x1 (hL.go (by omega)) (by rw [plL, if_pos y])
/-- what she gains -/
def gaR (s : CoreV) (u v : Nat) (x y : Int32) : Int32 := lSm (daysT (sT s) 5 (plL (sT s) (plL (sT s) (sL s) u x) v y)) (cl (lAt (sL s) u)) / 10 - x
theorem c_gains {u v : Nat} (hg : GOK g) (hd : 17 ≤ d) (hR : RA h B R) (hI : IV s) (hS : RS s R) (hu : u < sW s) (hv : v < sW s) (ne : u ≠ v) (x y : Int32) : CT g d yX12_gains (wsC yX12_gains cX12_gains 5 (some .int)) [.ref B, .int (nI u), .int (nI v), .int x, .int y] h 0 0 (fun r h2 => r = some (.int (gaR s u v x y)) ∧ ∃ R', h2 = pR h B R' ∧ (QF R R' ∧ ri R' = ri R)) noT := by
  have o1 := hI.o1
  have o2 := hI.o2
  have o3 := hI.o3
  have n0 : 0 < tN_ (sT s) := by show 0 < sN s; omega
  refine CT_ofB (by decide +kernel) (Nat.le_of_ble_eq_true rfl) rfl fun K XX => ?_
  have fin : ∀ (R2 : RefV) (Y : LandV), TM (sT s) Y R2 → QF R R2 → ri R2 = ri R → LE (sN s) (sW s) Y (plL (sT s) (plL (sT s) (sL s) u x) v y) → VB g K 5 d 0 0 (fun r h2 => r = some (.int (gaR s u v x y)) ∧ ∃ R', h2 = pR h B R' ∧ (QF R R' ∧ ri R' = ri R)) noT 0 0 33 [some (.ref B), some (.int (nI u)), none, some (.int x), none] [] (pR h B R2) := by
    intro R2 Y t2 q2 i2 le
    have r2 := hR.put R2
    have t2' : TM (sT s) (plL (sT s) (plL (sT s) (sL s) u x) v y) R2 := TX.le t2 le
    have l2 : LOK (sN s) (sW s) (plL (sT s) (plL (sT s) (sL s) u x) v y) := (hI.lok.pl o2 n0 hI.sk hu).pl o2 n0 hI.sk hv
    refine b_X12_gains_33 hg (by omega) k00 XX _ _ _ _ ⟨_, r2.o, q_days (m := 5) hg r2 t2' l2 hI.td (by omega) (by omega) k00 ?_⟩
    intro R3 x3
    rw [hR.pp]
    have r3 := hR.put R3
    have q3 := q2.trans x3.qf
    have s3 := hS.qf hI q3
    obtain ⟨j, j1, j2⟩ := (hI.lok.2 u hu).1
    have cj : cl (lAt (sL s) u) = j := by rw [j2]; exact nI_clamp (by omega)
    refine ⟨_, r3.n40, _, r3.n40, ?_⟩
    rw [show (37 : Int32) + nI u = nI (37 + u) from nI_add 37 u]
    refine ⟨_, r3.r14 (by omega), ?_⟩
    rw [s3.at0 hu, j2, show (62 : Int32) + nI j = nI (62 + j) from nI_add 62 j]
    refine ⟨_, r3.r14 (by omega), ?_, R3, rfl, q3, by rw [x3.df.1, i2]⟩
    rw [x3.tm.sm j1, gaR, cj]
  refine b_X12_gains_0 hg (by omega) k00 XX _ _ _ _ _ _ ⟨_, hR.o, q_try hg hR hI hS (by omega) k00 ?_⟩
  rintro R1 ⟨q1, t1, i1, _⟩
  have r1 := hR.put R1
  refine ⟨fun y1 => ?_, fun y1 => ⟨_, r1.o, use_vR (d_plays (d := d - 1) hg (by omega) r1 hI t1 hI.lok hu x) (by omega) k00 ?_⟩⟩
  · have hvu : v < u := by have := le_nI (by omega) (by omega) y1; omega
    refine b_X12_gains_15 hg (by omega) k00 XX _ _ _ _ _ _ ⟨_, r1.o, use_vR (d_plays (d := d - 1) hg (by omega) r1 hI t1 hI.lok hv y) (by omega) k00 ?_⟩
    intro R2 x2
    rw [hR.pp]
    have r2 := hR.put R2
    refine ⟨fun y2 => absurd (le_nI (by omega) (by omega) y2) (by omega), fun _ => ⟨_, r2.o, use_vR (d_plays (d := d - 1) hg (by omega) r2 hI x2.tm (hI.lok.pl o2 n0 hI.sk hv) hu x) (by omega) k00 ?_⟩⟩
    intro R3 x3
    rw [hR.pp]
    exact fin R3 _ x3.tm ((q1.trans x2.qf).trans x3.qf) (by rw [x3.df.1, x2.df.1, i1]) (pl_comm o2 n0 hI.sk hI.lok hv hu (Ne.symm ne))
  · have huv : u < v := by have := nle_nI (by omega) (by omega) y1; omega
    intro R2 x2
    rw [hR.pp]
    have r2 := hR.put R2
    refine b_X12_gains_15 hg (by omega) k00 XX _ _ _ _ _ _ ⟨_, r2.o, use_vR (d_plays (d := d - 1) hg (by omega) r2 hI x2.tm (hI.lok.pl o2 n0 hI.sk hu) hv y) (by omega) k00 ?_⟩
    intro R3 x3
    rw [hR.pp]
    refine ⟨fun _ => fin R3 _ x3.tm ((q1.trans x2.qf).trans x3.qf) (by rw [x3.df.1, x2.df.1, i1]) (LE.refl _ _ _), fun y2 => absurd (nle_nI (by omega) (by omega) y2) (by omega)⟩
def rsR (s : CoreV) (u v c : Nat) : Bool := !decide (gaR s u v (nI (c / 2)) (nI (c % 2)) < gaR s u v (nI (1 - c / 2)) (nI (c % 2))) && !decide (gaR s v u (nI (c % 2)) (nI (c / 2)) < gaR s v u (nI (1 - c % 2)) (nI (c / 2)))
def gmR (r : Nat → Bool) (c : Nat) (p : Int32 × Int32) : Int32 × Int32 := if r c then (p.1 + 1, if p.2 = -1 then 10 * nI (c / 2) + nI (c % 2) else p.2) else p
theorem gm_eq {s : CoreV} {u v : Nat} (hI : IV s) (hu : u < sW s) (hv : v < sW s) (ne : u ≠ v) : gmF s u v = foldN (gmR (rsR s u v)) 4 0 (0, -1) := by
  have o1 := hI.o1
  have o2 := hI.o2
  have n0 : 0 < tN_ (sT s) := by show 0 < sN s; omega
  have bits : ∀ c, c < 4 → nI c >>> ((1 : Int32) &&& 31) = nI (c / 2) ∧ nI c &&& 1 = nI (c % 2) ∧ (c ^^^ 2) / 2 = 1 - c / 2 ∧ (c ^^^ 2) % 2 = c % 2 ∧ (c ^^^ 1) / 2 = c / 2 ∧ (c ^^^ 1) % 2 = 1 - c % 2 ∧ c ^^^ 2 < 4 ∧ c ^^^ 1 < 4 := by decide +kernel
  have eA : ∀ c, c < 4 → gnA s u v c = gaR s u v (nI (c / 2)) (nI (c % 2)) := by
    intro c hc
    obtain ⟨b1, b2, _⟩ := bits c hc
    rw [gnA, plX, b1, b2]; rfl
  have eB : ∀ c, c < 4 → gnB s u v c = gaR s v u (nI (c % 2)) (nI (c / 2)) := by
    intro c hc
    obtain ⟨b1, b2, _⟩ := bits c hc
    rw [gnB, plX, b1, b2, gaR]
    obtain ⟨j, j1, j2⟩ := (hI.lok.2 v hv).1
    have cj : cl (lAt (sL s) v) < sN s := by rw [j2, show cl (nI j) = j from nI_clamp (by omega)]; exact j1
    have q := LE.dsT (T := sT s) o2 5 (pl_comm (T := sT s) (X := sL s) (a := u) (b := v) (c := nI (c / 2)) (e := nI (c % 2)) o2 n0 hI.sk hI.lok hu hv ne)
    rw [q.sm cj]
  have er : ∀ c, c < 4 → rsB s u v c = rsR s u v c := by
    intro c hc
    obtain ⟨_, _, b3, b4, b5, b6, b7, b8⟩ := bits c hc
    rw [rsB, rsR, eA c hc, eA _ b7, eB c hc, eB _ b8, b3, b4, b5, b6]
  have eg : ∀ c, c < 4 → ∀ p, gmG s u v c p = if rsR s u v c then (p.1 + 1, 10 * nI (c / 2) + nI (c % 2)) else p := by
    intro c hc p
    obtain ⟨b1, b2, _⟩ := bits c hc
    rw [gmG, er c hc, b1, b2]
  show gmG s u v 0 (gmG s u v 1 (gmG s u v 2 (gmG s u v 3 (0, -1)))) = gmR (rsR s u v) 3 (gmR (rsR s u v) 2 (gmR (rsR s u v) 1 (gmR (rsR s u v) 0 (0, -1))))
  rw [eg 0 (by omega), eg 1 (by omega), eg 2 (by omega), eg 3 (by omega)]
  unfold gmR
  cases rsR s u v 0 <;> cases rsR s u v 1 <;> cases rsR s u v 2 <;> cases rsR s u v 3 <;> decide
theorem r_game (hg : GOK g) (hd : 20 ≤ d) (hR : RA h B R) (hI : IV s) (hS : RS s R) (u v w : Int32) : CT g d yX12_game (wsC yX12_game cX12_game 9 (some .int)) [.ref B, .int u, .int v, .int w] h 0 0 (PrM h B cd2 s (m_game s u v w)) noT := by
  have o2 := hI.o2
  have o3 := hI.o3
  refine CT_ofB (by decide +kernel) (Nat.le_of_ble_eq_true rfl) rfl fun K XX => ?_
  have r1 := hR.put (sI R 0 0)
  have s1 := hS.s0 hI
  have z1 : ri (sI R 0 0) 0 = 0 := ri_sI
  refine b_X12_game_0 hg (by omega) k00 XX _ _ _ _ _ ⟨_, hR.w0 0, ?_⟩
  generalize sI R 0 0 = R1 at *
  refine ⟨_, r1.o, use_ck (d_isWoman (d := d - 1) hg (by omega) r1 z1 s1.w u) (by omega) k00 (fun c => ⟨fun e => absurd e (by decide), fun _ => ?_⟩) (fun c => ⟨fun _ => ptM (b := true) hI s1 ((QF.refl R1).i rfl) ri_sI (by rw [m_game, c]; rfl) (hR.pp _ _), fun e => absurd rfl e⟩)⟩
  refine ⟨_, r1.o, use_ck (d_isWoman (d := d - 1) hg (by omega) r1 z1 s1.w v) (by omega) k00 (fun c2 => ⟨fun e => absurd e (by decide), fun _ => ?_⟩) (fun c2 => ⟨fun _ => ptM (b := true) hI s1 ((QF.refl R1).i rfl) ri_sI (by rw [m_game, c, c2]; rfl) (hR.pp _ _), fun e => absurd rfl e⟩)⟩
  refine ⟨_, r1.o, use_ck (d_isWhat (d := d - 1) hg (by omega) r1 z1 w 1) (by omega) k00 (fun c3 => ⟨fun e => absurd e (by decide), fun _ => ?_⟩) (fun c3 => ⟨fun _ => ptM (b := true) hI s1 ((QF.refl R1).i rfl) ri_sI (by rw [m_game, c, c2, c3]; rfl) (hR.pp _ _), fun e => absurd rfl e⟩)⟩
  refine ⟨fun y => b_X12_game_41 hg (by omega) k00 XX _ _ _ _ _ _ _ ⟨_, r1.o, use_ck (d_right (w := 2) (c := false) (d := d - 1) hg (by omega) r1 z1 (by decide)) (by omega) k00 (fun e => absurd e (by decide)) (fun _ => ⟨fun e => absurd rfl e, fun _ => ptM (b := false) hI s1 ((QF.refl R1).i rfl) ri_sI (by rw [m_game, if_pos c, if_pos c2, if_pos c3, if_pos y]) (hR.pp _ _)⟩)⟩, fun y => b_X12_game_41 hg (by omega) k00 XX _ _ _ _ _ _ _ ⟨_, r1.o, use_ck (d_right (w := 2) (c := true) (d := d - 1) hg (by omega) r1 z1 (by decide)) (by omega) k00 (fun _ => ⟨fun _ => ?_, fun e => absurd e (by decide)⟩) (fun e => absurd e (by decide))⟩⟩
  obtain ⟨eu, hu⟩ := inB_k (by omega) c
  obtain ⟨ev, hv⟩ := inB_k (by omega) c2
  have ne : cl u ≠ cl v := fun e => y (by rw [eu, ev, e])
  have em : m_game s u v w = .inl (if w = 0 then (foldN (gmR (rsR s (cl u) (cl v))) 4 0 (0, -1)).1 else (foldN (gmR (rsR s (cl u) (cl v))) 4 0 (0, -1)).2, s) := by
    rw [m_game, if_pos c, if_pos c2, if_pos c3, if_neg y, gm_eq hI hu hv ne]
  rw [em]
  generalize cl u = i at *
  generalize cl v = j at *
  rw [eu, ev]
  generalize hF : foldN (gmR (rsR s i j)) 4 0 (0, -1) = F
  have lp : ∀ (jj k : Nat) (R2 : RefV) (p : Int32 × Int32), k + jj = 4 → QF R1 R2 → ri R2 0 = 0 → foldN (gmR (rsR s i j)) jj k p = F → VB g K 9 d 0 0 (PrM h B cd2 s (.inl (if w = 0 then F.1 else F.2, s))) noT 0 0 59 [some (.ref B), some (.int (nI i)), some (.int (nI j)), some (.int w), some (.int p.1), some (.int p.2), some (.int (nI k)), none, none] [] (pR h B R2) := by
    intro jj
    induction jj with
    | zero =>
      intro k R2 p hk q2 z2 he
      have he' : p = F := he
      exact b_X12_game_59 hg (by omega) k00 XX _ _ _ _ _ _ _ _ ⟨fun _ => ⟨fun y => prM hI s1 q2 z2 (by rw [if_neg y, he']) rfl, fun y => prM hI s1 q2 z2 (by rw [if_pos y, he']) rfl⟩, fun q => absurd (nle_nI (x := 4) (by omega) (by omega) q) (by omega)⟩
    | succ jj ih =>
      intro k R2 p hk q2 z2 he
      have r2 := hR.put R2
      have s2 := s1.qf hI q2
      rw [foldN] at he
      have nxt : ∀ (R6 : RefV) (p6 : Int32 × Int32), QF R1 R6 → ri R6 0 = 0 → p6 = gmR (rsR s i j) k p → VB g K 9 d 0 0 (PrM h B cd2 s (.inl (if w = 0 then F.1 else F.2, s))) noT 0 0 149 [some (.ref B), some (.int (nI i)), some (.int (nI j)), some (.int w), some (.int p6.1), some (.int p6.2), some (.int (nI k)), none, none] [] (pR h B R6) := by
        intro R6 p6 q6 z6 e6
        refine b_X12_game_149 hg (by omega) k00 XX _ _ _ _ _ _ _ _ ?_
        rw [nI_s]
        exact ih (k + 1) R6 p6 (by omega) q6 z6 (by rw [e6]; exact he)
      refine b_X12_game_59 hg (by omega) k00 XX _ _ _ _ _ _ _ _ ⟨fun q => absurd (le_nI (x := 4) (by omega) (by omega) q) (by omega), fun _ => ⟨_, r2.o, ?_⟩⟩
      rw [show (2 : Int32) = nI 2 from rfl, nI_rem (by omega) (by omega) (by omega), pk_div (by omega) (by omega) (by omega), show (1 : Int32) - nI (k / 2) = nI (1 - k / 2) from pk_sub (a := 1) (by omega), show (1 : Int32) - nI (k % 2) = nI (1 - k % 2) from pk_sub (a := 1) (by omega)]
      refine use_iR (c_gains (d := d - 1) hg (by omega) r2 hI s2 hu hv ne _ _) (by omega) k00 ?_
      rintro R3 ⟨q3, i3⟩
      rw [hR.pp]
      have r3 := hR.put R3
      have s3 := s2.qf hI q3
      refine ⟨_, r3.o, use_iR (c_gains (d := d - 1) hg (by omega) r3 hI s3 hu hv ne _ _) (by omega) k00 ?_⟩
      rintro R4 ⟨q4, i4⟩
      rw [hR.pp]
      have r4 := hR.put R4
      have s4 := s3.qf hI q4
      have qq4 := (q2.trans q3).trans q4
      have zz4 : ri R4 0 = 0 := by rw [i4, i3, z2]
      refine ⟨fun y1 => nxt R4 p qq4 zz4 ?_, fun y1 => ⟨_, r4.o, use_iR (c_gains (d := d - 1) hg (by omega) r4 hI s4 hv hu (Ne.symm ne) _ _) (by omega) k00 ?_⟩⟩
      · rw [gmR, if_neg]
        rw [rsR, decide_eq_true y1]; simp
      rintro R5 ⟨q5, i5⟩
      rw [hR.pp]
      have r5 := hR.put R5
      have s5 := s4.qf hI q5
      refine ⟨_, r5.o, use_iR (c_gains (d := d - 1) hg (by omega) r5 hI s5 hv hu (Ne.symm ne) _ _) (by omega) k00 ?_⟩
      rintro R6 ⟨q6, i6⟩
      rw [hR.pp]
      have qq6 := (qq4.trans q5).trans q6
      have zz6 : ri R6 0 = 0 := by rw [i6, i5, zz4]
      refine ⟨fun y2 => ⟨fun y3 => nxt R6 (p.1 + 1, p.2) qq6 zz6 ?_, fun y3 => nxt R6 (p.1 + 1, 10 * nI (k / 2) + nI (k % 2)) qq6 zz6 ?_⟩, fun y2 => nxt R6 p qq6 zz6 ?_⟩
      · rw [gmR, if_pos, if_neg y3]
        rw [rsR, decide_eq_false y1, decide_eq_false (Int32.not_lt.mpr y2)]; rfl
      · rw [gmR, if_pos, if_pos y3]
        rw [rsR, decide_eq_false y1, decide_eq_false (Int32.not_lt.mpr y2)]; rfl
      · rw [gmR, if_neg]
        rw [rsR, decide_eq_true (Int32.not_le.mp y2)]; simp
  exact lp 4 0 R1 (0, -1) (by omega) (QF.refl _) z1 hF
end RY
