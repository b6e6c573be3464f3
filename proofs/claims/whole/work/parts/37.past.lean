/-! PAST, SEEN, MOMENT -/
abbrev PastV : Type := Nat × Nat × AF
def pastC (a : Nat) (P : PastV) : List va_E := [.inr (4, [.int (nI P.1), .int (nI P.2.1), .ref (a + 1)]), .inl (0, 1960, .inl P.2.2)]
abbrev PAt (h : Hp) (a : Nat) (P : PastV) : Prop := Chunk h a (pastC a P)
abbrev SeenV : Type := Nat × AF × AF × AF
def seenC (a : Nat) (S : SeenV) : List va_E := [.inr (7, [.int (nI S.1), .ref (a + 1), .ref (a + 2), .ref (a + 3)]), .inl (0, 8, .inl S.2.1), .inl (0, 8, .inl S.2.2.1), .inl (0, 8, .inl S.2.2.2)]
abbrev SAt (h : Hp) (a : Nat) (S : SeenV) : Prop := Chunk h a (seenC a S)
section PP
variable {h : Hp} {a c : Nat} {P P2 : PastV} {S S2 : SeenV}
theorem PAt.o (q : PAt h a P) : oF h a 4 = some [.int (nI P.1), .int (nI P.2.1), .ref (a + 1)] := oF_of (q 0 _ rfl)
theorem PAt.g0 (q : PAt h a P) : gI h a 4 0 = some (nI P.1) := by unfold gI; rw [q.o]; rfl
theorem PAt.g1 (q : PAt h a P) : gI h a 4 1 = some (nI P.2.1) := by unfold gI; rw [q.o]; rfl
theorem PAt.g2 (q : PAt h a P) : gN h a 4 2 = some (a + 1) := by unfold gN; rw [q.o]; rfl
theorem PAt.f1 (q : PAt h a P) : aF h 0 (a + 1) = some (1960, P.2.2) := aF_of (q 1 _ rfl)
theorem PAt.l1 (q : PAt h a P) : lenA h (a + 1) = some (nI 1960) := by unfold lenA; rw [show h[a + 1]? = _ from q 1 _ rfl]; rfl
abbrev pP (h : Hp) (a : Nat) (P : PastV) : Hp := putC h a (pastC a P)
theorem PAt.put (q : PAt h a P) (P' : PastV) : PAt (pP h a P') a P' := Chunk.put (q.le (by simp [pastC]))
theorem PAt.pp (q : PAt h a P) (P1 P2 : PastV) : pP (pP h a P1) a P2 = pP h a P2 := putC_putC rfl (q.le (by simp [pastC]))
theorem PAt.id (q : PAt h a P) : pP h a P = h := putC_self q
theorem PAt.w0 (q : PAt h a P) {m : Nat} : pF h a 4 0 (.int (nI m)) = some (pP h a (m, P.2)) := by
  unfold pF
  rw [q.o]
  simp only [List.length_cons, List.length_nil, Nat.zero_add, Nat.reduceAdd, Nat.zero_lt_succ, if_true]
  rw [show h.set a = h.set (a + 0) from rfl, q.set (j := 0) (by simp [pastC])]
  rfl
theorem PAt.w1 (q : PAt h a P) {m : Nat} : pF h a 4 1 (.int (nI m)) = some (pP h a (P.1, m, P.2.2)) := by
  unfold pF
  rw [q.o]
  simp only [List.length_cons, List.length_nil, Nat.zero_add, Nat.reduceAdd, Nat.reduceLT, if_true]
  rw [show h.set a = h.set (a + 0) from rfl, q.set (j := 0) (by simp [pastC])]
  rfl
theorem PAt.wS (q : PAt h a P) {f : AF} : h.set (a + 1) (.inl (0, 1960, .inl f)) = pP h a (P.1, P.2.1, f) := by
  rw [q.set (j := 1) (by simp [pastC])]; rfl
theorem SAt.o (q : SAt h a S) : oF h a 7 = some [.int (nI S.1), .ref (a + 1), .ref (a + 2), .ref (a + 3)] := oF_of (q 0 _ rfl)
theorem SAt.g0 (q : SAt h a S) : gI h a 7 0 = some (nI S.1) := by unfold gI; rw [q.o]; rfl
theorem SAt.g1 (q : SAt h a S) : gN h a 7 1 = some (a + 1) := by unfold gN; rw [q.o]; rfl
theorem SAt.g2 (q : SAt h a S) : gN h a 7 2 = some (a + 2) := by unfold gN; rw [q.o]; rfl
theorem SAt.g3 (q : SAt h a S) : gN h a 7 3 = some (a + 3) := by unfold gN; rw [q.o]; rfl
theorem SAt.f1 (q : SAt h a S) : aF h 0 (a + 1) = some (8, S.2.1) := aF_of (q 1 _ rfl)
theorem SAt.f2 (q : SAt h a S) : aF h 0 (a + 2) = some (8, S.2.2.1) := aF_of (q 2 _ rfl)
theorem SAt.f3 (q : SAt h a S) : aF h 0 (a + 3) = some (8, S.2.2.2) := aF_of (q 3 _ rfl)
abbrev pSn (h : Hp) (a : Nat) (S : SeenV) : Hp := putC h a (seenC a S)
theorem SAt.put (q : SAt h a S) (S' : SeenV) : SAt (pSn h a S') a S' := Chunk.put (q.le (by simp [seenC]))
theorem SAt.pp (q : SAt h a S) (P1 P2 : SeenV) : pSn (pSn h a P1) a P2 = pSn h a P2 := putC_putC rfl (q.le (by simp [seenC]))
theorem SAt.id (q : SAt h a S) : pSn h a S = h := putC_self q
theorem SAt.w0 (q : SAt h a S) {m : Nat} : pF h a 7 0 (.int (nI m)) = some (pSn h a (m, S.2)) := by
  unfold pF
  rw [q.o]
  simp only [List.length_cons, List.length_nil, Nat.zero_add, Nat.reduceAdd, Nat.zero_lt_succ, if_true]
  rw [show h.set a = h.set (a + 0) from rfl, q.set (j := 0) (by simp [seenC])]
  rfl
theorem SAt.w1 (q : SAt h a S) {k : Nat} {x : Int32} (hk : k < 8) : uI h 0 (a + 1) (nI k) x = some (pSn h a (S.1, upd S.2.1 k x, S.2.2)) := by
  rw [uI_of q.f1 hk (by omega), q.set (j := 1) (by simp [seenC])]; rfl
theorem SAt.w2 (q : SAt h a S) {k : Nat} {x : Int32} (hk : k < 8) : uI h 0 (a + 2) (nI k) x = some (pSn h a (S.1, S.2.1, upd S.2.2.1 k x, S.2.2.2)) := by
  rw [uI_of q.f2 hk (by omega), q.set (j := 2) (by simp [seenC])]; rfl
theorem SAt.w3 (q : SAt h a S) {k : Nat} {x : Int32} (hk : k < 8) : uI h 0 (a + 3) (nI k) x = some (pSn h a (S.1, S.2.1, S.2.2.1, upd S.2.2.2 k x)) := by
  rw [uI_of q.f3 hk (by omega), q.set (j := 3) (by simp [seenC])]; rfl
theorem SAt.r1 (q : SAt h a S) {k : Nat} (hk : k < 8) : aI h 0 (a + 1) (nI k) = some (S.2.1 k) := aI_of q.f1 hk (by omega)
theorem SAt.r2 (q : SAt h a S) {k : Nat} (hk : k < 8) : aI h 0 (a + 2) (nI k) = some (S.2.2.1 k) := aI_of q.f2 hk (by omega)
theorem SAt.r3 (q : SAt h a S) {k : Nat} (hk : k < 8) : aI h 0 (a + 3) (nI k) = some (S.2.2.2 k) := aI_of q.f3 hk (by omega)
end PP
section C8
variable {g : GG} {h : Hp} {a b c d : Nat} {L : LandV} {T : ToldV} {P P2 : PastV} {S S2 : SeenV}
theorem LA.s1 (q : LA h a L) (f : AF) : h.set (a + 1) (.inl (0, 12, .inl f)) = pL h a (setStr L f) := by rw [q.set (j := 1) (by simp [landC])]; rfl
theorem LA.s2 (q : LA h a L) (f : AF) : h.set (a + 2) (.inl (0, 12, .inl f)) = pL h a (stSm L f) := by rw [q.set (j := 2) (by simp [landC])]; rfl
theorem LA.s3 (q : LA h a L) (f : AF) : h.set (a + 3) (.inl (0, 12, .inl f)) = pL h a (stSt L f) := by rw [q.set (j := 3) (by simp [landC])]; rfl
theorem LA.s4 (q : LA h a L) (f : AF) : h.set (a + 4) (.inl (0, 6, .inl f)) = pL h a (stAt L f) := by rw [q.set (j := 4) (by simp [landC])]; rfl
theorem LA.s5 (q : LA h a L) (f : AF) : h.set (a + 5) (.inl (0, 6, .inl f)) = pL h a (stTh L f) := by rw [q.set (j := 5) (by simp [landC])]; rfl
theorem SAt.s1 (q : SAt h a S) (f : AF) : h.set (a + 1) (.inl (0, 8, .inl f)) = pSn h a (S.1, f, S.2.2) := by rw [q.set (j := 1) (by simp [seenC])]; rfl
theorem SAt.s2 (q : SAt h a S) (f : AF) : h.set (a + 2) (.inl (0, 8, .inl f)) = pSn h a (S.1, S.2.1, f, S.2.2.2) := by rw [q.set (j := 2) (by simp [seenC])]; rfl
theorem SAt.s3 (q : SAt h a S) (f : AF) : h.set (a + 3) (.inl (0, 8, .inl f)) = pSn h a (S.1, S.2.1, S.2.2.1, f) := by rw [q.set (j := 3) (by simp [seenC])]; rfl
/-- a Land written into a row at p -/
def wrP (st : AF) (p : Nat) (L : LandV) : AF :=
  cpyF (lTh L) (cpyF (lAt L) (cpyF (lSt L) (cpyF (lSm L) (cpyF (lStr L) (upd st p (lDay L)) 0 (p + 1) 12 1960) 0 (p + 13) 12 1960) 0 (p + 25) 12 1960) 0 (p + 37) 6 1960) 0 (p + 43) 6 1960
theorem nI_ad (p k : Nat) : nI p + (OfNat.ofNat k : Int32) = nI (p + k) := nI_add p k
theorem e1 (p : Nat) : nI p + 1 = nI (p + 1) := nI_ad p 1
theorem e12 (p : Nat) : nI (p + 1) + 12 = nI (p + 13) := nI_ad (p + 1) 12
theorem e24 (p : Nat) : nI (p + 1) + 24 = nI (p + 25) := nI_ad (p + 1) 24
theorem e36 (p : Nat) : nI (p + 1) + 36 = nI (p + 37) := nI_ad (p + 1) 36
theorem e42 (p : Nat) : nI (p + 37) + 6 = nI (p + 43) := nI_ad (p + 37) 6
theorem c_writeTo (hg : GOK g) (hd : 8 ≤ d) (hL : LA h a L) (hP : PAt h c P) (hj : a + 7 ≤ c ∨ c + 2 ≤ a) {p : Nat} (hp : p + 49 ≤ 1960) : CT g d yX2_writeTo (wsC yX2_writeTo cX2_writeTo 4 none) [.ref a, .ref (c + 1), .int (nI p)] h 0 0 (fun v h2 => v = none ∧ h2 = pP h c (P.1, P.2.1, wrP P.2.2 p L)) noT := by
  refine CT_ofB (by decide +kernel) (Nat.le_of_ble_eq_true rfl) rfl fun K X => ?_
  have off : ∀ P', LA (pP h c P') a L := fun P' => Chunk.off hL (by simp only [landC, pastC, List.length_cons, List.length_nil]; omega)
  have st1 : uI h 0 (c + 1) (nI p) (lDay L) = some (pP h c (P.1, P.2.1, upd P.2.2 p (lDay L))) := by
    rw [uI_of hP.f1 (by omega) (by omega), ← hP.wS]; rfl
  have cp : ∀ (s : AF) (a0 n t : Nat) (f : AF), (∀ P', aF (pP h c P') 0 a0 = some (n, f)) → n ≤ 12 → t + n ≤ 1960 → cpA (pP h c (P.1, P.2.1, s)) a0 (nI 0) (c + 1) (nI t) (nI n) = some (pP h c (P.1, P.2.1, cpyF f s 0 t n 1960)) := by
    intro s a0 n t f hf hn ht
    have q := hP.put (P.1, P.2.1, s)
    rw [cpA_of (hf _) q.f1 (by omega) ht (by omega) (by omega), q.wS, hP.pp]
  refine b_X2_writeTo_0 hg hd k00 X _ _ _ _ ⟨fun q => absurd q (nI_pos (by omega)), fun _ => ⟨_, hP.l1, fun _ => ?_, fun q => absurd (nI_le (by omega) (by omega)) (by rw [nI_ad] at q; exact q)⟩⟩
  refine ⟨_, hL.g0, _, st1, _, (off _).g1, ?_⟩
  simp only [e1, e12, e24, e36, e42]
  refine ⟨_, cp _ (a + 1) 12 (p + 1) _ (fun P' => (off P').f1) (by omega) (by omega), _, (off _).g2, ?_⟩
  refine ⟨_, cp _ (a + 2) 12 (p + 13) _ (fun P' => (off P').f2) (by omega) (by omega), _, (off _).g3, ?_⟩
  refine ⟨_, cp _ (a + 3) 12 (p + 25) _ (fun P' => (off P').f3) (by omega) (by omega), _, (off _).g4, ?_⟩
  refine ⟨_, cp _ (a + 4) 6 (p + 37) _ (fun P' => (off P').f4) (by omega) (by omega), _, (off _).g5, ?_⟩
  refine ⟨_, cp _ (a + 5) 6 (p + 43) _ (fun P' => (off P').f5) (by omega) (by omega), trivial, ?_⟩
  rw [wrP]
/-- a Land read out of a row at p -/
def rdL (L : LandV) (st : AF) (p : Nat) : LandV := (st p, cpyF st (lStr L) (p + 1) 0 12 12, cpyF st (lSm L) (p + 13) 0 12 12, cpyF st (lSt L) (p + 25) 0 12 12, cpyF st (lAt L) (p + 37) 0 6 6, cpyF st (lTh L) (p + 43) 0 6 6, lPu L)
theorem c_readFrom (hg : GOK g) (hd : 8 ≤ d) (hL : LA h a L) (hP : PAt h c P) (hj : a + 7 ≤ c ∨ c + 2 ≤ a) {p : Nat} (hp : p + 49 ≤ 1960) : CT g d yX2_readFrom (wsC yX2_readFrom cX2_readFrom 4 none) [.ref a, .ref (c + 1), .int (nI p)] h 0 0 (fun v h2 => v = none ∧ h2 = pL h a (rdL L P.2.2 p)) noT := by
  refine CT_ofB (by decide +kernel) (Nat.le_of_ble_eq_true rfl) rfl fun K X => ?_
  have off : ∀ L', PAt (pL h a L') c P := fun L' => Chunk.off hP (by simp only [landC, pastC, List.length_cons, List.length_nil]; omega)
  have q1 : ∀ (L1 : LandV), cpA (pL h a L1) (c + 1) (nI (p + 1)) (a + 1) (nI 0) (nI 12) = some (pL h a (setStr L1 (cpyF P.2.2 (lStr L1) (p + 1) 0 12 12))) := by
    intro L1
    have q := hL.put L1
    rw [cpA_of (off L1).f1 q.f1 (by omega) (by omega) (by omega) (by omega), q.s1, hL.pp]
  have q2 : ∀ (L1 : LandV), cpA (pL h a L1) (c + 1) (nI (p + 13)) (a + 2) (nI 0) (nI 12) = some (pL h a (stSm L1 (cpyF P.2.2 (lSm L1) (p + 13) 0 12 12))) := by
    intro L1
    have q := hL.put L1
    rw [cpA_of (off L1).f1 q.f2 (by omega) (by omega) (by omega) (by omega), q.s2, hL.pp]
  have q3 : ∀ (L1 : LandV), cpA (pL h a L1) (c + 1) (nI (p + 25)) (a + 3) (nI 0) (nI 12) = some (pL h a (stSt L1 (cpyF P.2.2 (lSt L1) (p + 25) 0 12 12))) := by
    intro L1
    have q := hL.put L1
    rw [cpA_of (off L1).f1 q.f3 (by omega) (by omega) (by omega) (by omega), q.s3, hL.pp]
  have q4 : ∀ (L1 : LandV), cpA (pL h a L1) (c + 1) (nI (p + 37)) (a + 4) (nI 0) (nI 6) = some (pL h a (stAt L1 (cpyF P.2.2 (lAt L1) (p + 37) 0 6 6))) := by
    intro L1
    have q := hL.put L1
    rw [cpA_of (off L1).f1 q.f4 (by omega) (by omega) (by omega) (by omega), q.s4, hL.pp]
  have q5 : ∀ (L1 : LandV), cpA (pL h a L1) (c + 1) (nI (p + 43)) (a + 5) (nI 0) (nI 6) = some (pL h a (stTh L1 (cpyF P.2.2 (lTh L1) (p + 43) 0 6 6))) := by
    intro L1
    have q := hL.put L1
    rw [cpA_of (off L1).f1 q.f5 (by omega) (by omega) (by omega) (by omega), q.s5, hL.pp]
  refine b_X2_readFrom_0 hg hd k00 X _ _ _ _ ⟨fun q => absurd q (nI_pos (by omega)), fun _ => ⟨_, hP.l1, fun _ => ?_, fun q => absurd (nI_le (by omega) (by omega)) (by rw [nI_ad] at q; exact q)⟩⟩
  refine ⟨_, aI_of hP.f1 (by omega) (by omega), _, hL.w0, _, (hL.put _).g1, ?_⟩
  simp only [e1, e12, e24, e36, e42]
  refine ⟨_, q1 _, _, (hL.put _).g2, ?_⟩
  refine ⟨_, q2 _, _, (hL.put _).g3, ?_⟩
  refine ⟨_, q3 _, _, (hL.put _).g4, ?_⟩
  refine ⟨_, q4 _, _, (hL.put _).g5, ?_⟩
  exact ⟨_, q5 _, trivial, rfl⟩
theorem nI_rem {x y : Nat} (hx : x < 2 ^ 31) (h0 : 0 < y) (hy : y < 2 ^ 31) : nI x - nI x / nI y * nI y = nI (x % y) := pk_rem hx h0 hy
theorem c_placeOf (hg : GOK g) (hd : 8 ≤ d) (hP : PAt h a P) (ho : P.2.1 < 40) {k : Nat} (hk : k ≤ 40) : CT g d yX4_placeOf (wsC yX4_placeOf cX4_placeOf 2 (some .int)) [.ref a, .int (nI k)] h 0 0 (fun v h2 => v = some (.int (nI ((P.2.1 + k) % 40 * 49))) ∧ h2 = h) noT := by
  refine CT_ofB (by decide +kernel) (Nat.le_of_ble_eq_true rfl) rfl fun K X => ?_
  refine b_X4_placeOf_0 hg hd k00 X _ _ _ ⟨_, hP.g1, ?_, rfl⟩
  rw [nI_add, show (40 : Int32) = nI 40 from rfl, nI_rem (by omega) (by omega) (by omega), show (49 : Int32) = nI 49 from rfl, pk_mul]
/-- an act is kept: as the last, or in the oldest one's place -/
def keepP (P : PastV) (L : LandV) : PastV :=
  let st := wrP P.2.2 ((P.2.1 + P.1) % 40 * 49) L
  if 40 ≤ P.1 then (P.1, (P.2.1 + 1) % 40, st) else (P.1 + 1, P.2.1, st)
theorem c_keep (hg : GOK g) (hd : 9 ≤ d) (hL : LA h a L) (hP : PAt h c P) (hm : P.1 ≤ 40) (ho : P.2.1 < 40) (hj : a + 7 ≤ c ∨ c + 2 ≤ a) : CT g d yX4_keep (wsC yX4_keep cX4_keep 2 none) [.ref c, .ref a] h 0 0 (fun v h2 => v = none ∧ h2 = pP h c (keepP P L)) noT := by
  refine CT_ofB (by decide +kernel) (Nat.le_of_ble_eq_true rfl) rfl fun K X => ?_
  have hlt : (P.2.1 + P.1) % 40 < 40 := Nat.mod_lt _ (by omega)
  refine b_X4_keep_0 hg (by omega) k00 X _ _ _ ⟨_, hP.g2, _, hP.g0, _, hP.o, use_i (c_placeOf (d := d - 1) hg (by omega) hP ho hm) (by omega) k00 ⟨_, hL.o, use_v (c_writeTo (d := d - 1) hg (by omega) hL hP hj (p := (P.2.1 + P.1) % 40 * 49) (by omega)) (by omega) k00 ?_⟩⟩
  intro h3 hh
  rw [hh]
  have q := hP.put (P.1, P.2.1, wrP P.2.2 ((P.2.1 + P.1) % 40 * 49) L)
  refine ⟨_, q.g0, fun z => ⟨_, q.g1, ?_⟩, fun z => ⟨_, q.g0, ?_⟩⟩
  · rw [show (40 : Int32) = nI 40 from rfl, nI_leI (by omega) (by omega)] at z
    have z' : 40 ≤ P.1 := z
    rw [nI_s, show (40 : Int32) = nI 40 from rfl, nI_rem (by show P.2.1 + 1 < _; omega) (by omega) (by omega)]
    refine ⟨_, q.w1, rfl, ?_⟩
    rw [hP.pp, keepP]
    simp only [if_pos z']
  · rw [show (40 : Int32) = nI 40 from rfl, nI_leI (by omega) (by omega)] at z
    have z' : ¬ 40 ≤ P.1 := z
    rw [nI_s]
    refine ⟨_, q.w0, rfl, ?_⟩
    rw [hP.pp, keepP]
    simp only [if_neg z']
theorem c_takeBack (hg : GOK g) (hd : 9 ≤ d) (hL : LA h a L) (hP : PAt h c P) (h0 : 0 < P.1) (hm : P.1 ≤ 40) (ho : P.2.1 < 40) (hj : a + 7 ≤ c ∨ c + 2 ≤ a) : CT g d yX4_takeBack (wsC yX4_takeBack cX4_takeBack 2 none) [.ref c, .ref a] h 0 0 (fun v h2 => v = none ∧ h2 = pL (pP h c (P.1 - 1, P.2)) a (rdL L P.2.2 ((P.2.1 + (P.1 - 1)) % 40 * 49))) noT := by
  refine CT_ofB (by decide +kernel) (Nat.le_of_ble_eq_true rfl) rfl fun K X => ?_
  have hlt : (P.2.1 + (P.1 - 1)) % 40 < 40 := Nat.mod_lt _ (by omega)
  have q := hP.put (P.1 - 1, P.2)
  have l1 : LA (pP h c (P.1 - 1, P.2)) a L := Chunk.off hL (by simp only [landC, pastC, List.length_cons, List.length_nil]; omega)
  refine b_X4_takeBack_0 hg (by omega) k00 X _ _ _ ⟨_, hP.g0, fun z => ?_, fun _ => ⟨_, hP.g0, ?_⟩⟩
  · rw [nI_z, nI_leI (by omega) (by omega)] at z; omega
  · rw [nI_o, pk_sub (by omega)]
    refine ⟨_, hP.w0, _, q.g2, _, q.g0, _, q.o, use_i (c_placeOf (d := d - 1) hg (by omega) q ho (k := P.1 - 1) (by omega)) (by omega) k00 ⟨_, l1.o, use_v (c_readFrom (d := d - 1) hg (by omega) l1 q hj (p := (P.2.1 + (P.1 - 1)) % 40 * 49) (by omega)) (by omega) k00 ?_⟩⟩
    intro h3 hh
    exact ⟨rfl, hh⟩
theorem c_pastClear (hg : GOK g) (hd : 8 ≤ d) (hP : PAt h c P) : CT g d yX4_clear (wsC yX4_clear cX4_clear 1 none) [.ref c] h 0 0 (fun v h2 => v = none ∧ h2 = pP h c (0, 0, P.2.2)) noT := by
  refine CT_ofB (by decide +kernel) (Nat.le_of_ble_eq_true rfl) rfl fun K X => ?_
  have q := hP.put (0, P.2)
  refine b_X4_clear_0 hg hd k00 X _ _ ⟨_, hP.w0 (m := 0), _, q.w1 (m := 0), rfl, ?_⟩
  rw [hP.pp]
theorem c_pastCopy (hg : GOK g) (hd : 8 ≤ d) (hP : PAt h a P) (hP2 : PAt h c P2) (hj : a + 2 ≤ c ∨ c + 2 ≤ a) : CT g d yX4_copyFrom (wsC yX4_copyFrom cX4_copyFrom 2 none) [.ref a, .ref c] h 0 0 (fun v h2 => v = none ∧ h2 = pP h a P2) noT := by
  refine CT_ofB (by decide +kernel) (Nat.le_of_ble_eq_true rfl) rfl fun K X => ?_
  have off : ∀ P', PAt (pP h a P') c P2 := fun P' => Chunk.off hP2 (by simp only [pastC, List.length_cons, List.length_nil]; omega)
  have A1 := hP.put (P2.1, P.2)
  have A2 := hP.put (P2.1, P2.2.1, P.2.2)
  have w2 := A1.w1 (m := P2.2.1)
  rw [hP.pp] at w2
  refine b_X4_copyFrom_0 hg hd k00 X _ _ _ ⟨_, hP2.g0, _, hP.w0, _, (off _).g1, _, w2, _, (off _).g2, _, A2.g2, _, A2.g2, _, A2.l1, _, cpA_of (s := 0) (t := 0) (off _).f1 A2.f1 (by omega) (by omega) (by omega) (by omega), rfl, ?_⟩
  rw [A2.wS, hP.pp, cpyF_all]
theorem c_seenClear (hg : GOK g) (hd : 8 ≤ d) (hS : SAt h c S) : CT g d yX7_clear (wsC yX7_clear cX7_clear 1 none) [.ref c] h 0 0 (fun v h2 => v = none ∧ h2 = pSn h c (0, S.2)) noT := by
  refine CT_ofB (by decide +kernel) (Nat.le_of_ble_eq_true rfl) rfl fun K X => ?_
  exact b_X7_clear_0 hg hd k00 X _ _ ⟨_, hS.w0 (m := 0), rfl, rfl⟩
theorem c_seenPut (hg : GOK g) (hd : 8 ≤ d) (hS : SAt h c S) (hm : S.1 < 8) (x y z : Int32) : CT g d yX7_put (wsC yX7_put cX7_put 4 none) [.ref c, .int x, .int y, .int z] h 0 0 (fun v h2 => v = none ∧ h2 = pSn h c (S.1 + 1, upd S.2.1 S.1 x, upd S.2.2.1 S.1 y, upd S.2.2.2 S.1 z)) noT := by
  refine CT_ofB (by decide +kernel) (Nat.le_of_ble_eq_true rfl) rfl fun K X => ?_
  have A1 := hS.put (S.1, upd S.2.1 S.1 x, S.2.2)
  have A2 := hS.put (S.1, upd S.2.1 S.1 x, upd S.2.2.1 S.1 y, S.2.2.2)
  have A3 := hS.put (S.1, upd S.2.1 S.1 x, upd S.2.2.1 S.1 y, upd S.2.2.2 S.1 z)
  have w2 := A1.w2 (k := S.1) (x := y) hm
  have w3 := A2.w3 (k := S.1) (x := z) hm
  have w4 := A3.w0 (m := S.1 + 1)
  rw [hS.pp] at w2 w3 w4
  refine b_X7_put_0 hg hd k00 X _ _ _ _ _ ⟨_, hS.g0, fun q => absurd q (nI_ge (b := 8) hm (by omega)), fun _ => ⟨_, hS.g1, _, hS.g0, _, hS.w1 hm, _, A1.g2, _, A1.g0, _, w2, _, A2.g3, _, A2.g0, _, w3, _, A3.g0, ?_⟩⟩
  rw [nI_s]
  exact ⟨_, w4, rfl, rfl⟩
theorem c_seenCopy (hg : GOK g) (hd : 8 ≤ d) (hS : SAt h a S) (hS2 : SAt h c S2) (hj : a + 4 ≤ c ∨ c + 4 ≤ a) : CT g d yX7_copyFrom (wsC yX7_copyFrom cX7_copyFrom 2 none) [.ref a, .ref c] h 0 0 (fun v h2 => v = none ∧ h2 = pSn h a S2) noT := by
  refine CT_ofB (by decide +kernel) (Nat.le_of_ble_eq_true rfl) rfl fun K X => ?_
  have off : ∀ P', SAt (pSn h a P') c S2 := fun P' => Chunk.off hS2 (by simp only [seenC, List.length_cons, List.length_nil]; omega)
  have q1 : ∀ P1 : SeenV, cpA (pSn h a P1) (c + 1) (nI 0) (a + 1) (nI 0) (nI 8) = some (pSn h a (P1.1, S2.2.1, P1.2.2)) := by
    intro P1
    have q := hS.put P1
    rw [cpA_of (off P1).f1 q.f1 (by omega) (by omega) (by omega) (by omega), q.s1, cpyF_all, hS.pp]
  have q2 : ∀ P1 : SeenV, cpA (pSn h a P1) (c + 2) (nI 0) (a + 2) (nI 0) (nI 8) = some (pSn h a (P1.1, P1.2.1, S2.2.2.1, P1.2.2.2)) := by
    intro P1
    have q := hS.put P1
    rw [cpA_of (off P1).f2 q.f2 (by omega) (by omega) (by omega) (by omega), q.s2, cpyF_all, hS.pp]
  have q3 : ∀ P1 : SeenV, cpA (pSn h a P1) (c + 3) (nI 0) (a + 3) (nI 0) (nI 8) = some (pSn h a (P1.1, P1.2.1, P1.2.2.1, S2.2.2.2)) := by
    intro P1
    have q := hS.put P1
    rw [cpA_of (off P1).f3 q.f3 (by omega) (by omega) (by omega) (by omega), q.s3, cpyF_all, hS.pp]
  refine b_X7_copyFrom_0 hg hd k00 X _ _ _ ⟨_, hS2.g0, _, hS.w0, _, (off _).g1, _, (hS.put _).g1, ?_⟩
  refine ⟨_, q1 _, _, (off _).g2, _, (hS.put _).g2, ?_⟩
  refine ⟨_, q2 _, _, (off _).g3, _, (hS.put _).g3, ?_⟩
  exact ⟨_, q3 _, rfl, rfl⟩
def lastF (f : AF) : Nat → Int32
  | 0 => 0
  | k + 1 => if lastF f k < f k then f k else lastF f k
theorem c_lastDay (hg : GOK g) (hd : 8 ≤ d) (hS : SAt h c S) (hm : S.1 ≤ 8) : CT g d yX7_lastDay (wsC yX7_lastDay cX7_lastDay 3 (some .int)) [.ref c] h 0 0 (fun v h2 => v = some (.int (lastF S.2.2.1 S.1)) ∧ h2 = h) noT := by
  refine CT_ofB (by decide +kernel) (Nat.le_of_ble_eq_true rfl) rfl fun K X => ?_
  refine b_X7_lastDay_0 hg hd k00 X _ _ ?_
  refine upto (n := S.1) (P := fun k => VB g K 3 d 0 0 (fun v h2 => v = some (.int (lastF S.2.2.1 S.1)) ∧ h2 = h) noT 0 0 4 [some (.ref c), some (.int (lastF S.2.2.1 k)), some (.int (nI k))] [] h) ?_ ?_ S.1 0 (by omega)
  · exact b_X7_lastDay_4 hg hd k00 X _ _ _ _ ⟨_, hS.g0, fun _ => ⟨rfl, rfl⟩, fun q => absurd (nle_nI (by omega) (by omega) q) (by omega)⟩
  · intro k hk ih
    refine b_X7_lastDay_4 hg hd k00 X _ _ _ _ ⟨_, hS.g0, fun q => absurd (le_nI (by omega) (by omega) q) (by omega), fun _ => ⟨_, hS.g2, _, hS.r2 (by omega), ?_⟩⟩
    rw [nI_s]; exact ih
/-- whether all that is seen behind so many days is so in the seams f -/
def soF (S : SeenV) (f : AF) (x : Int32) : Bool := (List.range S.1).all (fun k => !(S.2.2.1 k == x) || f (S.2.1 k).toNatClampNeg == S.2.2.2 k)
def SeOK (S : SeenV) (n : Nat) : Prop := ∀ k, k < S.1 → ∃ j, j < n ∧ S.2.1 k = nI j
theorem c_seenIsSo (hg : GOK g) (hd : 8 ≤ d) (hS : SAt h c S) (hL : LA h a L) (hm : S.1 ≤ 8) (hs : SeOK S 12) (x : Int32) : CT g d yX7_isSo (wsC yX7_isSo cX7_isSo 4 (some .boolean)) [.ref c, .ref a, .int x] h 0 0 (fun v h2 => v = some (.int (if soF S (lSm L) x then 1 else 0)) ∧ h2 = h) noT := by
  refine CT_ofB (by decide +kernel) (Nat.le_of_ble_eq_true rfl) rfl fun K X => ?_
  refine b_X7_isSo_0 hg hd k00 X _ _ _ _ ?_
  have yes : (∀ i, i < S.1 → (S.2.2.1 i = x → lSm L (S.2.1 i).toNatClampNeg = S.2.2.2 i)) → soF S (lSm L) x = true := by
    intro q
    refine List.all_eq_true.mpr fun i hi => ?_
    have := q i (List.mem_range.mp hi)
    by_cases e : S.2.2.1 i = x
    · simp [this e]
    · simp [e]
  have no : ∀ i, i < S.1 → S.2.2.1 i = x → ¬ lSm L (S.2.1 i).toNatClampNeg = S.2.2.2 i → soF S (lSm L) x = false := by
    intro i hi e ne
    cases hb : soF S (lSm L) x with
    | false => rfl
    | true =>
      have := List.all_eq_true.mp hb i (List.mem_range.mpr hi)
      simp [e] at this
      exact absurd this ne
  have key := upto (n := S.1) (P := fun k => (∀ i, i < k → (S.2.2.1 i = x → lSm L (S.2.1 i).toNatClampNeg = S.2.2.2 i)) → VB g K 4 d 0 0 (fun v h2 => v = some (.int (if soF S (lSm L) x then 1 else 0)) ∧ h2 = h) noT 0 0 2 [some (.ref c), some (.ref a), some (.int x), some (.int (nI k))] [] h) ?_ ?_ S.1 0 (by omega)
  · exact key (fun i hi => by omega)
  · intro hp
    exact b_X7_isSo_2 hg hd k00 X _ _ _ _ _ ⟨_, hS.g0, fun _ => ⟨Or.inr rfl, by rw [yes hp]; rfl, rfl⟩, fun q => absurd (nle_nI (by omega) (by omega) q) (by omega)⟩
  · intro k hk ih hp
    obtain ⟨j, j1, j2⟩ := hs k hk
    have ej : (S.2.1 k).toNatClampNeg = j := by rw [j2]; exact nI_clamp (by omega)
    have nxt : (S.2.2.1 k = x → lSm L (S.2.1 k).toNatClampNeg = S.2.2.2 k) → VB g K 4 d 0 0 (fun v h2 => v = some (.int (if soF S (lSm L) x then 1 else 0)) ∧ h2 = h) noT 0 0 42 [some (.ref c), some (.ref a), some (.int x), some (.int (nI k))] [] h := by
      intro hq
      refine b_X7_isSo_42 hg hd k00 X _ _ _ _ _ ?_
      rw [nI_s]
      exact ih (fun i hi => by
        by_cases hik : i = k
        · subst hik; exact hq
        · exact hp i (by omega))
    refine b_X7_isSo_2 hg hd k00 X _ _ _ _ _ ⟨_, hS.g0, fun q => absurd (le_nI (by omega) (by omega) q) (by omega), fun _ => ⟨_, hS.g2, _, hS.r2 (by omega), fun q => nxt (fun e => absurd e q), fun q => ⟨_, hL.g2, _, hS.g1, _, hS.r1 (by omega), ?_⟩⟩⟩
    rw [j2]
    refine ⟨_, hL.r2 j1, _, hS.g3, _, hS.r3 (by omega), fun z => nxt (fun _ => by rw [ej]; exact z), fun z => ⟨Or.inl rfl, ?_, rfl⟩⟩
    rw [no k hk q (by rw [ej]; exact z)]
    rfl
end C8
