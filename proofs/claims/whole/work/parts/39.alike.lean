/-! LANDS ALIKE on n stretches and w women -/
def LE (n w : Nat) (L M : LandV) : Prop := lDay L = lDay M ∧ (∀ k, k < n → lStr L k = lStr M k ∧ lSm L k = lSm M k ∧ lSt L k = lSt M k) ∧ (∀ k, k < w → lAt L k = lAt M k ∧ lTh L k = lTh M k)
section LEs
variable {n w : Nat} {L M N : LandV}
theorem LE.refl (n w : Nat) (L : LandV) : LE n w L L := ⟨rfl, fun _ _ => ⟨rfl, rfl, rfl⟩, fun _ _ => ⟨rfl, rfl⟩⟩
theorem LE.symm (q : LE n w L M) : LE n w M L := ⟨q.1.symm, fun k hk => ⟨(q.2.1 k hk).1.symm, (q.2.1 k hk).2.1.symm, (q.2.1 k hk).2.2.symm⟩, fun k hk => ⟨(q.2.2 k hk).1.symm, (q.2.2 k hk).2.symm⟩⟩
theorem LE.trans (q : LE n w L M) (r : LE n w M N) : LE n w L N := ⟨q.1.trans r.1, fun k hk => ⟨(q.2.1 k hk).1.trans (r.2.1 k hk).1, (q.2.1 k hk).2.1.trans (r.2.1 k hk).2.1, (q.2.1 k hk).2.2.trans (r.2.1 k hk).2.2⟩, fun k hk => ⟨(q.2.2 k hk).1.trans (r.2.2 k hk).1, (q.2.2 k hk).2.trans (r.2.2 k hk).2⟩⟩
theorem LE.day (q : LE n w L M) : lDay L = lDay M := q.1
theorem LE.st (q : LE n w L M) {k : Nat} (hk : k < n) : lStr L k = lStr M k := (q.2.1 k hk).1
theorem LE.sm (q : LE n w L M) {k : Nat} (hk : k < n) : lSm L k = lSm M k := (q.2.1 k hk).2.1
theorem LE.ti (q : LE n w L M) {k : Nat} (hk : k < n) : lSt L k = lSt M k := (q.2.1 k hk).2.2
theorem LE.at_ (q : LE n w L M) {k : Nat} (hk : k < w) : lAt L k = lAt M k := (q.2.2 k hk).1
theorem LE.th (q : LE n w L M) {k : Nat} (hk : k < w) : lTh L k = lTh M k := (q.2.2 k hk).2
theorem LE.cpy (n w : Nat) (L M : LandV) : LE n w (cpyL L M) M := ⟨rfl, fun _ _ => ⟨rfl, rfl, rfl⟩, fun _ _ => ⟨rfl, rfl⟩⟩
theorem updE {m : Nat} {f g : AF} (q : ∀ k, k < m → f k = g k) (j : Nat) {x y : Int32} (e : j < m → x = y) {k : Nat} (hk : k < m) : upd f j x k = upd g j y k := by
  by_cases hj : k = j
  · subst hj; rw [pk_us, pk_us, e hk]
  · rw [pk_un hj, pk_un hj, q k hk]
theorem LE.uDay (q : LE n w L M) {x y : Int32} (e : x = y) : LE n w (sDay L x) (sDay M y) := ⟨e, q.2.1, q.2.2⟩
theorem LE.uStr (q : LE n w L M) (j : Nat) {x y : Int32} (e : j < n → x = y) : LE n w (sStr L j x) (sStr M j y) := ⟨q.1, fun k hk => ⟨updE (fun k hk => q.st hk) j e hk, (q.2.1 k hk).2⟩, q.2.2⟩
theorem LE.uSm (q : LE n w L M) (j : Nat) {x y : Int32} (e : j < n → x = y) : LE n w (sSm L j x) (sSm M j y) := ⟨q.1, fun k hk => ⟨q.st hk, updE (fun k hk => q.sm hk) j e hk, q.ti hk⟩, q.2.2⟩
theorem LE.uSt (q : LE n w L M) (j : Nat) {x y : Int32} (e : j < n → x = y) : LE n w (sSt L j x) (sSt M j y) := ⟨q.1, fun k hk => ⟨q.st hk, q.sm hk, updE (fun k hk => q.ti hk) j e hk⟩, q.2.2⟩
theorem LE.uAt (q : LE n w L M) (j : Nat) {x y : Int32} (e : j < w → x = y) : LE n w (sAt L j x) (sAt M j y) := ⟨q.1, q.2.1, fun k hk => ⟨updE (fun k hk => q.at_ hk) j e hk, q.th hk⟩⟩
theorem LE.uTh (q : LE n w L M) (j : Nat) {x y : Int32} (e : j < w → x = y) : LE n w (sTh L j x) (sTh M j y) := ⟨q.1, q.2.1, fun k hk => ⟨q.at_ hk, updE (fun k hk => q.th hk) j e hk⟩⟩
theorem LE.addE (q : LE n w L M) (j : Nat) (x : Int32) : LE n w (addS L j x) (addS M j x) := q.uStr j (fun hj => by rw [q.st hj])
theorem LE.sif (q : LE n w L M) {j : Nat} (hj : j < n) (x : Int32) : LE n w (sifC L j x) (sifC M j x) := by
  unfold sifC
  rw [q.sm hj]
  split
  · exact q
  · exact q.addE j x
theorem sSm_str (L : LandV) (k j : Nat) (x : Int32) : lStr (sSm L k x) j = lStr L j := rfl
theorem LE.wear (q : LE n w L M) {k : Nat} (hk : k < n) {x y : Int32} (e : x = y) : LE n w (wearL n L k x) (wearL n M k y) := by
  subst e
  have q1 : LE n w (sSm L k (max0 (lSm L k - x))) (sSm M k (max0 (lSm M k - x))) := q.uSm k (fun hj => by rw [q.sm hj])
  unfold wearL
  dsimp only
  rw [q1.sm hk, q1.st hk]
  split
  · refine LE.uStr ?_ k (fun _ => rfl)
    exact (q1.sif (aheN_lt (by omega) hk) _).sif (aftN_lt (by omega)) _
  · exact q1
theorem LE.tear (q : LE n w L M) {k : Nat} (hk : k < n) (x : Int32) : LE n w (tearL n L k x) (tearL n M k x) := by
  unfold tearL
  rw [q.sm hk]
  split
  · exact q
  · exact q.wear hk rfl
theorem LE.give (q : LE n w L M) (k : Nat) (x : Int32) : LE n w (giveL L k x) (giveL M k x) := q.uTh k (fun hj => by rw [q.th hj])
theorem LE.aok (q : LE n w L M) (hA : AtOK n w L) : AtOK n w M := fun v hv => by
  obtain ⟨j, h1, h2⟩ := hA v hv
  exact ⟨j, h1, by rw [← q.at_ hv]; exact h2⟩
theorem LE.mend (q : LE n w L M) {sk sk2 : AF} {k : Nat} (hk : k < w) (hs : sk k = sk2 k) : LE n w (mendL sk L k) (mendL sk2 M k) := by
  unfold mendL
  rw [q.th hk, q.at_ hk]
  split
  · exact q
  · refine LE.uSm (q.uTh k (fun _ => rfl)) _ (fun hj => ?_)
    rw [q.sm hj, hs]
theorem LE.go (q : LE n w L M) {k : Nat} (hk : k < w) : LE n w (goL n L k) (goL n M k) := q.uAt k (fun hj => by rw [q.at_ hk])
theorem LE.mends {sk sk2 : AF} (hs : ∀ k, k < w → sk k = sk2 k) : ∀ (j k : Nat) (L M : LandV), k + j ≤ w → LE n w L M → LE n w (mendFrom n sk j k L) (mendFrom n sk2 j k M) := by
  intro j
  induction j with
  | zero => intro k L M _ q; exact q
  | succ j ih => intro k L M hk q; exact ih (k + 1) _ _ (by omega) ((q.mend (by omega) (hs k (by omega))).go (by omega))
theorem LE.gale (x : Int32) : ∀ (j k : Nat) (L M : LandV), k + j ≤ n → LE n w L M → LE n w (galeFrom j k L) (galeFrom j k M) := by
  intro j
  induction j with
  | zero => intro k L M _ q; exact q
  | succ j ih => intro k L M hk q; exact ih (k + 1) _ _ (by omega) (q.sif (by omega) 15)
/-- a rule that looks but at what is there -/
def ReE (n w : Nat) (fr fr2 : LandV → Nat → Int32) : Prop := ∀ (L M : LandV) (i : Nat), LE n w L M → i < n → fr L i = fr2 M i
theorem LE.wears {fr fr2 : LandV → Nat → Int32} (hr : ReE n w fr fr2) : ∀ (j k : Nat) (L M : LandV), k + j ≤ n → LE n w L M → LE n w (wearP n fr j k L) (wearP n fr2 j k M) := by
  intro j
  induction j with
  | zero => intro k L M _ q; exact q
  | succ j ih =>
    intro k L M hk q
    unfold wearP
    refine ih (k + 1) _ _ (by omega) ?_
    rw [q.sm (show k < n by omega)]
    split
    · exact q
    · exact q.wear (by omega) (hr L M k q (by omega))
theorem cpyF_lt {f g : AF} {n k : Nat} (hk : k < n) (hn : n ≤ 12) : cpyF f g 0 0 n 12 k = f k := by
  rw [← cpyF_in (n1 := 12) (by omega)]
  simp [va_cpy, hk]
theorem puTo_lt {F f : AF} {k i : Nat} (hi : i < k) : puTo F f k i = F i := by rw [puTo_at, if_pos hi]
theorem LE.dEnd {sk sk2 : AF} {wk : Int32} (hs : ∀ k, k < w → sk k = sk2 k) (q : LE n w L M) : LE n w (dayEnd n w wk sk L) (dayEnd n w wk sk2 M) := by
  unfold dayEnd
  rw [q.day]
  split
  · have := LE.mends (n := n) hs w 0 L M (by omega) q
    exact this.uDay (by rw [this.day])
  · exact q.uDay rfl
theorem LE.dP {sk sk2 : AF} {wk : Int32} {fr pu fr2 pu2 : LandV → Nat → Int32} (hn : n ≤ 12) (hs : ∀ k, k < w → sk k = sk2 k) (hr : ReE n w fr fr2) (hp : ReE n w pu pu2) (q : LE n w L M) : LE n w (dayP n w wk sk fr pu L) (dayP n w wk sk2 fr2 pu2 M) := by
  unfold dayP
  refine LE.dEnd hs (LE.wears hr n 0 _ _ (by omega) ?_)
  refine ⟨q.1, fun k hk => ⟨?_, (q.2.1 k hk).2⟩, q.2.2⟩
  show cpyF _ _ 0 0 n 12 k = cpyF _ _ 0 0 n 12 k
  rw [cpyF_lt hk hn, cpyF_lt hk hn, puTo_lt hk, puTo_lt hk, pullP, pullP, q.sm hk, q.st hk, hp L M k q hk]
theorem bitsF_congr {p r : Nat → Bool} : ∀ {m : Nat}, (∀ k, k < m → p k = r k) → bitsF p m = bitsF r m := by
  intro m
  induction m with
  | zero => intro _; rfl
  | succ m ih => intro q; simp only [bitsF, q m (by omega), ih (fun k hk => q k (by omega))]
theorem sumF_congr {p r : AF} : ∀ {m : Nat}, (∀ k, k < m → p k = r k) → sumF p m = sumF r m := by
  intro m
  induction m with
  | zero => intro _; rfl
  | succ m ih => intro q; simp only [sumF, q m (by omega), ih (fun k hk => q k (by omega))]
theorem mostF_congr {p r : AF} : ∀ {m : Nat}, (∀ k, k ≤ m → p k = r k) → mostF p m = mostF r m := by
  intro m
  induction m with
  | zero => intro q; exact q 0 (by omega)
  | succ m ih => intro q; simp only [mostF, q (m + 1) (by omega), ih (fun k hk => q k (by omega))]
theorem leastF_congr {p r : AF} : ∀ {m : Nat}, (∀ k, k ≤ m → p k = r k) → leastF p m = leastF r m := by
  intro m
  induction m with
  | zero => intro q; exact q 0 (by omega)
  | succ m ih => intro q; simp only [leastF, q (m + 1) (by omega), ih (fun k hk => q k (by omega))]
theorem bestF_congr {p r : AF} : ∀ {m : Nat}, (∀ k, k ≤ m → p k = r k) → bestF p m = bestF r m := by
  intro m
  induction m with
  | zero => intro q; rfl
  | succ m ih =>
    intro q
    have e := ih (fun k hk => q k (by omega))
    simp only [bestF, q (m + 1) (by omega), e, q (bestF r m) (by have := bestF_le r m; omega)]
theorem evalR_congr {co : AF} {v v2 : Int32 → Int32} (q : ∀ x, v x = v2 x) : evalR co v = evalR co v2 := by
  have : v = v2 := funext q
  rw [this]
theorem ReE.bes (n w : Nat) : ReE n w (besE n) (besE n) := by
  intro L M i q hi
  unfold besE
  rw [q.st (aheN_lt (by omega) hi), q.st (aftN_lt (by omega))]
theorem LE.val (q : LE n w L M) {i : Nat} (hi : i < n) (v : Int32) : valE n w L i v = valE n w M i v := by
  unfold valE
  rw [ReE.bes n w L M i q hi, q.ti hi, q.sm hi, q.st hi, q.day, bitsF_congr (p := fun k => lAt L k == nI i) (r := fun k => lAt M k == nI i) (fun k hk => by rw [q.at_ hk])]
theorem ReE.ru (n w : Nat) (co : AF) (p r : Nat) : ReE n w (fun L i => ruE n w co L i p r) (fun L i => ruE n w co L i p r) := by
  intro L M i q hi
  show ruE n w co L i p r = ruE n w co M i p r
  unfold ruE
  rw [evalR_congr (fun v => q.val hi v)]
theorem ReE.fra (T : ToldV) (p r : Nat) : ReE (tN_ T) (tW T) (fraE T p r) (fraE T p r) := by
  intro L M i q hi
  unfold fraE
  have e := ReE.ru (tN_ T) (tW T) (tCo T) p r L M i q hi
  dsimp only at e
  rw [e]
  unfold fraU
  rw [q.ti hi, q.st hi]
theorem ReE.pul (T : ToldV) (p r : Nat) : ReE (tN_ T) (tW T) (pulE T p r) (pulE T p r) := by
  intro L M i q hi
  unfold pulE
  have e := ReE.ru (tN_ T) (tW T) (tCo T) p r L M i q hi
  dsimp only at e
  rw [e, ReE.bes _ _ L M i q hi, q.st hi]
/-- Told's day and days, by its own rules -/
abbrev tF0 (T : ToldV) : Nat := (tFr T).2.1.toNatClampNeg
abbrev tF1 (T : ToldV) : Nat := (tFr T).2.2.toNatClampNeg
abbrev tP0 (T : ToldV) : Nat := (tPl T).2.1.toNatClampNeg
abbrev tP1 (T : ToldV) : Nat := (tPl T).2.2.toNatClampNeg
def dayT (T : ToldV) (L : LandV) : LandV := dayL T (tF0 T) (tF1 T) (tP0 T) (tP1 T) L
def daysT (T : ToldV) : Nat → LandV → LandV
  | 0, L => L
  | k + 1, L => daysT T k (dayT T L)
theorem daysL_T (T : ToldV) : ∀ (k : Nat) (L : LandV), daysL T (tF0 T) (tF1 T) (tP0 T) (tP1 T) k L = daysT T k L := by
  intro k
  induction k with
  | zero => intro L; rfl
  | succ k ih => intro L; exact ih _
theorem LE.dT {T : ToldV} (hn : tN_ T ≤ 12) (q : LE (tN_ T) (tW T) L M) : LE (tN_ T) (tW T) (dayT T L) (dayT T M) := LE.dP hn (fun _ _ => rfl) (ReE.fra T _ _) (ReE.pul T _ _) q
theorem LE.dsT {T : ToldV} (hn : tN_ T ≤ 12) : ∀ (k : Nat) {L M : LandV}, LE (tN_ T) (tW T) L M → LE (tN_ T) (tW T) (daysT T k L) (daysT T k M) := by
  intro k
  induction k with
  | zero => intro L M q; exact q
  | succ k ih => intro L M q; exact ih (q.dT hn)
theorem AtOK_dayT {T : ToldV} (h0 : 0 < tN_ T) (hA : AtOK (tN_ T) (tW T) L) : AtOK (tN_ T) (tW T) (dayT T L) := AtOK_dayP h0 hA
theorem AtOK_daysT {T : ToldV} (h0 : 0 < tN_ T) : ∀ (k : Nat) {L : LandV}, AtOK (tN_ T) (tW T) L → AtOK (tN_ T) (tW T) (daysT T k L) := by
  intro k
  induction k with
  | zero => intro L q; exact q
  | succ k ih => intro L q; exact ih (AtOK_dayT h0 q)
theorem daysT_succ (T : ToldV) : ∀ (k : Nat) (L : LandV), daysT T (k + 1) L = dayT T (daysT T k L) := by
  intro k
  induction k with
  | zero => intro L; rfl
  | succ k ih => intro L; exact ih (dayT T L)
end LEs
