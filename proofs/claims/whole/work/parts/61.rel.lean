/-! THE REFERENCE'S LAND: in its rows, from b on; what it is told; what may change -/
def ldR (f : AF) (b : Nat) : LandV := (f b, (fun k => f (b + 1 + k)), (fun k => f (b + 13 + k)), (fun k => f (b + 25 + k)), (fun k => f (b + 37 + k)), (fun k => f (b + 43 + k)), (fun _ => 0))
def InR (n w b i : Nat) : Prop := i = b ∨ (b + 1 ≤ i ∧ i < b + 1 + n) ∨ (b + 13 ≤ i ∧ i < b + 13 + n) ∨ (b + 25 ≤ i ∧ i < b + 25 + n) ∨ (b + 37 ≤ i ∧ i < b + 37 + w) ∨ (b + 43 ≤ i ∧ i < b + 43 + w)
/-- the rows f hold X at b, and are else as f0 -/
def RW (n w b : Nat) (X : LandV) (f f0 : AF) : Prop := LE n w (ldR f b) X ∧ ∀ i, ¬ InR n w b i → f i = f0 i
/-- ints alike; rows alike but for those that are scratch of a day -/
def DF (R0 R : RefV) : Prop := ri R = ri R0 ∧ R.2.1 = R0.2.1 ∧ ∀ c, c ≠ 14 → c ≠ 16 → c ≠ 17 → c ≠ 18 → ra R c = ra R0 c
theorem DF.refl (R : RefV) : DF R R := ⟨rfl, rfl, fun _ _ _ _ _ => rfl⟩
theorem DF.trans {R0 R1 R2 : RefV} (a : DF R0 R1) (b : DF R1 R2) : DF R0 R2 := ⟨b.1.trans a.1, b.2.1.trans a.2.1, fun c h1 h2 h3 h4 => (b.2.2 c h1 h2 h3 h4).trans (a.2.2 c h1 h2 h3 h4)⟩
theorem ra_sA {R : RefV} {c : Nat} {f : AF} : ra (sA R c f) c = f := if_pos rfl
theorem ra_sAn {R : RefV} {c j : Nat} {f : AF} (q : j ≠ c) : ra (sA R c f) j = ra R j := if_neg q
theorem ri_sI {R : RefV} {k : Nat} {v : Int32} : ri (sI R k v) k = v := pk_us
theorem ri_sIn {R : RefV} {k j : Nat} {v : Int32} (q : j ≠ k) : ri (sI R k v) j = ri R j := pk_un q
theorem DF.sA {R0 R : RefV} {c : Nat} {f : AF} (a : DF R0 R) (hc : c = 14 ∨ c = 16 ∨ c = 17 ∨ c = 18) : DF R0 (sA R c f) := ⟨a.1, a.2.1, fun j h1 h2 h3 h4 => by rw [ra_sAn (by omega)]; exact a.2.2 j h1 h2 h3 h4⟩
section RWs
variable {n w b k : Nat} {X : LandV} {f f0 : AF} {v : Int32}
theorem RW.le (q : RW n w b X f f0) : LE n w (ldR f b) X := q.1
theorem RW.day (q : RW n w b X f f0) : f b = lDay X := q.1.day
theorem RW.st (q : RW n w b X f f0) (hk : k < n) : f (b + 1 + k) = lStr X k := q.1.st hk
theorem RW.sm (q : RW n w b X f f0) (hk : k < n) : f (b + 13 + k) = lSm X k := q.1.sm hk
theorem RW.ti (q : RW n w b X f f0) (hk : k < n) : f (b + 25 + k) = lSt X k := q.1.ti hk
theorem RW.at_ (q : RW n w b X f f0) (hk : k < w) : f (b + 37 + k) = lAt X k := q.1.at_ hk
theorem RW.th (q : RW n w b X f f0) (hk : k < w) : f (b + 43 + k) = lTh X k := q.1.th hk
theorem RW.uDay (q : RW n w b X f f0) (hn : n ≤ 12) (hw : w ≤ 6) : RW n w b (sDay X v) (upd f b v) f0 := by
  refine ⟨⟨pk_us, fun j hj => ?_, fun j hj => ?_⟩, fun i hi => ?_⟩
  · exact ⟨(pk_un (by omega)).trans (q.st hj), (pk_un (by omega)).trans (q.sm hj), (pk_un (by omega)).trans (q.ti hj)⟩
  · exact ⟨(pk_un (by omega)).trans (q.at_ hj), (pk_un (by omega)).trans (q.th hj)⟩
  · rw [pk_un (fun e => hi (by unfold InR; omega))]; exact q.2 i hi
theorem RW.uStr (q : RW n w b X f f0) (hn : n ≤ 12) (hw : w ≤ 6) (hk : k < n) : RW n w b (sStr X k v) (upd f (b + 1 + k) v) f0 := by
  refine ⟨⟨(pk_un (by omega)).trans q.day, fun j hj => ?_, fun j hj => ?_⟩, fun i hi => ?_⟩
  · refine ⟨?_, (pk_un (by omega)).trans (q.sm hj), (pk_un (by omega)).trans (q.ti hj)⟩
    show upd f (b + 1 + k) v (b + 1 + j) = upd (lStr X) k v j
    by_cases e : j = k
    · subst e; rw [pk_us, pk_us]
    · rw [pk_un (by omega), pk_un e]; exact q.st hj
  · exact ⟨(pk_un (by omega)).trans (q.at_ hj), (pk_un (by omega)).trans (q.th hj)⟩
  · rw [pk_un (fun e => hi (by unfold InR; omega))]; exact q.2 i hi
theorem RW.uSm (q : RW n w b X f f0) (hn : n ≤ 12) (hw : w ≤ 6) (hk : k < n) : RW n w b (sSm X k v) (upd f (b + 13 + k) v) f0 := by
  refine ⟨⟨(pk_un (by omega)).trans q.day, fun j hj => ?_, fun j hj => ?_⟩, fun i hi => ?_⟩
  · refine ⟨(pk_un (by omega)).trans (q.st hj), ?_, (pk_un (by omega)).trans (q.ti hj)⟩
    show upd f (b + 13 + k) v (b + 13 + j) = upd (lSm X) k v j
    by_cases e : j = k
    · subst e; rw [pk_us, pk_us]
    · rw [pk_un (by omega), pk_un e]; exact q.sm hj
  · exact ⟨(pk_un (by omega)).trans (q.at_ hj), (pk_un (by omega)).trans (q.th hj)⟩
  · rw [pk_un (fun e => hi (by unfold InR; omega))]; exact q.2 i hi
theorem RW.uSt (q : RW n w b X f f0) (hn : n ≤ 12) (hw : w ≤ 6) (hk : k < n) : RW n w b (sSt X k v) (upd f (b + 25 + k) v) f0 := by
  refine ⟨⟨(pk_un (by omega)).trans q.day, fun j hj => ?_, fun j hj => ?_⟩, fun i hi => ?_⟩
  · refine ⟨(pk_un (by omega)).trans (q.st hj), (pk_un (by omega)).trans (q.sm hj), ?_⟩
    show upd f (b + 25 + k) v (b + 25 + j) = upd (lSt X) k v j
    by_cases e : j = k
    · subst e; rw [pk_us, pk_us]
    · rw [pk_un (by omega), pk_un e]; exact q.ti hj
  · exact ⟨(pk_un (by omega)).trans (q.at_ hj), (pk_un (by omega)).trans (q.th hj)⟩
  · rw [pk_un (fun e => hi (by unfold InR; omega))]; exact q.2 i hi
theorem RW.uAt (q : RW n w b X f f0) (hn : n ≤ 12) (hw : w ≤ 6) (hk : k < w) : RW n w b (sAt X k v) (upd f (b + 37 + k) v) f0 := by
  refine ⟨⟨(pk_un (by omega)).trans q.day, fun j hj => ?_, fun j hj => ?_⟩, fun i hi => ?_⟩
  · exact ⟨(pk_un (by omega)).trans (q.st hj), (pk_un (by omega)).trans (q.sm hj), (pk_un (by omega)).trans (q.ti hj)⟩
  · refine ⟨?_, (pk_un (by omega)).trans (q.th hj)⟩
    show upd f (b + 37 + k) v (b + 37 + j) = upd (lAt X) k v j
    by_cases e : j = k
    · subst e; rw [pk_us, pk_us]
    · rw [pk_un (by omega), pk_un e]; exact q.at_ hj
  · rw [pk_un (fun e => hi (by unfold InR; omega))]; exact q.2 i hi
theorem RW.uTh (q : RW n w b X f f0) (hn : n ≤ 12) (hw : w ≤ 6) (hk : k < w) : RW n w b (sTh X k v) (upd f (b + 43 + k) v) f0 := by
  refine ⟨⟨(pk_un (by omega)).trans q.day, fun j hj => ?_, fun j hj => ?_⟩, fun i hi => ?_⟩
  · exact ⟨(pk_un (by omega)).trans (q.st hj), (pk_un (by omega)).trans (q.sm hj), (pk_un (by omega)).trans (q.ti hj)⟩
  · refine ⟨(pk_un (by omega)).trans (q.at_ hj), ?_⟩
    show upd f (b + 43 + k) v (b + 43 + j) = upd (lTh X) k v j
    by_cases e : j = k
    · subst e; rw [pk_us, pk_us]
    · rw [pk_un (by omega), pk_un e]; exact q.th hj
  · rw [pk_un (fun e => hi (by unfold InR; omega))]; exact q.2 i hi
end RWs
/-! the rules' codes -/
def opR (c : Int32) : Int32 := if c = -8 then 5 else if c = -9 then 4 else -4 - c
def CodeR (co code : AF) : Nat → Nat → Nat → Prop
  | 0, _, a => a < 1400 ∧ code a = 0
  | j + 1, p, a => if ¬ co p ≤ -7 then (a + 1 < 1400 ∧ (if co p < 0 then code a = 2 ∧ ∃ k : Nat, k < 6 ∧ code (a + 1) = nI k ∧ co p = -1 - nI k else code a = 1 ∧ code (a + 1) = co p) ∧ CodeR co code j (p + 1) (a + 2)) else (a < 1400 ∧ code a = opR (co p) ∧ -15 ≤ co p ∧ CodeR co code j (p + 1) (a + 1))
/-- the stack, of m now, holds while j codes from p on are done; one is left -/
def WfR (co : AF) : Nat → Nat → Nat → Prop
  | 0, _, m => m = 1
  | j + 1, p, m => if ¬ co p ≤ -7 then (m < 64 ∧ WfR co j (p + 1) (m + 1)) else if co p = -7 then (1 ≤ m ∧ WfR co j (p + 1) m) else (2 ≤ m ∧ WfR co j (p + 1) (m - 1))
/-- a rule of the class and of the reference -/
def RuR (co code : AF) (R : RuV) (at_ : Int32) : Prop := (R.1 = 0 ∧ at_ = -1) ∨ (R.1 = 1 ∧ ∃ a p q : Nat, at_ = nI a ∧ a < 1400 ∧ RuOK R p q ∧ CodeR co code (q - p) p a ∧ WfR co (q - p) p 0)
def TR (T : ToldV) (R : RefV) : Prop := ri R 1 = nI (tN_ T) ∧ ri R 2 = nI (tW T) ∧ ri R 4 = tWk T ∧ (∀ w, w < tW T → ra R 1 w = tSk T w) ∧ RuR (tCo T) (ra R 4) (tFr T) (ri R 5) ∧ RuR (tCo T) (ra R 4) (tPl T) (ri R 6)
theorem TR.df {T : ToldV} {R R' : RefV} (q : TR T R) (e : DF R R') : TR T R' := by
  obtain ⟨e1, _, e2⟩ := e
  unfold TR
  rw [e1, e2 1 (by decide) (by decide) (by decide) (by decide), e2 4 (by decide) (by decide) (by decide) (by decide)]
  exact q
/-- the lands' ranges -/
def LOK (n w : Nat) (X : LandV) : Prop := (∀ k, k < n → (∃ a, a ≤ 99 ∧ lStr X k = nI a) ∧ (∃ a, a ≤ 99 ∧ lSm X k = nI a) ∧ (∃ a, a ≤ 2 ∧ lSt X k = nI a)) ∧ (∀ k, k < w → (∃ j, j < n ∧ lAt X k = nI j) ∧ (∃ a, a ≤ 99 ∧ lTh X k = nI a))
theorem LOK.aok {n w : Nat} {X : LandV} (q : LOK n w X) : AtOK n w X := fun v hv => (q.2 v hv).1
theorem LOK.smok {n w : Nat} {X : LandV} (q : LOK n w X) : SmOK n X := fun v hv => (q.1 v hv).2.1
/-- at b the rows hold X; else R is as R0 but for a day's scratch -/
def TX (T : ToldV) (b : Nat) (X : LandV) (R0 R : RefV) : Prop := TOK T ∧ b ≤ 49 ∧ TR T R ∧ DF R0 R ∧ RW (tN_ T) (tW T) b X (ra R 14) (ra R0 14)
section TXs
variable {T : ToldV} {b k : Nat} {X : LandV} {R0 R R' : RefV} {v : Int32}
theorem TX.tok (q : TX T b X R0 R) : TOK T := q.1
theorem TX.b49 (q : TX T b X R0 R) : b ≤ 49 := q.2.1
theorem TX.tr (q : TX T b X R0 R) : TR T R := q.2.2.1
theorem TX.df (q : TX T b X R0 R) : DF R0 R := q.2.2.2.1
theorem TX.rw_ (q : TX T b X R0 R) : RW (tN_ T) (tW T) b X (ra R 14) (ra R0 14) := q.2.2.2.2
theorem TX.n (q : TX T b X R0 R) : ri R 1 = nI (tN_ T) := q.tr.1
theorem TX.w (q : TX T b X R0 R) : ri R 2 = nI (tW T) := q.tr.2.1
theorem TX.wk (q : TX T b X R0 R) : ri R 4 = tWk T := q.tr.2.2.1
/-- scratch written -/
theorem TX.sc {c : Nat} {f : AF} (q : TX T b X R0 R) (hc : c = 16 ∨ c = 17 ∨ c = 18) : TX T b X R0 (sA R c f) :=
  ⟨q.1, q.2.1, q.tr.df ((DF.refl R).sA (by omega)), q.df.sA (by omega), by rw [ra_sAn (show 14 ≠ c by omega)]; exact q.rw_⟩
theorem TX.up {f : AF} {Y : LandV} (q : TX T b X R0 R) (h : RW (tN_ T) (tW T) b Y f (ra R0 14)) : TX T b Y R0 (sA R 14 f) :=
  ⟨q.1, q.2.1, q.tr.df ((DF.refl R).sA (by omega)), q.df.sA (by omega), by rw [ra_sA]; exact h⟩
theorem TX.uDay (q : TX T b X R0 R) : TX T b (sDay X v) R0 (sA R 14 (upd (ra R 14) b v)) := q.up (q.rw_.uDay q.1.2.1 q.1.2.2)
theorem TX.uStr (q : TX T b X R0 R) (hk : k < tN_ T) : TX T b (sStr X k v) R0 (sA R 14 (upd (ra R 14) (b + 1 + k) v)) := q.up (q.rw_.uStr q.1.2.1 q.1.2.2 hk)
theorem TX.uSm (q : TX T b X R0 R) (hk : k < tN_ T) : TX T b (sSm X k v) R0 (sA R 14 (upd (ra R 14) (b + 13 + k) v)) := q.up (q.rw_.uSm q.1.2.1 q.1.2.2 hk)
theorem TX.uSt (q : TX T b X R0 R) (hk : k < tN_ T) : TX T b (sSt X k v) R0 (sA R 14 (upd (ra R 14) (b + 25 + k) v)) := q.up (q.rw_.uSt q.1.2.1 q.1.2.2 hk)
theorem TX.uAt (q : TX T b X R0 R) (hk : k < tW T) : TX T b (sAt X k v) R0 (sA R 14 (upd (ra R 14) (b + 37 + k) v)) := q.up (q.rw_.uAt q.1.2.1 q.1.2.2 hk)
theorem TX.uTh (q : TX T b X R0 R) (hk : k < tW T) : TX T b (sTh X k v) R0 (sA R 14 (upd (ra R 14) (b + 43 + k) v)) := q.up (q.rw_.uTh q.1.2.1 q.1.2.2 hk)
theorem TX.le {Y : LandV} (q : TX T b X R0 R) (e : LE (tN_ T) (tW T) X Y) : TX T b Y R0 R := ⟨q.1, q.2.1, q.tr, q.df, q.rw_.1.trans e, q.rw_.2⟩
end TXs
/-! small methods -/
section RS
variable {g : GG} {h : Hp} {B b d k : Nat} {T : ToldV} {X : LandV} {R0 R : RefV}
theorem ix3 (b m k : Nat) : nI b + nI m + nI k = nI (b + m + k) := by rw [nI_add, nI_add]
def bnd (v lo hi : Int32) : Int32 := if lo ≤ v then (if v ≤ hi then v else hi) else lo
theorem bnd_wth {v lo hi : Int32} (hq : lo ≤ hi) : bnd v lo hi = wth v lo hi := by
  unfold bnd wth
  by_cases e1 : lo ≤ v
  · by_cases e2 : v ≤ hi
    · rw [if_pos e1, if_pos e2]
      by_cases e3 : v < hi
      · rw [if_pos e3]
        by_cases e4 : lo < v
        · rw [if_pos e4]
        · rw [if_neg e4]; exact Int32.le_antisymm (Int32.not_lt.mp e4) e1
      · have e5 : v = hi := Int32.le_antisymm e2 (Int32.not_lt.mp e3)
        rw [if_neg e3, e5]
        by_cases e4 : lo < hi
        · rw [if_pos e4]
        · rw [if_neg e4]; exact Int32.le_antisymm (Int32.not_lt.mp e4) hq
    · rw [if_pos e1, if_neg e2]
      have e3 : ¬ v < hi := fun z => e2 (Int32.le_of_lt z)
      rw [if_neg e3]
      by_cases e4 : lo < hi
      · rw [if_pos e4]
      · rw [if_neg e4]; exact Int32.le_antisymm (Int32.not_lt.mp e4) hq
  · rw [if_neg e1]
    have e2 : v < lo := Int32.not_le.mp e1
    have e3 : ¬ lo < (if v < hi then v else hi) := by
      intro z
      by_cases e4 : v < hi
      · rw [if_pos e4] at z; exact Int32.lt_asymm e2 z
      · rw [if_neg e4] at z; exact e4 (Int32.lt_of_lt_of_le e2 hq)
    rw [if_neg e3]
theorem d_bounded (hg : GOK g) (hd : 8 ≤ d) (v lo hi : Int32) : CT g d yX12_bounded (wsC yX12_bounded cX12_bounded 3 (some .int)) [.int v, .int lo, .int hi] h 0 0 (fun r h2 => r = some (.int (bnd v lo hi)) ∧ h2 = h) noT := by
  refine CT_ofB (by decide +kernel) (Nat.le_of_ble_eq_true rfl) rfl fun K X => ?_
  exact b_X12_bounded_0 hg hd k00 X _ _ _ _ ⟨fun q => ⟨fun z => ⟨by rw [bnd, if_pos q, if_pos z], rfl⟩, fun z => ⟨by rw [bnd, if_pos q, if_neg z], rfl⟩⟩, fun q => ⟨by rw [bnd, if_neg q], rfl⟩⟩
def lsE (a b : Int32) : Int32 := if b ≤ a then b else a
theorem lsE_99 (v : Int32) : lsE 99 v = min99 v := by
  unfold lsE min99
  by_cases e : v < 99
  · rw [if_pos e, if_pos (Int32.le_of_lt e)]
  · rw [if_neg e]
    by_cases z : v ≤ 99
    · rw [if_pos z]; exact Int32.le_antisymm z (Int32.not_lt.mp e)
    · rw [if_neg z]
theorem d_lesser (hg : GOK g) (hd : 8 ≤ d) (u v : Int32) : CT g d yX12_lesser (wsC yX12_lesser cX12_lesser 2 (some .int)) [.int u, .int v] h 0 0 (fun r h2 => r = some (.int (lsE u v)) ∧ h2 = h) noT := by
  refine CT_ofB (by decide +kernel) (Nat.le_of_ble_eq_true rfl) rfl fun K X => ?_
  exact b_X12_lesser_0 hg hd k00 X _ _ _ ⟨fun q => ⟨by rw [lsE, if_pos q], rfl⟩, fun q => ⟨by rw [lsE, if_neg q], rfl⟩⟩
def wnB (v lo hi : Int32) : Bool := !decide (v < lo) && !decide (hi < v)
theorem d_within (hg : GOK g) (hd : 8 ≤ d) (v lo hi : Int32) : CT g d yX12_within (wsC yX12_within cX12_within 3 (some .boolean)) [.int v, .int lo, .int hi] h 0 0 (fun r h2 => r = some (.int (if wnB v lo hi then 1 else 0)) ∧ h2 = h) noT := by
  refine CT_ofB (by decide +kernel) (Nat.le_of_ble_eq_true rfl) rfl fun K X => ?_
  exact b_X12_within_0 hg hd k00 X _ _ _ _ ⟨fun q => ⟨Or.inl rfl, by simp [wnB, q], rfl⟩, fun q => ⟨fun z => ⟨Or.inl rfl, by simp [wnB, z], rfl⟩, fun z => ⟨Or.inr rfl, by simp [wnB, q, z], rfl⟩⟩⟩
theorem d_ahead1 (hg : GOK g) (hd : 8 ≤ d) (hR : RA h B R) (hX : TX T b X R0 R) (hk : k < tN_ T) : CT g d yX12_ahead1 (wsC yX12_ahead1 cX12_ahead1 2 (some .int)) [.ref B, .int (nI k)] h 0 0 (fun r h2 => r = some (.int (nI (aheN (tN_ T) k))) ∧ h2 = h) noT := by
  obtain ⟨o1, o2, o3⟩ := hX.tok
  refine CT_ofB (by decide +kernel) (Nat.le_of_ble_eq_true rfl) rfl fun K X => ?_
  refine b_X12_ahead1_0 hg hd k00 X _ _ _ ⟨fun q => ⟨?_, rfl⟩, fun q => ⟨_, hR.i1, ?_, rfl⟩⟩
  · have : k ≠ 0 := fun e => q (by rw [e]; rfl)
    rw [nI_o, pk_sub (by omega), aheN, if_neg (by omega)]
  · have : k = 0 := by rw [nI_z, nI_eq (by omega) (by omega)] at q; exact q
    rw [hX.n, nI_o, pk_sub (by omega), aheN, if_pos (by omega)]
theorem d_behind1 (hg : GOK g) (hd : 8 ≤ d) (hR : RA h B R) (hX : TX T b X R0 R) (hk : k < tN_ T) : CT g d yX12_behind1 (wsC yX12_behind1 cX12_behind1 2 (some .int)) [.ref B, .int (nI k)] h 0 0 (fun r h2 => r = some (.int (nI (aftN (tN_ T) k))) ∧ h2 = h) noT := by
  obtain ⟨o1, o2, o3⟩ := hX.tok
  refine CT_ofB (by decide +kernel) (Nat.le_of_ble_eq_true rfl) rfl fun K X => ?_
  refine b_X12_behind1_0 hg hd k00 X _ _ _ ⟨_, hR.i1, fun q => ⟨?_, rfl⟩, fun q => ⟨?_, rfl⟩⟩
  · rw [hX.n, nI_o, pk_sub (by omega)] at q
    have : k ≠ tN_ T - 1 := fun e => q (by rw [e])
    rw [nI_s, aftN, if_pos (by omega)]
  · rw [hX.n, nI_o, pk_sub (by omega), nI_eq (by omega) (by omega)] at q
    rw [aftN, if_neg (by omega)]; rfl
theorem d_isGap (hg : GOK g) (hd : 8 ≤ d) (hR : RA h B R) (hX : TX T b X R0 R) (hk : k < tN_ T) : CT g d yX12_isGap (wsC yX12_isGap cX12_isGap 3 (some .boolean)) [.ref B, .int (nI b), .int (nI k)] h 0 0 (fun r h2 => r = some (.int (if lSm X k = 0 then 1 else 0)) ∧ h2 = h) noT := by
  obtain ⟨o1, o2, o3⟩ := hX.tok
  have hb := hX.b49
  refine CT_ofB (by decide +kernel) (Nat.le_of_ble_eq_true rfl) rfl fun K XX => ?_
  refine b_X12_isGap_0 hg hd k00 XX _ _ _ _ ⟨_, hR.n40, ?_⟩
  rw [show (13 : Int32) = nI 13 from rfl, ix3]
  refine ⟨_, hR.r14 (by omega), fun q => ⟨Or.inl rfl, ?_, rfl⟩, fun q => ⟨Or.inr rfl, ?_, rfl⟩⟩
  · rw [hX.rw_.sm hk] at q; rw [if_neg q]
  · rw [hX.rw_.sm hk] at q; rw [if_pos q]
theorem d_strains (hg : GOK g) (hd : 9 ≤ d) (hR : RA h B R) (hX : TX T b X R0 R) (hk : k < tN_ T) (v : Int32) : CT g d yX12_strains (wsC yX12_strains cX12_strains 4 none) [.ref B, .int (nI b), .int (nI k), .int v] h 0 0 (fun r h2 => r = none ∧ ∃ R', h2 = pR h B R' ∧ TX T b (addS X k v) R0 R') noT := by
  obtain ⟨o1, o2, o3⟩ := hX.tok
  have hb := hX.b49
  refine CT_ofB (by decide +kernel) (Nat.le_of_ble_eq_true rfl) rfl fun K XX => ?_
  refine b_X12_strains_0 hg (by omega) k00 XX _ _ _ _ _ ⟨_, hR.n40, _, hR.n40, ?_⟩
  rw [show (1 : Int32) = nI 1 from rfl, ix3]
  refine ⟨_, hR.r14 (by omega), use_i (d_lesser (d := d - 1) hg (by omega) _ _) (by omega) k00 ⟨_, hR.u14 (by omega), rfl, _, rfl, ?_⟩⟩
  rw [hX.rw_.st hk, lsE_99]
  exact hX.uStr hk
theorem max0_bnd {a : Nat} (ha : a ≤ 99) {v : Int32} (hv : 0 ≤ v) : bnd (nI a - v) 0 99 = max0 (nI a - v) := by
  have h1 := Int32.le_iff_toInt_le.mp hv
  have e0 : (0 : Int32).toInt = 0 := rfl
  have e9 : (99 : Int32).toInt = 99 := rfl
  have ea : (nI a).toInt = a := nI_toInt (by omega)
  have h2 := Int32.toInt_lt v
  have hs : (nI a - v).toInt = a - v.toInt := by
    rw [Int32.toInt_sub, ea]
    exact Int.bmod_eq_of_le (by omega) (by omega)
  unfold bnd max0
  have c1 : (0 : Int32) ≤ nI a - v ↔ 0 ≤ (a : Int) - v.toInt := by rw [Int32.le_iff_toInt_le, hs, e0]
  have c2 : nI a - v ≤ 99 := by rw [Int32.le_iff_toInt_le, hs, e9]; omega
  have c3 : (0 : Int32) < nI a - v ↔ 0 < (a : Int) - v.toInt := by rw [Int32.lt_iff_toInt_lt, hs, e0]
  rw [if_pos c2]
  by_cases q : (0 : Int32) ≤ nI a - v
  · rw [if_pos q]
    by_cases z : (0 : Int32) < nI a - v
    · rw [if_pos z]
    · rw [if_neg z]; exact Int32.le_antisymm (Int32.not_lt.mp z) q
  · rw [if_neg q, if_neg (fun z => q (Int32.le_of_lt z))]
end RS
