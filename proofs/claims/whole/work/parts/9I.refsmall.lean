/-! THE REFERENCE: its reader's small methods -/
def fkB (k : Nat) : Bool := [13, 14, 17, 18, 19, 20, 21, 22, 30, 31, 32].contains k
/-- all as before but for the token, the fault, the machine's fields and rows -/
def XF (R0 R : RefV) : Prop := (∀ k, fkB k = false → ri R k = ri R0 k) ∧ ∀ c, c ≠ 11 → c ≠ 12 → c ≠ 13 → ra R c = ra R0 c
theorem XF.refl (R : RefV) : XF R R := ⟨fun _ _ => rfl, fun _ _ _ _ => rfl⟩
theorem XF.trans {R0 R1 R2 : RefV} (a : XF R0 R1) (b : XF R1 R2) : XF R0 R2 := ⟨fun k hk => (b.1 k hk).trans (a.1 k hk), fun c h1 h2 h3 => (b.2 c h1 h2 h3).trans (a.2 c h1 h2 h3)⟩
theorem XF.i {R0 R : RefV} {k : Nat} {v : Int32} (a : XF R0 R) (hk : fkB k = true) : XF R0 (sI R k v) := ⟨fun j hj => by rw [ri_sIn (fun e => by rw [e, hk] at hj; exact absurd hj (by decide))]; exact a.1 j hj, a.2⟩
theorem XF.a {R0 R : RefV} {c : Nat} {g : AF} (a : XF R0 R) (hc : c = 11 ∨ c = 12 ∨ c = 13) : XF R0 (sA R c g) := ⟨a.1, fun j h1 h2 h3 => by rw [ra_sAn (by rcases hc with rfl | rfl | rfl <;> assumption)]; exact a.2 j h1 h2 h3⟩
theorem GF.xf {R R' : RefV} (a : GF R R') : XF R R' := ⟨fun k hk => a.1 k (by
  by_cases y : k < 17 ∨ 22 < k
  · exact y
  · exfalso
    have : k = 17 ∨ k = 18 ∨ k = 19 ∨ k = 20 ∨ k = 21 ∨ k = 22 := by omega
    rcases this with rfl | rfl | rfl | rfl | rfl | rfl <;> exact absurd hk (by decide)), fun c _ _ _ => a.2 c⟩
theorem TpR.xf {f : AF} {len : Nat} {R R' : RefV} (q : TpR f len R) (a : XF R R') : TpR f len R' := ⟨q.1, by rw [a.1 16 rfl]; exact q.2.1, fun k hk => by rw [a.2 5 (by decide) (by decide) (by decide)]; exact q.2.2.1 k hk, q.2.2.2⟩
theorem TkR.i {f : AF} {len st k : Nat} {R : RefV} {v : Int32} (q : TkR f len st R) (hk : k < 17 ∨ 22 < k) : TkR f len st (sI R k v) := by
  obtain ⟨h0, h1, h2, h3, h4, h5, h6, h7⟩ := q
  refine ⟨h0, ?_, ?_, ?_, ?_, fun z => ?_, ?_, h7⟩
  · rw [ri_sIn (by omega)]; exact h1
  · rw [ri_sIn (by omega)]; exact h2
  · rw [ri_sIn (by omega)]; exact h3
  · rw [ri_sIn (by omega)]; exact h4
  · rw [ri_sIn (by omega)]; exact h5 z
  · rw [ri_sIn (by omega)]; exact h6
theorem TkR.a {f : AF} {len st c : Nat} {R : RefV} {g : AF} (q : TkR f len st R) : TkR f len st (sA R c g) := q
/-- the machine's rows: what is put, what waits -/
def SKR (o w : List Int32) (R : RefV) : Prop := ri R 30 = nI o.length ∧ Stk (ra R 11) o ∧ ri R 31 = nI w.length ∧ Stk (ra R 12) w
/-- only these have changed -/
def XS (R R' : RefV) : Prop := (∀ k, k ≠ 30 → k ≠ 31 → ri R' k = ri R k) ∧ R'.2.1 = R.2.1 ∧ ∀ c, c ≠ 11 → c ≠ 12 → ra R' c = ra R c
theorem XS.refl (R : RefV) : XS R R := ⟨fun _ _ _ => rfl, rfl, fun _ _ _ => rfl⟩
theorem XS.trans {R0 R1 R2 : RefV} (a : XS R0 R1) (b : XS R1 R2) : XS R0 R2 := ⟨fun k h1 h2 => (b.1 k h1 h2).trans (a.1 k h1 h2), b.2.1.trans a.2.1, fun c h1 h2 => (b.2.2 c h1 h2).trans (a.2.2 c h1 h2)⟩
theorem XS.xf {R R' : RefV} (a : XS R R') : XF R R' := ⟨fun k hk => a.1 k (fun e => by rw [e] at hk; exact absurd hk (by decide)) (fun e => by rw [e] at hk; exact absurd hk (by decide)), fun c h1 h2 _ => a.2.2 c h1 h2⟩
theorem XS.tk {f : AF} {len st : Nat} {R R' : RefV} (a : XS R R') (q : TkR f len st R) : TkR f len st R' := by
  obtain ⟨h0, h1, h2, h3, h4, h5, h6, h7⟩ := q
  refine ⟨h0, ?_, ?_, ?_, ?_, fun z => ?_, ?_, fun z => ?_⟩
  · rw [a.1 17 (by decide) (by decide)]; exact h1
  · rw [a.1 18 (by decide) (by decide)]; exact h2
  · rw [a.1 19 (by decide) (by decide)]; exact h3
  · rw [a.1 20 (by decide) (by decide)]; exact h4
  · rw [a.1 21 (by decide) (by decide)]; exact h5 z
  · rw [a.1 22 (by decide) (by decide)]; exact h6
  · rw [a.2.1]; exact h7 z
def ptR (R : RefV) (n : Nat) (v : Int32) : RefV := sI (sA R 11 (upd (ra R 11) n v)) 30 (nI (n + 1))
def wtR (R : RefV) (n : Nat) (v : Int32) : RefV := sI (sA R 12 (upd (ra R 12) n v)) 31 (nI (n + 1))
theorem ptR_xs (R : RefV) (n : Nat) (v : Int32) : XS R (ptR R n v) := ⟨fun k h1 _ => by unfold ptR; rw [ri_sIn h1]; rfl, rfl, fun c h1 _ => ra_sAn h1⟩
theorem wtR_xs (R : RefV) (n : Nat) (v : Int32) : XS R (wtR R n v) := ⟨fun k _ h1 => by unfold wtR; rw [ri_sIn h1]; rfl, rfl, fun c _ h1 => ra_sAn h1⟩
theorem SKR.pt {o w : List Int32} {R : RefV} (q : SKR o w R) (v : Int32) : SKR (v :: o) w (ptR R o.length v) := by
  obtain ⟨h1, h2, h3, h4⟩ := q
  refine ⟨?_, ?_, ?_, ?_⟩
  · unfold ptR; rw [ri_sI]; rfl
  · show Stk (ra (sA R 11 (upd (ra R 11) o.length v)) 11) (v :: o)
    rw [ra_sA]
    exact ⟨pk_us, Stk_upd (Nat.le_refl _) h2⟩
  · unfold ptR; rw [ri_sIn (by decide)]; exact h3
  · show Stk (ra (sA R 11 (upd (ra R 11) o.length v)) 12) w
    rw [ra_sAn (by decide)]; exact h4
theorem SKR.wt {o w : List Int32} {R : RefV} (q : SKR o w R) (v : Int32) : SKR o (v :: w) (wtR R w.length v) := by
  obtain ⟨h1, h2, h3, h4⟩ := q
  refine ⟨?_, ?_, ?_, ?_⟩
  · unfold wtR; rw [ri_sIn (by decide)]; exact h1
  · show Stk (ra (sA R 12 (upd (ra R 12) w.length v)) 11) o
    rw [ra_sAn (by decide)]; exact h2
  · unfold wtR; rw [ri_sI]; rfl
  · show Stk (ra (sA R 12 (upd (ra R 12) w.length v)) 12) (v :: w)
    rw [ra_sA]
    exact ⟨pk_us, Stk_upd (Nat.le_refl _) h4⟩
theorem SKR.of {o w : List Int32} {R R' : RefV} (q : SKR o w R) (h30 : ri R' 30 = ri R 30) (h31 : ri R' 31 = ri R 31) (h11 : ra R' 11 = ra R 11) (h12 : ra R' 12 = ra R 12) : SKR o w R' := by
  unfold SKR
  rw [h30, h31, h11, h12]
  exact q
theorem Stk_any (g : AF) : ∀ n : Nat, ∃ l : List Int32, l.length = n ∧ Stk g l := by
  intro n
  induction n with
  | zero => exact ⟨[], rfl, trivial⟩
  | succ n ih =>
    obtain ⟨l, h1, h2⟩ := ih
    exact ⟨g n :: l, by rw [List.length_cons, h1], by rw [h1], h2⟩
theorem sgV_r (a : Int32) : sgV a ≤ 6 := by
  unfold sgV
  split; · decide
  split; · decide
  split; · decide
  split; · decide
  split <;> decide
section RSM
variable {g : GG} {h : Hp} {B d len st n : Nat} {R : RefV} {f : AF}
theorem d_wrong (hg : GOK g) (hd : 8 ≤ d) (hR : RA h B R) (h0 : ri R 13 = 0) (e : Int32) : CT g d yX12_wrong (wsC yX12_wrong cX12_wrong 2 none) [.ref B, .int e] h 0 0 (fun v h2 => v = none ∧ h2 = pR h B (sI (sI R 13 e) 14 (ri R 19))) noT := by
  refine CT_ofB (by decide +kernel) (Nat.le_of_ble_eq_true rfl) rfl fun K XX => ?_
  have r1 := hR.put (sI R 13 e)
  refine b_X12_wrong_0 hg hd k00 XX _ _ _ ⟨_, hR.i13, fun _ => ⟨_, hR.w13 e, _, by rw [r1.i19, ri_sIn (by decide)], _, r1.w14 _, rfl, ?_⟩, fun z => absurd h0 z⟩
  rw [hR.pp]
theorem d_wrongN (hg : GOK g) (hd : 8 ≤ d) (hR : RA h B R) (h0 : ¬ ri R 13 = 0) (e : Int32) : CT g d yX12_wrong (wsC yX12_wrong cX12_wrong 2 none) [.ref B, .int e] h 0 0 (fun v h2 => v = none ∧ h2 = h) noT := by
  refine CT_ofB (by decide +kernel) (Nat.le_of_ble_eq_true rfl) rfl fun K XX => ?_
  exact b_X12_wrong_0 hg hd k00 XX _ _ _ ⟨_, hR.i13, fun z => absurd z h0, fun _ => ⟨rfl, rfl⟩⟩
theorem d_isGood (hg : GOK g) (hd : 8 ≤ d) (hR : RA h B R) : CT g d yX12_isGood (wsC yX12_isGood cX12_isGood 1 (some .boolean)) [.ref B] h 0 0 (fun v h2 => v = some (.int (if ri R 13 = 0 then 1 else 0)) ∧ h2 = h) noT := by
  refine CT_ofB (by decide +kernel) (Nat.le_of_ble_eq_true rfl) rfl fun K XX => ?_
  refine b_X12_isGood_0 hg hd k00 XX _ _ ⟨_, hR.i13, fun z => ⟨Or.inl rfl, ?_, rfl⟩, fun z => ⟨Or.inr rfl, ?_, rfl⟩⟩
  · rw [if_neg z]
  · rw [if_pos z]
/-- good, or not -/
theorem u_good {D kc ks mc ms : Nat} {Pt : String → Hp → Prop} {Z : Nat → Nat → Int32 → Hp → Prop} (hg : GOK g) (hR : RA h B R) (hd : 9 ≤ D) (hk : kc ≤ mc ∧ ks ≤ ms) (yes : ri R 13 = 0 → Z 0 0 1 h) (no : ¬ ri R 13 = 0 → Z 0 0 0 h) :
    ∃ d1 P1 E1 m1 n1, CT g d1 yX12_isGood (wsC yX12_isGood cX12_isGood 1 (some .boolean)) [.ref B] h m1 n1 P1 E1 ∧ (d1 + 1 ≤ D ∧ kc + m1 ≤ mc ∧ ks + n1 ≤ ms) ∧ (∀ E h', E1 E h' → Pt E h') ∧ (∀ v h1, P1 v h1 → ∃ x, v = some (.int x) ∧ Z m1 n1 x h1) := by
  refine use_i (d_isGood (d := D - 1) hg (by omega) hR) (by omega) hk ?_
  by_cases y : ri R 13 = 0
  · rw [if_pos y]; exact yes y
  · rw [if_neg y]; exact no y
theorem btA_s {k : Nat} (hT : TpR f len R) (h : kdE f len k = 3) : btA f len k = f k := by
  obtain ⟨l7, _, _, hb⟩ := hT
  unfold kdE at h
  by_cases y : k < len
  · rw [if_pos y] at h
    obtain ⟨b1, b2⟩ := hb k (by omega)
    obtain ⟨_, _, _, _, k5, _⟩ := kd_ref b1 b2
    rw [btA, if_pos y]
    rcases k5 with e | e
    · rw [h] at e; exact absurd e (by decide)
    · exact e
  · rw [if_neg y] at h; exact absurd h (by decide)
theorem d_rSign (hg : GOK g) (hd : 8 ≤ d) (hR : RA h B R) (hT : TpR f len R) (hk : TkR f len st R) (v : Int32) : CT g d yX12_isSign (wsC yX12_isSign cX12_isSign 2 (some .boolean)) [.ref B, .int v] h 0 0 (fun r h2 => r = some (.int (if sgP f len st v then 1 else 0)) ∧ h2 = h) noT := by
  obtain ⟨h0, _, e18, _, _, _, e22, _⟩ := hk
  refine CT_ofB (by decide +kernel) (Nat.le_of_ble_eq_true rfl) rfl fun K XX => ?_
  refine b_X12_isSign_0 hg hd k00 XX _ _ _ ⟨_, by rw [hR.i18, e18], fun z => ⟨Or.inl rfl, ?_, rfl⟩, fun z => ⟨_, by rw [hR.i22, e22], fun y => ⟨Or.inl rfl, ?_, rfl⟩, fun y => ⟨Or.inr rfl, ?_, rfl⟩⟩⟩
  · rw [srt (by decide)] at z
    rw [sgP, decide_eq_false z, Bool.false_and]; rfl
  · rw [srt (by decide)] at z
    rw [btA_s hT z] at y
    rw [sgP, decide_eq_false y, Bool.and_false, Bool.and_false]; rfl
  · rw [srt (by decide)] at z
    rw [btA_s hT z] at y
    have hl : st < len := kdE_lt (f := f) (by rw [z]; decide)
    rw [sgP, decide_eq_true z, decide_eq_true hl, decide_eq_true y]; rfl
theorem u_rSign {D kc ks mc ms : Nat} {Pt : String → Hp → Prop} {Z : Nat → Nat → Int32 → Hp → Prop} (hg : GOK g) (hR : RA h B R) (hT : TpR f len R) (hk : TkR f len st R) (v : Int32) (hd : 9 ≤ D) (hk2 : kc ≤ mc ∧ ks ≤ ms) (yes : sgP f len st v = true → Z 0 0 1 h) (no : sgP f len st v = false → Z 0 0 0 h) :
    ∃ d1 P1 E1 m1 n1, CT g d1 yX12_isSign (wsC yX12_isSign cX12_isSign 2 (some .boolean)) [.ref B, .int v] h m1 n1 P1 E1 ∧ (d1 + 1 ≤ D ∧ kc + m1 ≤ mc ∧ ks + n1 ≤ ms) ∧ (∀ E h', E1 E h' → Pt E h') ∧ (∀ v h1, P1 v h1 → ∃ x, v = some (.int x) ∧ Z m1 n1 x h1) := by
  refine use_i (d_rSign (d := D - 1) hg (by omega) hR hT hk v) (by omega) hk2 ?_
  cases e : sgP f len st v with
  | true => exact yes e
  | false => exact no e
/-- the next token -/
theorem d_go (hg : GOK g) (hd : 10 ≤ d) (hR : RA h B R) (hT : TpR f len R) (hk : TkR f len st R) : CT g d yX12_goes (wsC yX12_goes cX12_goes 2 none) [.ref B] h 0 0 (fun v h2 => v = none ∧ ∃ R', h2 = pR h B R' ∧ (GF R R' ∧ TkR f len (adv f len st) R')) noT := by
  have hn := nxF_le (f := f) hk.1
  refine (d_goes hg hd hR hT hn.2 hk.2.1).mono (fun v h2 q => ?_) (fun _ _ q => q)
  obtain ⟨q1, R', q2, q3⟩ := q
  exact ⟨q1, R', q2, q3.r (adv_le hk.1)⟩
theorem d_puts (hg : GOK g) (hd : 8 ≤ d) (hR : RA h B R) (e : ri R 30 = nI n) (hn : n < 1400) (v : Int32) : CT g d yX12_puts (wsC yX12_puts cX12_puts 2 none) [.ref B, .int v] h 0 0 (fun r h2 => r = none ∧ h2 = pR h B (ptR R n v)) noT := by
  refine CT_ofB (by decide +kernel) (Nat.le_of_ble_eq_true rfl) rfl fun K XX => ?_
  have r1 := hR.put (sA R 11 (upd (ra R 11) n v))
  refine b_X12_puts_0 hg hd k00 XX _ _ _ ⟨_, hR.n37, _, by rw [hR.i30, e], _, hR.u11 hn, _, r1.i30, _, r1.w30 _, rfl, ?_⟩
  rw [hR.pp, show ri (sA R 11 (upd (ra R 11) n v)) 30 = nI n from e, nI_s]
  rfl
theorem d_waitsFor (hg : GOK g) (hd : 8 ≤ d) (hR : RA h B R) (e : ri R 31 = nI n) (hn : n < 950) (v : Int32) : CT g d yX12_waitsFor (wsC yX12_waitsFor cX12_waitsFor 2 none) [.ref B, .int v] h 0 0 (fun r h2 => r = none ∧ h2 = pR h B (wtR R n v)) noT := by
  refine CT_ofB (by decide +kernel) (Nat.le_of_ble_eq_true rfl) rfl fun K XX => ?_
  have r1 := hR.put (sA R 12 (upd (ra R 12) n v))
  refine b_X12_waitsFor_0 hg hd k00 XX _ _ _ ⟨_, hR.n38, _, by rw [hR.i31, e], _, hR.u12 hn, _, r1.i31, _, r1.w31 _, rfl, ?_⟩
  rw [hR.pp, show ri (sA R 12 (upd (ra R 12) n v)) 31 = nI n from e, nI_s]
  rfl
theorem d_isOpen (hg : GOK g) (hd : 8 ≤ d) (a : Int32) : CT g d yX12_isOpen (wsC yX12_isOpen cX12_isOpen 1 (some .boolean)) [.int a] h 0 0 (fun r h2 => r = some (.int (if a < 14 then 0 else 1)) ∧ h2 = h) noT := by
  refine CT_ofB (by decide +kernel) (Nat.le_of_ble_eq_true rfl) rfl fun K XX => ?_
  refine b_X12_isOpen_0 hg hd k00 XX _ _ ⟨fun y => ⟨Or.inl rfl, by rw [if_pos y], rfl⟩, fun y => ⟨Or.inr rfl, by rw [if_neg y], rfl⟩⟩
theorem d_strength (hg : GOK g) (hd : 8 ≤ d) (a : Int32) : CT g d yX12_strength (wsC yX12_strength cX12_strength 1 (some .int)) [.int a] h 0 0 (fun r h2 => r = some (.int (nI (sgV a))) ∧ h2 = h) noT := by
  refine CT_ofB (by decide +kernel) (Nat.le_of_ble_eq_true rfl) rfl fun K XX => ?_
  have s4 : ¬ a = 5 → ¬ a = 4 → ¬ a = 3 → (a = 6 ∨ a = 7) → VB g K 1 d 0 0 (fun r h2 => r = some (.int (nI (sgV a))) ∧ h2 = h) noT 0 0 39 [none] [] h := by
    intro n5 n4 n3 e
    exact b_X12_strength_39 hg hd k00 XX _ ⟨by rw [sgV, if_neg n5, if_neg n4, if_neg n3, if_pos e]; rfl, rfl⟩
  have s5 : ¬ a = 5 → ¬ a = 4 → ¬ a = 3 → ¬ (a = 6 ∨ a = 7) → (a = 8 ∨ a = 9) → VB g K 1 d 0 0 (fun r h2 => r = some (.int (nI (sgV a))) ∧ h2 = h) noT 0 0 55 [none] [] h := by
    intro n5 n4 n3 n67 e
    exact b_X12_strength_55 hg hd k00 XX _ ⟨by rw [sgV, if_neg n5, if_neg n4, if_neg n3, if_neg n67, if_pos e]; rfl, rfl⟩
  refine b_X12_strength_0 hg hd k00 XX _ _ ⟨fun n5 => ⟨fun n4 => ⟨fun n3 => ⟨fun e => s4 n5 n4 n3 (Or.inl e), fun n6 => ⟨fun n7 => ⟨fun e => s5 n5 n4 n3 (by rintro (z | z); exact n6 z; exact n7 z) (Or.inl e), fun n8 => ⟨fun n9 => ⟨?_, rfl⟩, fun e => s5 n5 n4 n3 (by rintro (z | z); exact n6 z; exact n7 z) (Or.inr e)⟩⟩, fun e => s4 n5 n4 n3 (Or.inr e)⟩⟩, fun e => ⟨?_, rfl⟩⟩, fun e => ⟨?_, rfl⟩⟩, fun e => ⟨?_, rfl⟩⟩
  · rw [sgV, if_neg n5, if_neg n4, if_neg n3, if_neg (by rintro (z | z); exact n6 z; exact n7 z), if_neg (by rintro (z | z); exact n8 z; exact n9 z)]; rfl
  · rw [e]; decide
  · rw [e]; decide
  · rw [e]; decide
/-- what waits with this strength is put -/
theorem d_drops (hg : GOK g) (hd : 9 ≤ d) (hR : RA h B R) {lv : Nat} (hl : lv < 100) : ∀ (w o : List Int32), SKR o w R → o.length + w.length ≤ 1400 → w.length ≤ 950 → CT g d yX12_drops (wsC yX12_drops cX12_drops 2 none) [.ref B, .int (nI lv)] h 0 0 (fun r h2 => r = none ∧ ∃ R', h2 = pR h B R' ∧ (XS R R' ∧ SKR (drS lv w o).2 (drS lv w o).1 R')) noT := by
  intro w0 o0 q0 b1 b2
  refine CT_ofB (by decide +kernel) (Nat.le_of_ble_eq_true rfl) rfl fun K XX => ?_
  have loop : ∀ (w o : List Int32) (R2 : RefV), XS R R2 → SKR o w R2 → o.length + w.length ≤ 1400 → w.length ≤ 950 → drS lv w o = drS lv w0 o0 → VB g K 2 d 0 0 (fun r h2 => r = none ∧ ∃ R', h2 = pR h B R' ∧ (XS R R' ∧ SKR (drS lv w0 o0).2 (drS lv w0 o0).1 R')) noT 0 0 0 [some (.ref B), some (.int (nI lv))] [] (pR h B R2) := by
    intro w
    induction w with
    | nil =>
      intro o R2 xs sk c1 c2 he
      have r2 := hR.put R2
      refine b_X12_drops_0 hg (by omega) k00 XX _ _ _ ⟨0, by rw [r2.i31, sk.2.2.1]; rfl, fun _ => ⟨rfl, R2, rfl, xs, ?_⟩, fun y => absurd (Int32.le_refl _) y⟩
      rw [← he]
      exact sk
    | cons a w ih =>
      intro o R2 xs sk c1 c2 he
      simp only [List.length_cons] at c1 c2
      have r2 := hR.put R2
      have e31 : ri R2 31 = nI (w.length + 1) := sk.2.2.1
      have ea : ra R2 12 w.length = a := sk.2.2.2.1
      rw [drS] at he
      refine b_X12_drops_0 hg (by omega) k00 XX _ _ _ ⟨_, by rw [r2.i31, e31], fun y => absurd y (nI_nle (by omega) (by omega)), fun _ => ⟨_, r2.n38, _, by rw [r2.i31, e31], ?_⟩⟩
      rw [nI_pred]
      refine ⟨_, r2.r12 (by omega), ?_⟩
      rw [ea]
      refine use_i (d_isOpen (d := d - 1) hg (by omega) a) (by omega) k00 ⟨fun y => ?_, fun y => ⟨_, r2.n38, _, by rw [r2.i31, e31], ?_⟩⟩
      · by_cases z : a < 14
        · rw [if_pos z] at y; exact absurd rfl y
        · rw [if_pos (Or.inl z)] at he
          exact ⟨rfl, R2, rfl, xs, by rw [← he]; exact sk⟩
      · have z : a < 14 := Classical.byContradiction fun z => by rw [if_neg z] at y; exact absurd y (by decide)
        rw [nI_pred]
        refine ⟨_, r2.r12 (by omega), ?_⟩
        rw [ea]
        have hs6 := sgV_r a
        refine use_i (d_strength (d := d - 1) hg (by omega) a) (by omega) k00 ⟨fun y2 => ?_, fun y2 => ⟨_, by rw [r2.i31, e31], ?_⟩⟩
        · have y3 := lt_nI (by omega) (by omega) y2
          rw [if_pos (Or.inr y3)] at he
          exact ⟨rfl, R2, rfl, xs, by rw [← he]; exact sk⟩
        · have y3 := nlt_nI (by omega) (by omega) y2
          rw [if_neg (by rintro (z2 | z2); exact z2 z; omega)] at he
          rw [nI_pred]
          have r3 := hR.put (sI R2 31 (nI w.length))
          have sk3 : SKR o w (sI R2 31 (nI w.length)) := by
            refine ⟨by rw [ri_sIn (by decide)]; exact sk.1, sk.2.1, ri_sI, sk.2.2.2.2⟩
          have xs3 : XS R (sI R2 31 (nI w.length)) := xs.trans ⟨fun k _ h2 => ri_sIn h2, rfl, fun _ _ _ => rfl⟩
          refine ⟨_, r2.w31 _, ?_⟩
          rw [hR.pp]
          refine ⟨_, r3.n38, _, by rw [r3.i31, ri_sI], _, r3.r12 (by omega), ?_⟩
          rw [show ra (sI R2 31 (nI w.length)) 12 w.length = a from ea]
          refine ⟨_, r3.o, use_v (d_puts (d := d - 1) hg (by omega) r3 sk3.1 (by omega) a) (by omega) k00 ?_⟩
          intro h4 e4
          rw [e4, hR.pp]
          exact ih (a :: o) _ (xs3.trans (ptR_xs _ _ _)) (sk3.pt a) (by simp only [List.length_cons]; omega) (by omega) he
  have := loop w0 o0 R (XS.refl R) q0 b1 b2 rfl
  rw [hR.id] at this
  exact this
end RSM
