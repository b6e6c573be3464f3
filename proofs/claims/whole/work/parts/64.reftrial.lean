/-! THE REFERENCE: what rules ask, a day's whole, days; ranges kept -/
def SkOK (T : ToldV) : Prop := ∀ w, w < tW T → ∃ a, a ≤ 9 ∧ tSk T w = nI a
section LOKs
variable {n w k : Nat} {X Y : LandV}
theorem LOK.str {a : Nat} (q : LOK n w X) (ha : a ≤ 99) : LOK n w (sStr X k (nI a)) := by
  refine ⟨fun j hj => ⟨?_, (q.1 j hj).2⟩, q.2⟩
  by_cases e : j = k
  · subst e; exact ⟨a, ha, pk_us⟩
  · obtain ⟨c, c1, c2⟩ := (q.1 j hj).1; exact ⟨c, c1, by show upd _ _ _ _ = _; rw [pk_un e]; exact c2⟩
theorem LOK.sm {a : Nat} (q : LOK n w X) (ha : a ≤ 99) : LOK n w (sSm X k (nI a)) := by
  refine ⟨fun j hj => ⟨(q.1 j hj).1, ?_, (q.1 j hj).2.2⟩, q.2⟩
  by_cases e : j = k
  · subst e; exact ⟨a, ha, pk_us⟩
  · obtain ⟨c, c1, c2⟩ := (q.1 j hj).2.1; exact ⟨c, c1, by show upd _ _ _ _ = _; rw [pk_un e]; exact c2⟩
theorem LOK.sti {a : Nat} (q : LOK n w X) (ha : a ≤ 2) : LOK n w (sSt X k (nI a)) := by
  refine ⟨fun j hj => ⟨(q.1 j hj).1, (q.1 j hj).2.1, ?_⟩, q.2⟩
  by_cases e : j = k
  · subst e; exact ⟨a, ha, pk_us⟩
  · obtain ⟨c, c1, c2⟩ := (q.1 j hj).2.2; exact ⟨c, c1, by show upd _ _ _ _ = _; rw [pk_un e]; exact c2⟩
theorem LOK.at_ {a : Nat} (q : LOK n w X) (ha : a < n) : LOK n w (sAt X k (nI a)) := by
  refine ⟨q.1, fun j hj => ⟨?_, (q.2 j hj).2⟩⟩
  by_cases e : j = k
  · subst e; exact ⟨a, ha, pk_us⟩
  · obtain ⟨c, c1, c2⟩ := (q.2 j hj).1; exact ⟨c, c1, by show upd _ _ _ _ = _; rw [pk_un e]; exact c2⟩
theorem LOK.th {a : Nat} (q : LOK n w X) (ha : a ≤ 99) : LOK n w (sTh X k (nI a)) := by
  refine ⟨q.1, fun j hj => ⟨(q.2 j hj).1, ?_⟩⟩
  by_cases e : j = k
  · subst e; exact ⟨a, ha, pk_us⟩
  · obtain ⟨c, c1, c2⟩ := (q.2 j hj).2; exact ⟨c, c1, by show upd _ _ _ _ = _; rw [pk_un e]; exact c2⟩
theorem LOK.le (q : LOK n w X) (e : LE n w X Y) : LOK n w Y := by
  refine ⟨fun j hj => ?_, fun j hj => ?_⟩
  · rw [← e.st hj, ← e.sm hj, ← e.ti hj]; exact q.1 j hj
  · rw [← e.at_ hj, ← e.th hj]; exact q.2 j hj
theorem min99_r (a : Nat) (ha : a < 2 ^ 31) : ∃ c, c ≤ 99 ∧ min99 (nI a) = nI c := by
  unfold min99
  by_cases e : nI a < 99
  · rw [if_pos e]; exact ⟨a, by have := lt_nI (y := 99) ha (by decide) e; omega, rfl⟩
  · rw [if_neg e]; exact ⟨99, by omega, rfl⟩
theorem wth_r {lo hi : Nat} (h1 : lo ≤ hi) (h2 : hi < 2 ^ 31) (v : Int32) : ∃ a, lo ≤ a ∧ a ≤ hi ∧ wth v (nI lo) (nI hi) = nI a := by
  unfold wth
  by_cases e : v < nI hi
  · rw [if_pos e]
    by_cases e2 : nI lo < v
    · rw [if_pos e2]
      have hv : ¬ v < 0 := fun z => absurd (Int32.lt_trans e2 z) (nI_pos (by omega))
      obtain ⟨j, j1, j2⟩ := nI_of hv
      rw [j2] at e e2 ⊢
      exact ⟨j, by have := lt_nI (by omega) j1 e2; omega, by have := lt_nI j1 h2 e; omega, rfl⟩
    · rw [if_neg e2]; exact ⟨lo, by omega, h1, rfl⟩
  · rw [if_neg e]
    by_cases e2 : nI lo < nI hi
    · rw [if_pos e2]; exact ⟨hi, h1, by omega, rfl⟩
    · rw [if_neg e2]; exact ⟨lo, by omega, h1, rfl⟩
theorem LOK.add {a : Nat} (q : LOK n w X) (hk : k < n) (ha : a ≤ 99) : LOK n w (addS X k (nI a)) := by
  obtain ⟨c, c1, c2⟩ := (q.1 k hk).1
  unfold addS
  rw [c2, nI_add]
  obtain ⟨e, e1, e2⟩ := min99_r (c + a) (by omega)
  rw [e2]; exact q.str e1
theorem LOK.sif {a : Nat} (q : LOK n w X) (hk : k < n) (ha : a ≤ 99) : LOK n w (sifC X k (nI a)) := by
  unfold sifC
  split
  · exact q
  · exact q.add hk ha
theorem max0_r {a c : Nat} (ha : a ≤ 99) (hc : c < 2 ^ 30) : ∃ e, e ≤ 99 ∧ max0 (nI a - nI c) = nI e := by
  unfold max0
  by_cases q : c ≤ a
  · rw [pk_sub q]
    by_cases z : 0 < nI (a - c)
    · rw [if_pos z]; exact ⟨a - c, by omega, rfl⟩
    · rw [if_neg z]; exact ⟨0, by omega, rfl⟩
  · have : nI a - nI c < 0 := pk_sneg (by omega) (by omega)
    rw [if_neg (fun z => Int32.lt_asymm this z)]; exact ⟨0, by omega, rfl⟩
theorem LOK.wear {c : Nat} (q : LOK n w X) (hk : k < n) (hc : c < 2 ^ 30) : LOK n w (wearL n X k (nI c)) := by
  obtain ⟨a, a1, a2⟩ := (q.1 k hk).2.1
  obtain ⟨e, e1, e2⟩ := max0_r a1 hc
  have q1 : LOK n w (sSm X k (max0 (lSm X k - nI c))) := by rw [a2, e2]; exact q.sm e1
  unfold wearL
  dsimp only
  split
  · obtain ⟨s, s1, s2⟩ := (q1.1 k hk).1
    have hs : lStr (sSm X k (max0 (lSm X k - nI c))) k / 2 = nI (s / 2) := by rw [s2, show (2 : Int32) = nI 2 from rfl, pk_div (by omega) (by omega) (by omega)]
    rw [hs]
    have q2 := q1.sif (k := aheN n k) (a := s / 2) (aheN_lt (by omega) hk) (by omega)
    have q3 := q2.sif (k := aftN n k) (a := s / 2) (aftN_lt (by omega)) (by omega)
    exact q3.str (a := 0) (by omega)
  · exact q1
theorem LOK.tear {c : Nat} (q : LOK n w X) (hk : k < n) (hc : c < 2 ^ 30) : LOK n w (tearL n X k (nI c)) := by
  unfold tearL
  split
  · exact q
  · exact q.wear hk hc
theorem LOK.give {c : Nat} (q : LOK n w X) (hk : k < w) (hc : c ≤ 99) : LOK n w (giveL X k (nI c)) := by
  obtain ⟨a, a1, a2⟩ := (q.2 k hk).2
  unfold giveL
  rw [a2, nI_add]
  obtain ⟨e, e1, e2⟩ := min99_r (a + c) (by omega)
  rw [e2]; exact q.th e1
theorem LOK.mend {sk : AF} (q : LOK n w X) (hn : n ≤ 12) (hk : k < w) (hs : ∃ a, a ≤ 9 ∧ sk k = nI a) : LOK n w (mendL sk X k) := by
  obtain ⟨⟨j, j1, j2⟩, a, a1, a2⟩ := q.2 k hk
  obtain ⟨s, s1, s2⟩ := hs
  obtain ⟨c, c1, c2⟩ := (q.1 j j1).2.1
  unfold mendL
  split
  · exact q
  · rename_i z
    dsimp only
    rw [j2, show (nI j).toNatClampNeg = j from nI_clamp (by omega), c2, s2, a2]
    rw [a2] at z
    have z' : ¬ a = 0 := fun e => z (by rw [e]; decide)
    rw [show (2 : Int32) = nI 2 from rfl, show (3 : Int32) = nI 3 from rfl, pk_mul, nI_add, nI_add, nI_o, pk_sub (by omega)]
    obtain ⟨e, e1, e2⟩ := min99_r (c + 2 * s + 3) (by omega)
    rw [e2]
    exact (q.th (a := a - 1) (by omega)).sm e1
theorem LOK.go (q : LOK n w X) (h0 : 0 < n) : LOK n w (goL n X k) := q.at_ (aftN_lt h0)
theorem LOK.mends {sk : AF} (hn : n ≤ 12) (h0 : 0 < n) (hs : ∀ k, k < w → ∃ a, a ≤ 9 ∧ sk k = nI a) : ∀ (j k : Nat) (X : LandV), k + j ≤ w → LOK n w X → LOK n w (mendFrom n sk j k X) := by
  intro j
  induction j with
  | zero => intro k X _ q; exact q
  | succ j ih => intro k X hk q; exact ih (k + 1) _ (by omega) ((q.mend hn (by omega) (hs k (by omega))).go h0)
theorem LOK.wears {fr : LandV → Nat → Int32} (hf : ∀ L i, ∃ a, a ≤ 20 ∧ fr L i = nI a) : ∀ (j k : Nat) (X : LandV), k + j ≤ n → LOK n w X → LOK n w (wearP n fr j k X) := by
  intro j
  induction j with
  | zero => intro k X _ q; exact q
  | succ j ih =>
    intro k X hk q
    unfold wearP
    refine ih (k + 1) _ (by omega) ?_
    split
    · exact q
    · obtain ⟨a, a1, a2⟩ := hf X k
      rw [a2]; exact q.wear (by omega) (by omega)
theorem fraE_r (T : ToldV) (p r : Nat) (L : LandV) (i : Nat) : ∃ a, a ≤ 20 ∧ fraE T p r L i = nI a := by
  obtain ⟨a, _, a2, a3⟩ := wth_r (lo := 0) (hi := 20) (by omega) (by omega) (if (tFr T).1 = 0 then fraU L i else ruE (tN_ T) (tW T) (tCo T) L i p r)
  exact ⟨a, a2, a3⟩
theorem LOK.day {T : ToldV} (hn : tN_ T ≤ 12) (h0 : 0 < tN_ T) (hs : SkOK T) (q : LOK (tN_ T) (tW T) X) : LOK (tN_ T) (tW T) (dayT T X) := by
  unfold dayT dayL dayP
  have q1 : LOK (tN_ T) (tW T) (setStr (setPu X (puTo (pullP (pulE T (tP0 T) (tP1 T)) X) (lPu X) (tN_ T))) (cpyF (puTo (pullP (pulE T (tP0 T) (tP1 T)) X) (lPu X) (tN_ T)) (lStr X) 0 0 (tN_ T) 12)) := by
    refine ⟨fun j hj => ⟨?_, (q.1 j hj).2⟩, q.2⟩
    show ∃ a, a ≤ 99 ∧ cpyF _ _ 0 0 (tN_ T) 12 j = nI a
    rw [cpyF_lt hj hn, puTo_lt hj, pullP]
    split
    · exact (q.1 j hj).1
    · obtain ⟨a, _, a2, a3⟩ := wth_r (lo := 0) (hi := 99) (by omega) (by omega) (lStr X j + pulE T (tP0 T) (tP1 T) X j)
      exact ⟨a, a2, a3⟩
  have q2 := LOK.wears (fr := fraE T (tF0 T) (tF1 T)) (fun L i => fraE_r T _ _ L i) (tN_ T) 0 _ (by omega) q1
  unfold dayEnd
  split
  · exact LOK.mends hn h0 hs (tW T) 0 _ (by omega) q2
  · exact q2
theorem LOK.days {T : ToldV} (hn : tN_ T ≤ 12) (h0 : 0 < tN_ T) (hs : SkOK T) : ∀ (k : Nat) {X : LandV}, LOK (tN_ T) (tW T) X → LOK (tN_ T) (tW T) (daysT T k X) := by
  intro k
  induction k with
  | zero => intro X q; exact q
  | succ k ih => intro X q; exact ih (q.day hn h0 hs)
end LOKs
section RT
variable {g : GG} {h : Hp} {B b d k : Nat} {T : ToldV} {X : LandV} {R0 R : RefV}
theorem d_asks {a p q : Nat} (hg : GOK g) (hd : 10 ≤ d) (hR : RA h B R) (hX : TX T b X R0 R) (hk : k < tN_ T) (hC : CodeR (tCo T) (ra R 4) (q - p) p a) (hW : WfR (tCo T) (q - p) p 0) : CT g d yX12_asks (wsC yX12_asks cX12_asks 4 (some .int)) [.ref B, .int (nI a), .int (nI b), .int (nI k)] h 0 0 (fun r h2 => r = some (.int (ruE (tN_ T) (tW T) (tCo T) X k p q)) ∧ ∃ R', h2 = pR h B R' ∧ (TX T b X R0 R' ∧ ra R' 18 = ra R 18)) noT := by
  obtain ⟨o1, o2, o3⟩ := hX.tok
  have hb := hX.b49
  refine CT_ofB (by decide +kernel) (Nat.le_of_ble_eq_true rfl) rfl fun K XX => ?_
  have x1 := hX.sc (c := 16) (f := upd (ra R 16) 0 (lStr X k)) (by omega)
  have t1 : ra (sA R 16 (upd (ra R 16) 0 (lStr X k))) 16 = upd (ra R 16) 0 (lStr X k) := ra_sA
  have c1 : ra (sA R 16 (upd (ra R 16) 0 (lStr X k))) 4 = ra R 4 := ra_sAn (by decide)
  have p1 : ra (sA R 16 (upd (ra R 16) 0 (lStr X k))) 18 = ra R 18 := ra_sAn (by decide)
  have r1 := hR.put (sA R 16 (upd (ra R 16) 0 (lStr X k)))
  refine b_X12_asks_0 hg (by omega) k00 XX _ _ _ _ _ ⟨_, hR.n43, _, hR.n40, ?_⟩
  rw [show (13 : Int32) = nI 13 from rfl, show (25 : Int32) = nI 25 from rfl, show nI b + (1 : Int32) + nI k = nI (b + 1 + k) from ix3 b 1 k, ix3, ix3, show nI b + (0 : Int32) = nI b from Int32.add_zero _]
  refine ⟨_, hR.r14 (by omega), _, hR.u16 (k := 0) (by omega), ?_⟩
  rw [hX.rw_.st hk]
  generalize sA R 16 (upd (ra R 16) 0 (lStr X k)) = R1 at *
  refine ⟨_, r1.n43, _, r1.n40, _, r1.r14 (by omega), _, r1.u16 (k := 1) (by omega), ?_⟩
  rw [hR.pp, x1.rw_.sm hk]
  have x2 := x1.sc (c := 16) (f := upd (ra R1 16) 1 (lSm X k)) (by omega)
  have t2 : ra (sA R1 16 (upd (ra R1 16) 1 (lSm X k))) 16 = upd (ra R1 16) 1 (lSm X k) := ra_sA
  have c2 : ra (sA R1 16 (upd (ra R1 16) 1 (lSm X k))) 4 = ra R1 4 := ra_sAn (by decide)
  have p2 : ra (sA R1 16 (upd (ra R1 16) 1 (lSm X k))) 18 = ra R1 18 := ra_sAn (by decide)
  have r2 := hR.put (sA R1 16 (upd (ra R1 16) 1 (lSm X k)))
  generalize sA R1 16 (upd (ra R1 16) 1 (lSm X k)) = R2 at *
  refine ⟨_, r2.n43, _, r2.n40, _, r2.r14 (by omega), _, r2.u16 (k := 2) (by omega), ?_⟩
  rw [hR.pp, x2.rw_.ti hk]
  have x3 := x2.sc (c := 16) (f := upd (ra R2 16) 2 (lSt X k)) (by omega)
  have t3 : ra (sA R2 16 (upd (ra R2 16) 2 (lSt X k))) 16 = upd (ra R2 16) 2 (lSt X k) := ra_sA
  have c3 : ra (sA R2 16 (upd (ra R2 16) 2 (lSt X k))) 4 = ra R2 4 := ra_sAn (by decide)
  have p3 : ra (sA R2 16 (upd (ra R2 16) 2 (lSt X k))) 18 = ra R2 18 := ra_sAn (by decide)
  have r3 := hR.put (sA R2 16 (upd (ra R2 16) 2 (lSt X k)))
  generalize sA R2 16 (upd (ra R2 16) 2 (lSt X k)) = R3 at *
  refine ⟨_, r3.n43, _, r3.o, use_i (d_besideOf (d := d - 1) hg (by omega) r3 x3 hk) (by omega) k00 ⟨_, r3.u16 (k := 3) (by omega), ?_⟩⟩
  rw [hR.pp]
  have x4 := x3.sc (c := 16) (f := upd (ra R3 16) 3 (besE (tN_ T) X k)) (by omega)
  have t4 : ra (sA R3 16 (upd (ra R3 16) 3 (besE (tN_ T) X k))) 16 = upd (ra R3 16) 3 (besE (tN_ T) X k) := ra_sA
  have c4 : ra (sA R3 16 (upd (ra R3 16) 3 (besE (tN_ T) X k))) 4 = ra R3 4 := ra_sAn (by decide)
  have p4 : ra (sA R3 16 (upd (ra R3 16) 3 (besE (tN_ T) X k))) 18 = ra R3 18 := ra_sAn (by decide)
  have r4 := hR.put (sA R3 16 (upd (ra R3 16) 3 (besE (tN_ T) X k)))
  generalize sA R3 16 (upd (ra R3 16) 3 (besE (tN_ T) X k)) = R4 at *
  refine ⟨_, r4.n43, _, r4.o, use_i (d_womenAt (d := d - 1) hg (by omega) r4 x4 (nI k)) (by omega) k00 (use_i (d_bits (d := d - 1) hg (by omega) _) (by omega) k00 ⟨_, r4.u16 (k := 4) (by omega), ?_⟩)⟩
  rw [hR.pp, bits_bc (by omega)]
  have x5 := x4.sc (c := 16) (f := upd (ra R4 16) 4 (bcE (bitsF (fun w => lAt X w == nI k) (tW T)))) (by omega)
  have t5 : ra (sA R4 16 (upd (ra R4 16) 4 (bcE (bitsF (fun w => lAt X w == nI k) (tW T))))) 16 = upd (ra R4 16) 4 (bcE (bitsF (fun w => lAt X w == nI k) (tW T))) := ra_sA
  have c5 : ra (sA R4 16 (upd (ra R4 16) 4 (bcE (bitsF (fun w => lAt X w == nI k) (tW T))))) 4 = ra R4 4 := ra_sAn (by decide)
  have p5 : ra (sA R4 16 (upd (ra R4 16) 4 (bcE (bitsF (fun w => lAt X w == nI k) (tW T))))) 18 = ra R4 18 := ra_sAn (by decide)
  have r5 := hR.put (sA R4 16 (upd (ra R4 16) 4 (bcE (bitsF (fun w => lAt X w == nI k) (tW T)))))
  generalize sA R4 16 (upd (ra R4 16) 4 (bcE (bitsF (fun w => lAt X w == nI k) (tW T)))) = R5 at *
  refine ⟨_, r5.n43, _, r5.n40, _, r5.r14 (by omega), _, r5.u16 (k := 5) (by omega), ?_⟩
  rw [hR.pp, x5.rw_.day]
  have x6 := x5.sc (c := 16) (f := upd (ra R5 16) 5 (lDay X)) (by omega)
  have t6 : ra (sA R5 16 (upd (ra R5 16) 5 (lDay X))) 16 = upd (ra R5 16) 5 (lDay X) := ra_sA
  have c6 : ra (sA R5 16 (upd (ra R5 16) 5 (lDay X))) 4 = ra R5 4 := ra_sAn (by decide)
  have p6 : ra (sA R5 16 (upd (ra R5 16) 5 (lDay X))) 18 = ra R5 18 := ra_sAn (by decide)
  have r6 := hR.put (sA R5 16 (upd (ra R5 16) 5 (lDay X)))
  generalize sA R5 16 (upd (ra R5 16) 5 (lDay X)) = R6 at *
  have ec : ra R6 4 = ra R 4 := by rw [c6, c5, c4, c3, c2, c1]
  have ep : ra R6 18 = ra R 18 := by rw [p6, p5, p4, p3, p2, p1]
  refine ⟨_, r6.o, use_iR (d_reckons (co := tCo T) (val := valE (tN_ T) (tW T) X k) (n := q - p) (p := p) (d := d - 1) hg (by omega) r6 (by rw [ec]; exact hC) hW ?_) (by omega) k00 ?_⟩
  · intro j hj
    rw [t6, t5, t4, t3, t2, t1]
    rcases (show j = 0 ∨ j = 1 ∨ j = 2 ∨ j = 3 ∨ j = 4 ∨ j = 5 by omega) with rfl | rfl | rfl | rfl | rfl | rfl
    · simp [upd]; rfl
    · simp [upd]; rfl
    · simp [upd]; rfl
    · simp [upd]; rfl
    · simp [upd]; rfl
    · simp [upd]; rfl
  · rintro R7 ⟨e1, e2, e3⟩
    exact ⟨rfl, R7, by rw [hR.pp], x6.mv e1 e2, by rw [e3, ep]⟩
theorem d_pullsOf (hg : GOK g) (hd : 12 ≤ d) (hR : RA h B R) (hX : TX T b X R0 R) (hk : k < tN_ T) : CT g d yX12_pullsOf (wsC yX12_pullsOf cX12_pullsOf 3 (some .int)) [.ref B, .int (nI b), .int (nI k)] h 0 0 (fun r h2 => r = some (.int (if lSm X k = 0 then 0 else pulE T (tP0 T) (tP1 T) X k)) ∧ ∃ R', h2 = pR h B R' ∧ (TX T b X R0 R' ∧ ra R' 18 = ra R 18)) noT := by
  obtain ⟨o1, o2, o3⟩ := hX.tok
  have hb := hX.b49
  refine CT_ofB (by decide +kernel) (Nat.le_of_ble_eq_true rfl) rfl fun K XX => ?_
  have fin : ∀ (v : Int32) (R1 : RefV), ¬ lSm X k = 0 → wth v (-9) 9 = pulE T (tP0 T) (tP1 T) X k → TX T b X R0 R1 ∧ ra R1 18 = ra R 18 → VB g K 3 d 0 0 (fun r h2 => r = some (.int (if lSm X k = 0 then 0 else pulE T (tP0 T) (tP1 T) X k)) ∧ ∃ R', h2 = pR h B R' ∧ (TX T b X R0 R' ∧ ra R' 18 = ra R 18)) noT 0 0 54 [none, none, none] [.int v] (pR h B R1) := by
    intro v R1 q e x1
    refine b_X12_pullsOf_54 hg (by omega) k00 XX _ _ (use_i (d_bounded (d := d - 1) hg (by omega) _ _ _) (by omega) k00 ⟨?_, R1, rfl, x1⟩)
    rw [if_neg q, bnd_wth (by decide), e]
  refine b_X12_pullsOf_0 hg (by omega) k00 XX _ _ _ _ ⟨_, hR.o, use_i (d_isGap (d := d - 1) hg (by omega) hR hX hk) (by omega) k00 ⟨fun z => ?_, fun z => ?_⟩⟩
  · have z' := gp_n rfl z
    rcases hX.tr.2.2.2.2.2 with ⟨e1, e2⟩ | ⟨e1, a, p, q, e2, e3, e4, e5, e6⟩
    · refine ⟨_, hR.i6, fun y => absurd e2 y, fun _ => ⟨_, hR.o, use_i (d_besideOf (d := d - 1) hg (by omega) hR hX hk) (by omega) k00 ⟨_, hR.n40, ?_⟩⟩⟩
      rw [show nI b + (1 : Int32) + nI k = nI (b + 1 + k) from ix3 b 1 k]
      refine ⟨_, hR.r14 (by omega), ?_⟩
      have := fin ((besE (tN_ T) X k - 2 * lStr X k) / 9) R z' (by rw [pulE, if_pos e1]) ⟨hX, rfl⟩
      rw [hR.id] at this
      rw [hX.rw_.st hk]
      exact this
    · refine ⟨_, hR.i6, fun y => ⟨_, hR.i6, _, hR.o, ?_⟩, fun y => ?_⟩
      · rw [e2]
        refine use_iR (d_asks (d := d - 1) hg (by omega) hR hX hk e5 e6) (by omega) k00 ?_
        intro R1 x1
        refine fin _ R1 z' ?_ x1
        rw [pulE, if_neg (by rw [e1]; decide)]
        have p0 : tP0 T = p := by rw [tP0, e4.1]; exact nI_clamp (by have := e4.2.2.1; have := e4.2.2.2; omega)
        have p1 : tP1 T = q := by rw [tP1, e4.2.1]; exact nI_clamp (by have := e4.2.2.2; omega)
        rw [p0, p1]
      · rw [e2] at y; exact absurd y (by
          intro z
          have := congrArg Int32.toInt z
          rw [nI_toInt (by omega)] at this
          have e : (-1 : Int32).toInt = -1 := rfl
          omega)
  · have z' := gp_y rfl z
    exact ⟨by rw [if_pos z'], R, hR.id.symm, hX, rfl⟩
theorem d_fraysOf (hg : GOK g) (hd : 12 ≤ d) (hR : RA h B R) (hX : TX T b X R0 R) (hL : LOK (tN_ T) (tW T) X) (hk : k < tN_ T) : CT g d yX12_fraysOf (wsC yX12_fraysOf cX12_fraysOf 3 (some .int)) [.ref B, .int (nI b), .int (nI k)] h 0 0 (fun r h2 => r = some (.int (if lSm X k = 0 then 0 else fraE T (tF0 T) (tF1 T) X k)) ∧ ∃ R', h2 = pR h B R' ∧ TX T b X R0 R') noT := by
  obtain ⟨o1, o2, o3⟩ := hX.tok
  have hb := hX.b49
  refine CT_ofB (by decide +kernel) (Nat.le_of_ble_eq_true rfl) rfl fun K XX => ?_
  have fin : ∀ (v : Int32) (R1 : RefV), ¬ lSm X k = 0 → wth v 0 20 = fraE T (tF0 T) (tF1 T) X k → TX T b X R0 R1 → VB g K 3 d 0 0 (fun r h2 => r = some (.int (if lSm X k = 0 then 0 else fraE T (tF0 T) (tF1 T) X k)) ∧ ∃ R', h2 = pR h B R' ∧ TX T b X R0 R') noT 0 0 59 [none, none, none] [.int v] (pR h B R1) := by
    intro v R1 q e x1
    refine b_X12_fraysOf_59 hg (by omega) k00 XX _ _ (use_i (d_bounded (d := d - 1) hg (by omega) _ _ _) (by omega) k00 ⟨?_, R1, rfl, x1⟩)
    rw [if_neg q, bnd_wth (by decide), e]
  refine b_X12_fraysOf_0 hg (by omega) k00 XX _ _ _ _ ⟨_, hR.o, use_i (d_isGap (d := d - 1) hg (by omega) hR hX hk) (by omega) k00 ⟨fun z => ?_, fun z => ?_⟩⟩
  · have z' := gp_n rfl z
    rcases hX.tr.2.2.2.2.1 with ⟨e1, e2⟩ | ⟨e1, a, p, q, e2, e3, e4, e5, e6⟩
    · refine ⟨_, hR.i5, fun y => absurd e2 y, fun _ => ⟨_, hR.n40, ?_⟩⟩
      rw [show nI b + (1 : Int32) + nI k = nI (b + 1 + k) from ix3 b 1 k, show (25 : Int32) = nI 25 from rfl, ix3]
      refine ⟨_, hR.r14 (by omega), _, hR.n40, _, hR.r14 (by omega), ?_⟩
      rw [hX.rw_.st hk, hX.rw_.ti hk]
      obtain ⟨c, c1, c2⟩ := (hL.1 k hk).2.2
      have eu : lStr X k / 9 / (lSt X k + 1) = fraU X k := by
        unfold fraU
        rw [c2]
        rcases (show c = 0 ∨ c = 1 ∨ c = 2 by omega) with rfl | rfl | rfl
        · rw [if_neg (by decide), if_neg (by decide), show nI 0 + 1 = 1 from by decide, Int32.div_one]
        · rw [if_pos (by decide), show nI 1 + 1 = 2 from by decide]
        · rw [if_neg (by decide), if_pos (by decide), show nI 2 + 1 = 3 from by decide]
      refine ⟨?_, ?_⟩
      · rw [c2, nI_s]; exact nI_ne0 (by omega) (by omega)
      · have := fin (fraU X k) R z' (by rw [fraE, if_pos e1]) hX
        rw [hR.id] at this
        rw [eu]
        exact this
    · refine ⟨_, hR.i5, fun y => ⟨_, hR.i5, _, hR.o, ?_⟩, fun y => ?_⟩
      · rw [e2]
        refine use_iR (d_asks (d := d - 1) hg (by omega) hR hX hk e5 e6) (by omega) k00 ?_
        intro R1 x1
        refine fin _ R1 z' ?_ x1.1
        rw [fraE, if_neg (by rw [e1]; decide)]
        have p0 : tF0 T = p := by rw [tF0, e4.1]; exact nI_clamp (by have := e4.2.2.1; have := e4.2.2.2; omega)
        have p1 : tF1 T = q := by rw [tF1, e4.2.1]; exact nI_clamp (by have := e4.2.2.2; omega)
        rw [p0, p1]
      · rw [e2] at y; exact absurd y (by
          intro z
          have := congrArg Int32.toInt z
          rw [nI_toInt (by omega)] at this
          have e : (-1 : Int32).toInt = -1 := rfl
          omega)
  · have z' := gp_y rfl z
    exact ⟨by rw [if_pos z'], R, hR.id.symm, hX⟩
end RT
