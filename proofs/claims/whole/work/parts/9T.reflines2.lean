/-! THE REFERENCE: women, knots -/
section RLW
variable {g : GG} {h : Hp} {B d len st : Nat} {R R0 : RefV} {f : AF} {T : ToldV} {L : LandV} {xF xP : RuX} {out : List Int32}
theorem nb_9999 (h1 : kdE f len st = 2) (h2 : nxF f len st - st ≤ 4) : nbP f len 0 9999 st = 0 := by
  obtain ⟨b, b1, b2⟩ := nmb_r h1
  have b2' : vaP f len st = nI b := b2
  rw [nbP, if_pos h1, if_neg]
  rintro (e | e | e)
  · omega
  · rw [b2'] at e; exact absurd e (nI_pos (by omega))
  · rw [b2'] at e; exact e (nI_le (b := 9999) b1 (by decide))
theorem d_readsWoman (hg : GOK g) (hd : 14 ≤ d) (hR : RA h B R0) (hW : tW T < 6) (q : DR f len R0 st T L xF xP out R) : CT g d yX12_readsWoman (wsC yX12_readsWoman cX12_readsWoman 2 none) [.ref B] (pR h B R) 0 0 (LnR f len R0 (rsW f len st T L) h B) noT := by
  obtain ⟨di, dg, db, ol⟩ := q
  refine CT_ofB (by decide +kernel) (Nat.le_of_ble_eq_true rfl) rfl fun K XX => ?_
  have r1 := hR.put R
  have e25 : ri R 25 = nI (tW T) := db.1.2.1
  have n12 : tN_ T ≤ 12 := di.1.1
  have bad74 : ∀ (p : LR) (e : Int32 × Nat) (R2 : RefV), FtL R0 e R2 → p = .inr e → VB g K 2 d 0 0 (LnR f len R0 p h B) noT 0 0 74 [some (.ref B), some (.int (nI (tW T)))] [] (pR h B R2) := by
    intro p e R2 fl hp
    have r2 := hR.put R2
    exact b_X12_readsWoman_74 hg (by omega) k00 XX _ _ _ ⟨_, r2.o, u_good hg r2 (by omega) k00 (fun z => absurd z fl.b) (fun _ => ⟨fun z => absurd rfl z, fun _ => ⟨rfl, _, rfl, by rw [hp]; exact fl⟩⟩)⟩
  unfold rsW
  refine b_X12_readsWoman_0 hg (by omega) k00 XX _ _ ⟨_, by rw [r1.i25, e25], _, r1.n33, _, r1.o, u_num hg hR dg 0 9 (by omega) k00 (fun y1 R2 gf2 dg2 => ?_) (fun y1 x R2 fl2 xf2 => ?_)⟩
  · rw [nbK, if_pos y1]
    have r2 := hR.put R2
    refine ⟨_, r2.u7 (by omega), ?_⟩
    rw [hR.pp]
    have dg3 := dg2.a (c := 7) (g := upd (ra R2 7) (tW T) (vaP f len st)) (by omega) (by omega)
    have i3 : ∀ k, (k < 17 ∨ 22 < k) → ri (sA R2 7 (upd (ra R2 7) (tW T) (vaP f len st))) k = ri R k := fun k hk => gf2.1 k hk
    have a3 : ∀ c, c ≠ 7 → ra (sA R2 7 (upd (ra R2 7) (tW T) (vaP f len st))) c = ra R c := fun c hc => by rw [ra_sAn hc, gf2.2]
    have a37 : ra (sA R2 7 (upd (ra R2 7) (tW T) (vaP f len st))) 7 = upd (ra R 7) (tW T) (vaP f len st) := by rw [ra_sA, gf2.2]
    generalize sA R2 7 (upd (ra R2 7) (tW T) (vaP f len st)) = R3 at *
    have r3 := hR.put R3
    have tk3 := dg3.tk
    have l7 := dg3.tp.1
    have hn := nxF_le (f := f) tk3.1
    refine ⟨_, r3.o, u_good hg r3 (by omega) k00 (fun _ => ⟨fun _ => ⟨_, by rw [r3.i18, tk3.2.2.1], fun y2 => ⟨_, by rw [r3.i20, tk3.2.2.2.2.1], fun y3 => ?_, fun y3 => ⟨_, r3.o, use_v (d_wrong (d := d - 1) hg (by omega) r3 dg3.gd 2) (by omega) k00 ?_⟩⟩, fun y2 => ⟨_, r3.o, use_v (d_wrong (d := d - 1) hg (by omega) r3 dg3.gd 1) (by omega) k00 ?_⟩⟩, fun z => absurd z (by decide)⟩) (fun z => absurd dg3.gd z)⟩
    · rw [srt (by decide)] at y2
      have y3' := le_nI (y := 4) (by omega) (by omega) y3
      have nb0 := nb_9999 y2 y3'
      have e21 : ri R3 21 = vaP f len (adv f len st) := tk3.2.2.2.2.2.1 y2
      have e24 : ri R3 24 = nI (tN_ T) := by rw [i3 24 (by omega)]; exact db.1.1
      rw [nbK, if_pos nb0]
      refine ⟨_, by rw [r3.i21, e21], _, by rw [r3.i24, e24], fun y4 => ?_, fun y4 => ⟨_, r3.o, use_v (d_wrong (d := d - 1) hg (by omega) r3 dg3.gd 3) (by omega) k00 ?_⟩⟩
      · have y4' : vaP f len (ad1 f len st) < nI (tN_ T) := y4
        rw [if_pos y4']
        refine b_X12_readsWoman_74 hg (by omega) k00 XX _ _ _ ⟨_, r3.o, u_good hg r3 (by omega) k00 (fun _ => ⟨fun _ => ⟨_, r3.n36, _, by rw [r3.i21, e21], ?_⟩, fun z => absurd z (by decide)⟩) (fun z => absurd dg3.gd z)⟩
        rw [l37_nI]
        refine ⟨_, r3.u10 (by omega), ?_⟩
        rw [hR.pp]
        have dg4 := dg3.a (c := 10) (g := upd (ra R3 10) (37 + tW T) (vaP f len (adv f len st))) (by omega) (by omega)
        have r4 := hR.put (sA R3 10 (upd (ra R3 10) (37 + tW T) (vaP f len (adv f len st))))
        refine ⟨_, r4.o, use_vR (d_go (d := d - 1) hg (by omega) r4 dg4.tp dg4.tk) (by omega) k00 ?_⟩
        rintro R5 ⟨gf5, tk5⟩
        rw [hR.pp]
        have dg5 := dg4.go gf5 tk5
        have i5 : ∀ k, (k < 17 ∨ 22 < k) → ri R5 k = ri R k := fun k hk => by rw [gf5.1 k hk]; exact i3 k hk
        have a5 : ∀ c, c ≠ 7 → c ≠ 10 → ra R5 c = ra R c := fun c c1 c2 => by rw [gf5.2, ra_sAn c2, a3 c c1]
        have a57 : ra R5 7 = upd (ra R 7) (tW T) (vaP f len st) := by rw [gf5.2, ra_sAn (by decide), a37]
        have a5x : ra R5 10 = upd (ra R 10) (37 + tW T) (vaP f len (adv f len st)) := by rw [gf5.2, ra_sA, a3 10 (by decide)]
        clear gf5 tk5
        have r5 := hR.put R5
        refine ⟨_, r5.n36, _, r5.o, u_num hg hR dg5 0 99 (by omega) k00 (fun y6 R6 gf6 dg6 => ?_) (fun y6 x R6 fl6 xf6 => ?_)⟩
        · rw [nbK, if_pos y6, l43_nI]
          have r6 := hR.put R6
          refine ⟨_, r6.u10 (by omega), ?_⟩
          rw [hR.pp]
          have dg7 := dg6.a (c := 10) (g := upd (ra R6 10) (43 + tW T) (vaP f len (ad2 f len st))) (by omega) (by omega)
          have i7 : ∀ k, (k < 17 ∨ 22 < k) → ri (sA R6 10 (upd (ra R6 10) (43 + tW T) (vaP f len (ad2 f len st)))) k = ri R k := fun k hk => by
            show ri R6 k = _
            rw [gf6.1 k hk, i5 k hk]
          have a7 : ∀ c, c ≠ 7 → c ≠ 10 → ra (sA R6 10 (upd (ra R6 10) (43 + tW T) (vaP f len (ad2 f len st)))) c = ra R c := fun c c1 c2 => by rw [ra_sAn c2, gf6.2, a5 c c1 c2]
          have a77 : ra (sA R6 10 (upd (ra R6 10) (43 + tW T) (vaP f len (ad2 f len st)))) 7 = upd (ra R 7) (tW T) (vaP f len st) := by rw [ra_sAn (by decide), gf6.2, a57]
          have a7x : ra (sA R6 10 (upd (ra R6 10) (43 + tW T) (vaP f len (ad2 f len st)))) 10 = upd (upd (ra R 10) (37 + tW T) (vaP f len (adv f len st))) (43 + tW T) (vaP f len (ad2 f len st)) := by rw [ra_sA, gf6.2, a5x]
          generalize sA R6 10 (upd (ra R6 10) (43 + tW T) (vaP f len (ad2 f len st))) = R7 at *
          have r7 := hR.put R7
          refine ⟨_, r7.o, u_good hg r7 (by omega) k00 (fun _ => ⟨fun z => absurd z (by decide), fun _ => ⟨_, by rw [r7.i25, i7 25 (by omega), e25], ?_⟩⟩) (fun z => absurd dg7.gd z)⟩
          rw [nI_s]
          refine ⟨_, r7.w25 _, rfl, _, hR.pp _ _, xF, xP, out, ?_, dg7.i (by omega) (by omega), ?_, ?_⟩
          · refine (di.go (ad3_ge (f := f) dg.tk.1).1 (ad3_ge (f := f) dg.tk.1).2).woman hW ?_ ?_ ?_
            · obtain ⟨c, c1, c2, c3⟩ := nb_v (a := 0) (b := 9) y1 rfl rfl (by omega) (by omega); exact ⟨c, c2, c3⟩
            · obtain ⟨c, c1, c2, c3⟩ := nb_v (a := 0) (b := 9999) nb0 rfl rfl (by omega) (by omega)
              have c3' : vaP f len (ad1 f len st) = nI c := c3
              rw [c3'] at y4'
              exact ⟨c, lt_nI (by omega) (by omega) y4', c3⟩
            · obtain ⟨c, c1, c2, c3⟩ := nb_v (a := 0) (b := 99) y6 rfl rfl (by omega) (by omega); exact ⟨c, c2, c3⟩
          · obtain ⟨⟨b1, b2, b3, b4⟩, b5, ⟨b6, b7⟩, b8, b9, n0, n1, n2, n3⟩ := db
            refine ⟨⟨?_, ri_sI, ?_, ?_⟩, ?_, ⟨?_, ?_⟩, fun w hw => ?_, fun k hk => ?_, ?_⟩
            · rw [ri_sIn (by decide), i7 24 (by omega)]; exact b1
            · rw [ri_sIn (by decide), i7 26 (by omega)]; exact b3
            · rw [ri_sIn (by decide), i7 27 (by omega)]; exact b4
            · rw [ri_sIn (by decide), ri_sIn (by decide), i7 28 (by omega), i7 29 (by omega)]; exact b5
            · rw [ri_sIn (by decide), i7 30 (by omega)]; exact b6
            · show Stk (ra R7 11) out; rw [a7 11 (by decide) (by decide)]; exact b7
            · show ra R7 7 w = upd (tSk T) (tW T) (vaP f len st) w
              have hw' : w < tW T + 1 := hw
              rw [a77]
              by_cases e : w = tW T
              · rw [e, pk_us, pk_us]
              · rw [pk_un e, pk_un e]; exact b8 w (by omega)
            · show ra R7 8 k = _ ∧ ra R7 9 k = _
              rw [a7 8 (by decide) (by decide), a7 9 (by decide) (by decide)]; exact b9 k hk
            · show NwR (tN_ T) (tW T + 1) _ (ra R7 10)
              rw [a7x]
              have un : ∀ j, j ≠ 37 + tW T → j ≠ 43 + tW T → upd (upd (ra R 10) (37 + tW T) (vaP f len (adv f len st))) (43 + tW T) (vaP f len (ad2 f len st)) j = ra R 10 j := fun j j1 j2 => by rw [pk_un j2, pk_un j1]
              refine ⟨by rw [un 0 (by omega) (by omega)]; exact n0, fun s hs => ?_, fun s s1 s2 => ?_, fun w hw => ?_⟩
              · rw [un (1 + s) (by omega) (by omega), un (13 + s) (by omega) (by omega), un (25 + s) (by omega) (by omega)]; exact n1 s hs
              · rw [un (1 + s) (by omega) (by omega), un (25 + s) (by omega) (by omega)]; exact n2 s s1 s2
              · show _ = upd (lAt L) (tW T) (vaP f len (ad1 f len st)) w ∧ _ = upd (lTh L) (tW T) (vaP f len (ad2 f len st)) w
                by_cases e : w = tW T
                · rw [e, pk_us, pk_us, pk_un (show 37 + tW T ≠ 43 + tW T by omega), pk_us, pk_us]
                  exact ⟨rfl, rfl⟩
                · rw [pk_un e, pk_un e, un (37 + w) (by omega) (by omega), un (43 + w) (by omega) (by omega)]
                  exact n3 w (by omega)
          · have g1 := (ad3_ge (f := f) dg.tk.1).1
            show out.length ≤ 2 * ad3 f len st
            omega
        · rw [nbK, if_neg y6, l43_nI]
          have r6 := hR.put R6
          refine ⟨_, r6.u10 (by omega), ?_⟩
          rw [hR.pp]
          have fl7 := fl6.a (c := 10) (g := upd (ra R6 10) (43 + tW T) x) (by omega) (by omega)
          generalize sA R6 10 (upd (ra R6 10) (43 + tW T) x) = R7 at *
          have r7 := hR.put R7
          exact ⟨_, r7.o, u_good hg r7 (by omega) k00 (fun z => absurd z fl7.b) (fun _ => ⟨fun _ => ⟨rfl, _, rfl, fl7⟩, fun z => absurd rfl z⟩)⟩
      · have y4' : ¬ vaP f len (ad1 f len st) < nI (tN_ T) := y4
        rw [if_neg y4']
        intro h4 e4
        rw [e4, hR.pp]
        exact bad74 _ _ _ (dg3.fl (by decide)) rfl
    · rw [srt (by decide)] at y2
      have y3' := nle_nI (y := 4) (by omega) (by omega) y3
      have nb2 : nbP f len 0 9999 (ad1 f len st) = 2 := by
        show nbP f len 0 9999 (adv f len st) = 2
        rw [nbP, if_pos y2, if_pos (Or.inl y3')]
      rw [nbK, nb2, if_neg (by decide)]
      intro h4 e4
      rw [e4, hR.pp]
      exact bad74 _ _ _ (dg3.fl (by decide)) rfl
    · rw [srt (by decide)] at y2
      have nb1 : nbP f len 0 9999 (ad1 f len st) = 1 := by
        show nbP f len 0 9999 (adv f len st) = 1
        rw [nbP, if_neg y2]
      rw [nbK, nb1, if_neg (by decide)]
      intro h4 e4
      rw [e4, hR.pp]
      exact bad74 _ _ _ (dg3.fl (by decide)) rfl
  · rw [nbK, if_neg y1]
    have r2 := hR.put R2
    refine ⟨_, r2.u7 (by omega), ?_⟩
    rw [hR.pp]
    have fl3 := fl2.a (c := 7) (g := upd (ra R2 7) (tW T) x) (by omega) (by omega)
    generalize sA R2 7 (upd (ra R2 7) (tW T) x) = R3 at *
    have r3 := hR.put R3
    exact ⟨_, r3.o, u_good hg r3 (by omega) k00 (fun z => absurd z fl3.b) (fun _ => ⟨fun z => absurd rfl z, fun _ => ⟨rfl, _, rfl, fl3⟩⟩)⟩
def knQ (f : AF) (len : Nat) : Nat → Nat → Nat → ToldV → LandV → LR
  | 0, st, _, T, L => .inl (st, T, L)
  | j + 1, st, m, T, L => if kdE f len st = 2 then (if 4 < nxF f len st - st ∨ ¬ m < 8 then .inr (2, st) else if hasB (tK T) m (vaP f len st) (nI (nxF f len st - st)) then .inr (4, st) else knQ f len j (adv f len st) (m + 1) (zK T (nI (m + 1), upd (tK T).2.1 m (vaP f len st), upd (tK T).2.2.1 m (nI (nxF f len st - st)), (tK T).2.2.2)) L) else .inl (st, T, L)
theorem knP_sm : ∀ (j st m : Nat) (T : ToldV) (L : LandV), knP f len j st m T L = smB f len (knQ f len j st m T L) := by
  intro j
  induction j with
  | zero => intro st m T L; rfl
  | succ j ih =>
    intro st m T L
    unfold knP knQ
    split
    · split
      · rfl
      · split
        · rfl
        · exact ih _ _ _ _
    · rfl
def rsK (f : AF) (len a m : Nat) (T : ToldV) (L : LandV) : LR := if kdE f len a = 2 then knQ f len 9 a m (zKg T 1) L else .inr (1, a)
theorem lnK_sm {m : Nat} : lnK f len st m T L = if tKg T = 0 then smB f len (rsK f len (adv f len st) m T L) else .inr (5, st) := by
  unfold lnK rsK
  split
  · split
    · exact knP_sm _ _ _ _ _
    · rfl
  · rfl
theorem d_isKnot (hg : GOK g) (hd : 9 ≤ d) (hR : RA h B R) {m : Nat} (hm : m ≤ 8) (e26 : ri R 26 = nI m) {K' : KnV} (hk : ∀ k, k < m → ra R 8 k = K'.2.1 k ∧ ra R 9 k = K'.2.2.1 k) {v l : Int32} (e21 : ri R 21 = v) (e20 : ri R 20 = l) : CT g d yX12_isKnot (wsC yX12_isKnot cX12_isKnot 2 (some .boolean)) [.ref B] h 0 0 (fun r h2 => r = some (.int (if hasB K' m v l then 1 else 0)) ∧ h2 = h) noT := by
  refine CT_ofB (by decide +kernel) (Nat.le_of_ble_eq_true rfl) rfl fun K XX => ?_
  have loop : ∀ (j i : Nat), i + j = m → (∀ k, k < i → ¬ (K'.2.1 k = v ∧ K'.2.2.1 k = l)) → VB g K 2 d 0 0 (fun r h2 => r = some (.int (if hasB K' m v l then 1 else 0)) ∧ h2 = h) noT 0 0 2 [some (.ref B), some (.int (nI i))] [] h := by
    intro j
    induction j with
    | zero =>
      intro i hi hp
      refine b_X12_isKnot_2 hg (by omega) k00 XX _ _ _ ⟨_, by rw [hR.i26, e26], fun _ => ⟨Or.inl rfl, ?_, rfl⟩, fun y => absurd (nle_nI (by omega) (by omega) y) (by omega)⟩
      rw [hasB_no (fun k hk => hp k (by omega))]; rfl
    | succ j ih =>
      intro i hi hp
      obtain ⟨k8, k9⟩ := hk i (by omega)
      have nx : ¬ (K'.2.1 i = v ∧ K'.2.2.1 i = l) → VB g K 2 d 0 0 (fun r h2 => r = some (.int (if hasB K' m v l then 1 else 0)) ∧ h2 = h) noT 0 0 38 [some (.ref B), some (.int (nI i))] [] h := by
        intro hn
        refine b_X12_isKnot_38 hg (by omega) k00 XX _ _ _ ?_
        rw [nI_s]
        refine ih (i + 1) (by omega) (fun k hk2 => ?_)
        by_cases e : k = i
        · rw [e]; exact hn
        · exact hp k (by omega)
      refine b_X12_isKnot_2 hg (by omega) k00 XX _ _ _ ⟨_, by rw [hR.i26, e26], fun y => absurd (le_nI (by omega) (by omega) y) (by omega), fun _ => ⟨_, hR.n34, _, hR.r8 (by omega), _, by rw [hR.i21, e21], fun y => nx (fun e => y (by rw [k8]; exact e.1)), fun y => ⟨_, hR.n35, _, hR.r9 (by omega), _, by rw [hR.i20, e20], fun y2 => nx (fun e => y2 (by rw [k9]; exact e.2)), fun y2 => ⟨Or.inr rfl, ?_, rfl⟩⟩⟩⟩
      rw [hasB_yes (k := i) (by omega) (by rw [← k8]; exact y) (by rw [← k9]; exact y2)]; rfl
  exact b_X12_isKnot_0 hg (by omega) k00 XX _ _ (loop m 0 (by omega) (fun k hk => absurd hk (by omega)))
end RLW
