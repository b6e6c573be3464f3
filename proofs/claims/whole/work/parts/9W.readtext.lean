/-! THE CLASS: the text -/
def txP (f : AF) (len : Nat) : Nat → Nat → ToldV → LandV → LR
  | 0, st, T, L => .inl (st, T, L)
  | k + 1, st, T, L => if kdE f len st = 0 then .inl (st, T, L) else match lnA f len st (mOf T) (nOf T) T L with
    | .inr e => .inr e
    | .inl z => txP f len k z.1 z.2.1 z.2.2
def DIX (len st : Nat) (p : LR) : Prop := match p with
  | .inl z => (∃ xF xP, DI len z.1 z.2.1 z.2.2 xF xP) ∧ st ≤ z.1
  | .inr _ => True
section TXT
variable {f : AF} {len st a : Nat} {T : ToldV} {L : LandV} {xF xP : RuX}
theorem DIX.sm {p : LR} (q : DIX len st p) : DIX len st (smB f len p) := by
  cases p with
  | inr e => trivial
  | inl z =>
    obtain ⟨⟨xF, xP, di⟩, h⟩ := q
    show DIX len st (smK f len z.1 z.2.1 z.2.2)
    unfold smK
    split
    · have h1 := adv_ge (f := f) di.1.2.2.2.2.2.2.1
      exact ⟨⟨xF, xP, di.go h1 (adv_le di.1.2.2.2.2.2.2.1)⟩, by show st ≤ adv f len z.1; omega⟩
    · trivial
theorem DIX.nb {lo hi : Int32} {k : LR} (q : nbP f len lo hi a = 0 → DIX len st k) : DIX len st (nbK f len lo hi a k) := by
  unfold nbK
  split
  · rename_i e; exact q e
  · trivial
theorem DIX.mono {st' : Nat} {p : LR} (q : DIX len st p) (h : st' ≤ st) : DIX len st' p := by
  cases p with
  | inr e => trivial
  | inl z => exact ⟨q.1, Nat.le_trans h q.2⟩
theorem knQ_di : ∀ (j s : Nat) (T0 : ToldV), (j + mOf T0 = 9 ∨ (tKg T0 = 1 ∧ 0 < mOf T0)) → st ≤ s → DI len s T0 L xF xP → (kdE f len s = 2 ∨ tKg T0 = 1) → DIX len st (knQ f len j s (mOf T0) (zKg T0 1) L) := by
  intro j
  induction j with
  | zero =>
    intro s T0 hj hs di hk
    have m8 := di.1.2.2.1
    rcases hj with e | ⟨e, e2⟩
    · omega
    · refine ⟨⟨xF, xP, ?_⟩, hs⟩
      have : zKg T0 1 = T0 := by rw [← e]; rfl
      show DI len s (zKg T0 1) L xF xP
      rw [this]
      exact di
  | succ j ih =>
    intro s T0 hj hs di hk
    unfold knQ
    by_cases y : kdE f len s = 2
    · rw [if_pos y]
      by_cases z : 4 < nxF f len s - s ∨ ¬ mOf T0 < 8
      · rw [if_pos z]; trivial
      · rw [if_neg z]
        by_cases w : hasB (tK (zKg T0 1)) (mOf T0) (vaP f len s) (nI (nxF f len s - s)) = true
        · rw [if_pos w]; trivial
        · rw [if_neg w]
          have w' : hasB (tK T0) (mOf T0) (vaP f len s) (nI (nxF f len s - s)) = false := by
            cases e : hasB (tK T0) (mOf T0) (vaP f len s) (nI (nxF f len s - s)) with
            | true => exact absurd e w
            | false => rfl
          have hsl := di.1.2.2.2.2.2.2.1
          have hst := kdE_lt (f := f) (len := len) (st := s) (by rw [y]; decide)
          have hn := nxF_le (f := f) hsl
          have hge := adv_ge (f := f) hsl
          have z1 : mOf T0 < 8 := Classical.byContradiction fun e => z (Or.inr e)
          have z2 : nxF f len s - s ≤ 4 := Nat.le_of_not_lt fun e => z (Or.inl e)
          have di2 := (di.go hge (adv_le hsl)).knot z1 (x := vaP f len s) (l := nxF f len s - s) (by omega) z2 w'
          have em : mOf (zK (zKg T0 1) (nI (mOf T0 + 1), upd (tK T0).2.1 (mOf T0) (vaP f len s), upd (tK T0).2.2.1 (mOf T0) (nI (nxF f len s - s)), (tK T0).2.2.2)) = mOf T0 + 1 := nI_clamp (by omega)
          have := ih (adv f len s) _ (Or.inr ⟨rfl, by rw [em]; omega⟩) (by omega) di2 (Or.inr rfl)
          rw [em] at this
          exact this
    · rw [if_neg y]
      have e : tKg T0 = 1 := hk.resolve_left y
      refine ⟨⟨xF, xP, ?_⟩, hs⟩
      have : zKg T0 1 = T0 := by rw [← e]; rfl
      show DI len s (zKg T0 1) L xF xP
      rw [this]
      exact di
theorem ln_di (di : DI len st T L xF xP) (hk : ¬ kdE f len st = 0) : DIX len (st + 1) (lnA f len st (mOf T) (nOf T) T L) := by
  have hsl := di.1.2.2.2.2.2.2.1
  have hlt := kdE_lt hk
  have hal := adv_lt (f := f) hlt
  have hale := adv_le (f := f) hsl
  have d1 := di.go (st' := adv f len st) (by omega) hale
  have h3 := ad3_ge (f := f) hale
  unfold lnA
  split
  · rw [lnS_sm]
    split
    · rename_i hN
      refine DIX.mono (DIX.sm (DIX.nb (fun y1 => DIX.nb (fun y2 => DIX.nb (fun y3 => ⟨⟨xF, xP, (d1.go h3.1 h3.2).stretch hN ?_ ?_ ?_⟩, h3.1⟩))))) hal
      · obtain ⟨c, c1, c2, c3⟩ := nb_v (a := 0) (b := 99) y1 rfl rfl (by omega) (by omega); exact ⟨c, c2, c3⟩
      · obtain ⟨c, c1, c2, c3⟩ := nb_v (a := 0) (b := 99) y2 rfl rfl (by omega) (by omega); exact ⟨c, c2, c3⟩
      · obtain ⟨c, c1, c2, c3⟩ := nb_v (a := 0) (b := 2) y3 rfl rfl (by omega) (by omega); exact ⟨c, c2, c3⟩
    · trivial
  · split
    · rw [lnW_sm]
      split
      · rename_i hW
        refine DIX.mono (DIX.sm (DIX.nb (fun y1 => DIX.nb (fun y2 => ?_)))) hal
        split
        · rename_i y4
          refine DIX.nb (fun y3 => ⟨⟨xF, xP, (d1.go h3.1 h3.2).woman hW ?_ ?_ ?_⟩, h3.1⟩)
          · obtain ⟨c, c1, c2, c3⟩ := nb_v (a := 0) (b := 9) y1 rfl rfl (by omega) (by omega); exact ⟨c, c2, c3⟩
          · obtain ⟨c, c1, c2, c3⟩ := nb_v (a := 0) (b := 9999) y2 rfl rfl (by omega) (by omega)
            rw [c3] at y4
            have n12 := di.1.1
            exact ⟨c, lt_nI (by omega) (by omega) y4, c3⟩
          · obtain ⟨c, c1, c2, c3⟩ := nb_v (a := 0) (b := 99) y3 rfl rfl (by omega) (by omega); exact ⟨c, c2, c3⟩
        · trivial
      · trivial
    · split
      · rw [lnK_sm]
        split
        · rename_i hz
          have hm : mOf T = 0 := by
            rcases di.2.2.1 with ⟨_, b⟩ | ⟨b, _⟩
            · exact b
            · rw [hz] at b; exact absurd b (by decide)
          refine DIX.mono (DIX.sm ?_) hal
          unfold rsK
          split
          · rename_i y
            exact knQ_di 9 _ T (Or.inl (by omega)) (Nat.le_refl _) d1 (Or.inl y)
          · trivial
        · trivial
      · split
        · unfold lnD
          split
          · have esm : nbK f len 1 9 (adv f len st) (smK f len (ad2 f len st) (zWk (zWg T 1) (vaP f len (adv f len st))) L) = smB f len (nbK f len 1 9 (adv f len st) (.inl (ad2 f len st, zWk (zWg T 1) (vaP f len (adv f len st)), L))) := by rw [nbK_sm]; rfl
            rw [esm]
            have h2 := adv_ge (f := f) hale
            refine DIX.mono (DIX.sm (DIX.nb (fun y1 => ⟨⟨xF, xP, (d1.go h2 (adv_le hale)).week ?_⟩, h2⟩))) hal
            obtain ⟨c, c1, c2, c3⟩ := nb_v (a := 1) (b := 9) y1 rfl rfl (by omega) (by omega); exact ⟨c, c1, c2, c3⟩
          · trivial
        · have hn := di.1.2.2.2.2.2.1
          have hl2 := pX_len (f := f) 41 0 0 (adv f len st) hale
          have hw := pX_ok (f := f) (len := len) 41 0 0 (adv f len st) 0 (by omega) (by omega) (by omega)
          split
          · unfold lnF
            split
            · rename_i hz
              rw [xpK_sm]
              cases hp : pX f len 41 0 0 (adv f len st) with
              | inr e => trivial
              | inl z =>
                rw [hp] at hl2 hw
                have hl3 : adv f len st + z.2.length ≤ z.1 ∧ z.1 ≤ len := hl2
                have hx : xF = none := by
                  cases xF with
                  | none => rfl
                  | some u => obtain ⟨b, _⟩ := di.2.2.2.2.2.2.2.1; rw [b] at hz; exact absurd hz (by decide : ¬ (1 : Int32) = 0)
                subst hx
                exact DIX.mono (DIX.sm (p := .inl (z.1, enF (apL (zFr T (1, tCl T, tCl T)) (nOf T) z.2), L)) ⟨⟨_, xP, (di.go (st' := z.1) (by omega) hl3.2).frays (by omega) hw.1 hw.2⟩, Nat.le_refl _⟩) (by show st + 1 ≤ z.1; omega)
            · trivial
          · split
            · unfold lnP
              split
              · rename_i hz
                rw [xpK_sm]
                cases hp : pX f len 41 0 0 (adv f len st) with
                | inr e => trivial
                | inl z =>
                  rw [hp] at hl2 hw
                  have hl3 : adv f len st + z.2.length ≤ z.1 ∧ z.1 ≤ len := hl2
                  have hx : xP = none := by
                    cases xP with
                    | none => rfl
                    | some u => obtain ⟨b, _⟩ := di.2.2.2.2.2.2.2.2; rw [b] at hz; exact absurd hz (by decide : ¬ (1 : Int32) = 0)
                  subst hx
                  exact DIX.mono (DIX.sm (p := .inl (z.1, enP (apL (zPl T (1, tCl T, tCl T)) (nOf T) z.2), L)) ⟨⟨xF, _, (di.go (st' := z.1) (by omega) hl3.2).pulls (by omega) hw.1 hw.2⟩, Nat.le_refl _⟩) (by show st + 1 ≤ z.1; omega)
              · trivial
            · trivial
/-- the empty draft -/
theorem DI_0 (h1 : st ≤ len) (h2 : len ≤ 700) : DI len st (clT T) (sDay L 0) none none := ⟨⟨by show 0 ≤ 12; omega, by show 0 ≤ 6; omega, by show 0 ≤ 8; omega, rfl, rfl, by show 0 ≤ st; omega, h1, h2⟩, Or.inl ⟨rfl, rfl⟩, Or.inl ⟨rfl, rfl⟩, ⟨fun k hk => absurd hk (Nat.not_lt_zero _), fun i j _ hj => absurd hj (Nat.not_lt_zero _)⟩, fun w hw => absurd hw (Nat.not_lt_zero _), ⟨fun k hk => absurd hk (Nat.not_lt_zero _), fun k hk => absurd hk (Nat.not_lt_zero _)⟩, rfl, rfl, rfl⟩
end TXT
section TXU
variable {g : GG} {h : Hp} {A d tx len td ld : Nat} {q : Int32 × Int32} {t : TkV} {f : AF} {T : ToldV} {L : LandV}
theorem c_readText (hg : GOK g) (hO : GOW g) (hd : 144 ≤ d) (w : RdW h A tx len td ld f q t T L) (h0 : t.1 = 0) (hdi : DI len (stF f len 0) T L none none) : CT g d yX5_readText (wsC yX5_readText cX5_readText 2 (some .boolean)) [.ref A] h 0 0 (LnW A tx len td ld f q (txP f len (len + 1) (stF f len 0) T L) h) noT := by
  have l7 := w.l7
  refine CT_ofB (by decide +kernel) (Nat.le_of_ble_eq_true rfl) rfl fun K X => ?_
  have tk0 : TkAt f len (stF f len 0) (tkF f len t) := by
    have hst := stF_le (f := f) (len := len) (nx := 0) (by omega)
    refine ⟨hst.2, ?_, ?_, ?_, ?_⟩
    · show nxF f len (stF f len t.1) = _; rw [h0]
    · show kdE f len (stF f len t.1) = _; rw [h0]
    · show stF f len t.1 = _; rw [h0]
    · intro z
      show (if kdE f len (stF f len t.1) = 2 then _ else _) = _
      rw [h0, if_pos z]
  refine b_X5_readText_0 hg (by omega) k00 X _ _ ⟨_, w.rd.o, use_v (c_takeToken (d := d - 1) hg (by omega) w.rd w.xx (by rw [h0]; omega)) (by omega) k00 ?_⟩
  intro h1 e1
  rw [e1]
  obtain ⟨w1, o1⟩ := w.pd q (tkF f len t)
  have loop : ∀ (p : LR) (j i s : Nat) (T1 : ToldV) (L1 : LandV) (xF xP : RuX) (h2 : Hp) (t2 : TkV), i + j = len + 1 → RdW h2 A tx len td ld f q t2 T1 L1 → TkAt f len s t2 → DI len s T1 L1 xF xP → OutW A td ld h h2 → txP f len j s T1 L1 = p → VB g K 2 d 0 0 (LnW A tx len td ld f q p h) noT 0 0 6 [some (.ref A), some (.int (nI i))] [] h2 := by
    intro p j
    induction j with
    | zero =>
      intro i s T1 L1 xF xP h2 t2 hij w2 k2 di o2 hp
      refine b_X5_readText_6 hg (by omega) k00 X _ _ _ ⟨_, w2.rd.g3, fun _ => ⟨Or.inr rfl, o2, ?_⟩, fun y => absurd (nI_lt (a := len) (b := i) (by omega) (by omega)) y⟩
      rw [← hp]
      exact ⟨rfl, _, w2, k2⟩
    | succ j ih =>
      intro i s T1 L1 xF xP h2 t2 hij w2 k2 di o2 hp
      have ek : t2.2.1 = kdE f len s := k2.2.2.1
      rw [txP] at hp
      refine b_X5_readText_6 hg (by omega) k00 X _ _ _ ⟨_, w2.rd.g3, fun y => absurd (lt_nI (by omega) (by omega) y) (by omega), fun _ => ⟨_, w2.rd.g7, fun y => ⟨Or.inr rfl, o2, ?_⟩, fun y => ?_⟩⟩
      · rw [ek] at y
        rw [if_pos y] at hp
        rw [← hp]
        exact ⟨rfl, _, w2, k2⟩
      · rw [ek] at y
        rw [if_neg y] at hp
        have dx := ln_di di y
        refine ⟨_, w2.rd.o, u_call (c_readLine (d := d - 1) (m := mOf T1) (n0 := nOf T1) hg hO (by omega) w2 k2 di.1.2.2.2.2.1 di.1.2.2.2.2.2.1 di.1.1 di.1.2.1 di.1.2.2.1 di.1.2.2.2.1) (by omega) k00 fun v h3 l => ?_⟩
        obtain ⟨o3, l⟩ := l
        cases hl : lnA f len s (mOf T1) (nOf T1) T1 L1 with
        | inr e =>
          rw [hl] at l hp
          refine ⟨0, l.1, fun z => absurd rfl z, fun _ => ⟨Or.inl rfl, o2.trans o3, ?_⟩⟩
          rw [← hp]
          exact ⟨rfl, l.2⟩
        | inl z =>
          rw [hl] at l hp dx
          obtain ⟨l1, t3, w3, k3⟩ := l
          obtain ⟨⟨xF2, xP2, di2⟩, _⟩ := dx
          refine ⟨1, l1, fun _ => ?_, fun z => absurd z (by decide)⟩
          rw [nI_s]
          exact ih (i + 1) z.1 z.2.1 z.2.2 xF2 xP2 h3 t3 (by omega) w3 k3 di2 (o2.trans o3) hp
  exact loop _ (len + 1) 0 _ T L none none _ _ (by omega) w1 tk0 hdi o1 rfl
end TXU
