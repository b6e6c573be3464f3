/-! THE REFERENCE: a line -/
theorem xpK_sm {f : AF} {len : Nat} {p : PR} {k : List Int32 → ToldV} {L : LandV} : xpK f len p k L = smB f len (match p with
  | .inr e => .inr e
  | .inl r => .inl (r.1, k r.2, L)) := by cases p <;> rfl
section RLI
variable {g : GG} {h : Hp} {B d len st : Nat} {R R0 : RefV} {f : AF} {T : ToldV} {L : LandV} {xF xP : RuX} {out : List Int32}
/-- the draft with a rule read -/
theorem ex_fr (dr : DR f len R0 st T L none xP out R) {s : Nat} {c : List Int32} {R3 R4 : RefV} (hs : adv f len st + c.length ≤ s ∧ s ≤ len) (hst : st ≤ adv f len st) (hw : wfL c 0 1 ∧ OkC c) (nf : NF R0 R3) (e14 : ri R3 14 = ri R0 14) (db3 : DB T L none xP out (sI R3 28 (ri R 28))) (e28 : ri R3 28 = nI out.length) (tp3 : TpR f len R3)
    (xf : XF R3 R4) (tk : TkR f len s R4) (e13 : ri R4 13 = 0) (e14' : ri R4 14 = ri R3 14) (e30 : ri R4 30 = nI (0 :: enR c ++ out).length) (sk : Stk (ra R4 11) (0 :: enR c ++ out)) (hl : (0 :: enR c ++ out).length ≤ 2 * s) : DR f len R0 s (enF (apL (zFr T (1, tCl T, tCl T)) (nOf T) c)) L (some (nOf T, c)) xP (0 :: enR c ++ out) R4 := by
  obtain ⟨di, dg, db, ol⟩ := dr
  have hn := di.1.2.2.2.2.2.1
  refine ⟨(di.go (st' := s) (by omega) hs.2).frays (by omega) hw.1 hw.2, ⟨nf.trans xf.nf, tp3.xf xf, tk, e13, by rw [e14', e14]⟩, ?_, hl⟩
  obtain ⟨⟨b1, b2, b3, b4⟩, ⟨b5, b5'⟩, ⟨b6, b7⟩, b8, b9, b10⟩ := db3
  rw [ri_sIn (by decide)] at b1 b2 b3 b4 b5' b6
  rw [apL_eq]
  refine ⟨⟨?_, ?_, ?_, ?_⟩, ⟨⟨out, [], ?_, rfl⟩, ?_⟩, ⟨e30, sk⟩, fun w hw => ?_, fun k hk => ?_, ?_⟩
  · rw [xf.1 24 rfl]; exact b1
  · rw [xf.1 25 rfl]; exact b2
  · rw [xf.1 26 rfl]; exact b3
  · rw [xf.1 27 rfl]; exact b4
  · rw [xf.1 28 rfl]; exact e28
  · rw [xf.1 29 rfl]; exact b5'.push _
  · rw [xf.2 7 (by decide) (by decide) (by decide)]; exact b8 w hw
  · rw [xf.2 8 (by decide) (by decide) (by decide), xf.2 9 (by decide) (by decide) (by decide)]; exact b9 k hk
  · rw [xf.2 10 (by decide) (by decide) (by decide)]; exact b10
theorem ex_pu (dr : DR f len R0 st T L xF none out R) {s : Nat} {c : List Int32} {R3 R4 : RefV} (hs : adv f len st + c.length ≤ s ∧ s ≤ len) (hst : st ≤ adv f len st) (hw : wfL c 0 1 ∧ OkC c) (nf : NF R0 R3) (e14 : ri R3 14 = ri R0 14) (db3 : DB T L xF none out (sI R3 29 (ri R 29))) (e29 : ri R3 29 = nI out.length) (tp3 : TpR f len R3)
    (xf : XF R3 R4) (tk : TkR f len s R4) (e13 : ri R4 13 = 0) (e14' : ri R4 14 = ri R3 14) (e30 : ri R4 30 = nI (0 :: enR c ++ out).length) (sk : Stk (ra R4 11) (0 :: enR c ++ out)) (hl : (0 :: enR c ++ out).length ≤ 2 * s) : DR f len R0 s (enP (apL (zPl T (1, tCl T, tCl T)) (nOf T) c)) L xF (some (nOf T, c)) (0 :: enR c ++ out) R4 := by
  obtain ⟨di, dg, db, ol⟩ := dr
  have hn := di.1.2.2.2.2.2.1
  refine ⟨(di.go (st' := s) (by omega) hs.2).pulls (by omega) hw.1 hw.2, ⟨nf.trans xf.nf, tp3.xf xf, tk, e13, by rw [e14', e14]⟩, ?_, hl⟩
  obtain ⟨⟨b1, b2, b3, b4⟩, ⟨b5, b5'⟩, ⟨b6, b7⟩, b8, b9, b10⟩ := db3
  rw [ri_sIn (by decide)] at b1 b2 b3 b4 b5 b6
  rw [apL_eq]
  refine ⟨⟨?_, ?_, ?_, ?_⟩, ⟨?_, ⟨out, [], ?_, rfl⟩⟩, ⟨e30, sk⟩, fun w hw => ?_, fun k hk => ?_, ?_⟩
  · rw [xf.1 24 rfl]; exact b1
  · rw [xf.1 25 rfl]; exact b2
  · rw [xf.1 26 rfl]; exact b3
  · rw [xf.1 27 rfl]; exact b4
  · rw [xf.1 28 rfl]; exact b5.push _
  · rw [xf.1 29 rfl]; exact e29
  · rw [xf.2 7 (by decide) (by decide) (by decide)]; exact b8 w hw
  · rw [xf.2 8 (by decide) (by decide) (by decide), xf.2 9 (by decide) (by decide) (by decide)]; exact b9 k hk
  · rw [xf.2 10 (by decide) (by decide) (by decide)]; exact b10
theorem nI_nm1 {n : Nat} (h : n < 2 ^ 31) : ¬ nI n = -1 := fun e => by
  have := congrArg Int32.toInt e
  rw [nI_toInt h] at this
  have e1 : (-1 : Int32).toInt = -1 := rfl
  omega
set_option maxHeartbeats 4000000 in
theorem d_line (hg : GOK g) (hd : 22 ≤ d) (hR : RA h B R0) (q : DR f len R0 st T L xF xP out R) : CT g d yX12_line (wsC yX12_line cX12_line 2 none) [.ref B] (pR h B R) 0 0 (LnR f len R0 (lnA f len st (mOf T) (nOf T) T L) h B) noT := by
  have q0 := q
  obtain ⟨di, dg, db, ol⟩ := q
  have r1 := hR.put R
  have tk := dg.tk
  have l7 := dg.tp.1
  have kl := kw_le (f := f) (len := len) (st := st)
  have hge := adv_ge (f := f) tk.1
  refine CT_ofB (by decide +kernel) (Nat.le_of_ble_eq_true rfl) rfl fun K XX => ?_
  -- the line's end
  have fin : ∀ (p : LR) (R2 : RefV), DX f len R0 p R2 → VB g K 2 d 0 0 (LnR f len R0 (smB f len p) h B) noT 0 0 238 [some (.ref B), none] [] (pR h B R2) := by
    intro p R2 hp
    have r2 := hR.put R2
    cases p with
    | inl z =>
      obtain ⟨xF2, xP2, out2, q2⟩ := hp
      refine b_X12_line_238 hg (by omega) k00 XX _ _ ⟨_, r2.o, use_i (d_rSign (d := d - 1) hg (by omega) r2 q2.2.1.tp q2.2.1.tk 59) (by omega) k00 ⟨_, r2.o, d - 1, _, _, 0, 0, d_need (d := d - 1) hg (by omega) hR q2, ⟨by omega, Nat.le_refl _, Nat.le_refl _⟩, fun _ _ z => z.elim, ?_⟩⟩
      rintro v h3 ⟨e1, R3, e2, e3⟩
      exact ⟨e1, rfl, R3, e2, e3⟩
    | inr e =>
      have fl : FtL R0 e R2 := hp
      refine b_X12_line_238 hg (by omega) k00 XX _ _ ⟨_, r2.o, d - 1, _, _, 0, 0, d_signAny (d := d - 1) hg (by omega) r2 59, ⟨by omega, Nat.le_refl _, Nat.le_refl _⟩, fun _ _ z => z.elim, ?_⟩
      rintro v h3 ⟨x, e1, e2⟩
      rw [e2]
      refine ⟨x, e1, _, r2.o, use_v (d_needN (d := d - 1) hg (by omega) r2 fl.b x) (by omega) k00 ?_⟩
      intro h4 e4
      rw [e4]
      exact ⟨rfl, R2, rfl, fl⟩
  have finI : ∀ (p : LR) (e : Int32 × Nat) (R2 : RefV), FtL R0 e R2 → p = .inr e → VB g K 2 d 0 0 (LnR f len R0 p h B) noT 0 0 238 [some (.ref B), none] [] (pR h B R2) := by
    intro p e R2 fl hp
    have := fin (.inr e) R2 fl
    rw [hp]
    exact this
  -- which words stand there
  have wk : ∀ j k, k < 15 → rkW k = j → (wdP f len st j = true ↔ kwP f len st = k) := fun j k hk e => by rw [← e]; exact (kw_iff hk).symm
  have w0 := wk 0 6 (by decide) rfl
  have w1 := wk 1 7 (by decide) rfl
  have w2 := wk 2 8 (by decide) rfl
  have w3 := wk 3 9 (by decide) rfl
  have w4 := wk 4 10 (by decide) rfl
  have w5 := wk 5 11 (by decide) rfl
  have kE : ∀ k, k < 15 → (kwI (kwP f len st) = nI k ↔ kwP f len st = k) := fun k hk => kwI_eq kl hk
  refine b_X12_line_0 hg (by omega) k00 XX _ _ ⟨_, r1.o, use_i (d_knownWord (d := d - 1) hg (by omega) r1 tk l7) (by omega) k00 ⟨fun n6 => ⟨fun n7 => ⟨fun n8 => ⟨fun n9 => ⟨fun n10 => ⟨fun n11 => ⟨_, r1.o, use_v (d_wrong (d := d - 1) hg (by omega) r1 dg.gd 1) (by omega) k00 ?_⟩, fun y11 => ?_⟩, fun y10 => ?_⟩, fun y9 => ?_⟩, fun y8 => ?_⟩, fun y7 => ?_⟩, fun y6 => ?_⟩⟩
  · -- no such line
    have m6 := fun e => n6 ((kE 6 (by decide)).mpr e)
    have m7 := fun e => n7 ((kE 7 (by decide)).mpr e)
    have m8 := fun e => n8 ((kE 8 (by decide)).mpr e)
    have m9 := fun e => n9 ((kE 9 (by decide)).mpr e)
    have m10 := fun e => n10 ((kE 10 (by decide)).mpr e)
    have m11 := fun e => n11 ((kE 11 (by decide)).mpr e)
    intro h3 e3
    rw [e3, hR.pp]
    refine finI _ _ _ (dg.fl (by decide)) ?_
    unfold lnA
    rw [if_neg (fun e => m6 (w0.mp e)), if_neg (fun e => m7 (w1.mp e)), if_neg (fun e => m8 (w2.mp e)), if_neg (fun e => m9 (w3.mp e)), if_neg (fun e => m10 (w4.mp e)), if_neg (fun e => m11 (w5.mp e))]
  · -- pulls
    have k := (kE 11 (by decide)).mp y11
    have eL : lnA f len st (mOf T) (nOf T) T L = lnP f len st (nOf T) T L := by
      unfold lnA
      rw [if_neg (fun e => by have := w0.mp e; omega), if_neg (fun e => by have := w1.mp e; omega), if_neg (fun e => by have := w2.mp e; omega), if_neg (fun e => by have := w3.mp e; omega), if_neg (fun e => by have := w4.mp e; omega), if_pos (w5.mpr k)]
    rw [eL]
    have hlt := wdP_lt (w5.mpr k)
    have hal := adv_lt (f := f) hlt
    have hru := di.2.2.2.2.2.2.2.2
    have hra := db.2.1.2
    unfold lnP
    refine ⟨_, r1.i29, fun y => ?_, fun y => ?_⟩
    · have hx : xP = none := by
        cases xP with
        | none => rfl
        | some z =>
          obtain ⟨pre, post, a1, a2⟩ := hra
          have := congrArg List.length a2
          simp only [List.length_append, List.length_cons] at this
          rw [a1] at y
          exact absurd y (nI_nm1 (by omega))
      subst hx
      have hz : (tPl T).1 = 0 := by have : tPl T = (0, 0, 0) := hru; rw [this]
      rw [if_pos hz, xpK_sm]
      refine b_X12_line_212 hg (by omega) k00 XX _ _ _ _ _ ⟨_, r1.o, u_begin hg hR dg (by omega) k00 (Or.inl rfl) (fun _ _ R2 gf2 dg2 => ⟨fun z => absurd z (by decide), fun _ => ?_⟩) (fun z => absurd rfl z) (fun z => absurd rfl z)⟩
      have r2 := hR.put R2
      have e30 : ri R2 30 = nI out.length := by rw [gf2.1 30 (by omega)]; exact db.2.2.1.1
      refine ⟨_, by rw [r2.i30, e30], _, r2.w29 _, ?_⟩
      rw [hR.pp]
      have dg3 := dg2.i (k := 29) (v := nI out.length) (by omega) (by omega)
      have r3 := hR.put (sI R2 29 (nI out.length))
      have ex := d_expression (d := d - 1) (n := 41) (out0 := out) hg (by omega) r3 dg3.tp dg3.tk dg3.gd (by rw [ri_sIn (by decide)]; exact e30) (by show Stk (ra R2 11) out; rw [gf2.2]; exact db.2.2.1.2) (by omega) (by omega)
      refine ⟨_, r3.o, d - 1, _, _, 0, 0, ex, ⟨by omega, Nat.le_refl _, Nat.le_refl _⟩, fun _ _ z => z.elim, ?_⟩
      rintro v h4 ⟨e1, R4, e2, xf, e3⟩
      refine ⟨e1, ?_⟩
      rw [e2, hR.pp]
      cases hp : pX f len 41 0 0 (adv f len st) with
      | inr e =>
        rw [hp] at e3
        exact finI _ e R4 ⟨dg3.1.trans xf.nf, e3.1, e3.2.1, e3.2.2⟩ rfl
      | inl z =>
        rw [hp] at e3
        obtain ⟨t1, t2, t3, t4, t5, t6⟩ := e3
        have hl2 := pX_len (f := f) 41 0 0 (adv f len st) (adv_le tk.1)
        have hw := pX_ok (f := f) (len := len) 41 0 0 (adv f len st) 0 (by omega) (by omega) (by omega)
        rw [hp] at hl2 hw
        refine fin (.inl (z.1, enP (apL (zPl T (1, tCl T, tCl T)) (nOf T) z.2), L)) R4 ⟨xF, some (nOf T, z.2), 0 :: enR z.2 ++ out, ?_⟩
        refine ex_pu q0 hl2 hge hw dg3.1 dg3.2.2.2.2 ?_ ri_sI dg3.tp xf t1 t2 t3 t4 t5 t6
        refine db.of (fun k k1 k2 => ?_) (fun c _ _ => gf2.2 c)
        by_cases e29 : k = 29
        · rw [e29, ri_sI]
        · rw [ri_sIn e29, ri_sIn e29, gf2.1 k (by omega)]
    · have hz : ¬ (tPl T).1 = 0 := by
        cases xP with
        | none => exact absurd hra y
        | some z => obtain ⟨a, _⟩ := hru; rw [a]; exact (by decide : ¬ (1 : Int32) = 0)
      rw [if_neg hz]
      exact b_X12_line_212 hg (by omega) k00 XX _ _ _ _ _ ⟨_, r1.o, u_begin hg hR dg (by omega) k00 (Or.inl rfl) (fun _ z => absurd z (by decide)) (fun z => absurd rfl z) (fun _ R2 fl => ⟨fun _ => finI _ _ R2 fl rfl, fun z => absurd rfl z⟩)⟩
  · -- frays
    have k := (kE 10 (by decide)).mp y10
    have eL : lnA f len st (mOf T) (nOf T) T L = lnF f len st (nOf T) T L := by
      unfold lnA
      rw [if_neg (fun e => by have := w0.mp e; omega), if_neg (fun e => by have := w1.mp e; omega), if_neg (fun e => by have := w2.mp e; omega), if_neg (fun e => by have := w3.mp e; omega), if_pos (w4.mpr k)]
    rw [eL]
    have hlt := wdP_lt (w4.mpr k)
    have hal := adv_lt (f := f) hlt
    have hru := di.2.2.2.2.2.2.2.1
    have hra := db.2.1.1
    unfold lnF
    refine ⟨_, r1.i28, fun y => ?_, fun y => ?_⟩
    · have hx : xF = none := by
        cases xF with
        | none => rfl
        | some z =>
          obtain ⟨pre, post, a1, a2⟩ := hra
          have := congrArg List.length a2
          simp only [List.length_append, List.length_cons] at this
          rw [a1] at y
          exact absurd y (nI_nm1 (by omega))
      subst hx
      have hz : (tFr T).1 = 0 := by have : tFr T = (0, 0, 0) := hru; rw [this]
      rw [if_pos hz, xpK_sm]
      refine b_X12_line_170 hg (by omega) k00 XX _ _ _ _ _ ⟨_, r1.o, u_begin hg hR dg (by omega) k00 (Or.inl rfl) (fun _ _ R2 gf2 dg2 => ⟨fun z => absurd z (by decide), fun _ => ?_⟩) (fun z => absurd rfl z) (fun z => absurd rfl z)⟩
      have r2 := hR.put R2
      have e30 : ri R2 30 = nI out.length := by rw [gf2.1 30 (by omega)]; exact db.2.2.1.1
      refine ⟨_, by rw [r2.i30, e30], _, r2.w28 _, ?_⟩
      rw [hR.pp]
      have dg3 := dg2.i (k := 28) (v := nI out.length) (by omega) (by omega)
      have r3 := hR.put (sI R2 28 (nI out.length))
      have ex := d_expression (d := d - 1) (n := 41) (out0 := out) hg (by omega) r3 dg3.tp dg3.tk dg3.gd (by rw [ri_sIn (by decide)]; exact e30) (by show Stk (ra R2 11) out; rw [gf2.2]; exact db.2.2.1.2) (by omega) (by omega)
      refine ⟨_, r3.o, d - 1, _, _, 0, 0, ex, ⟨by omega, Nat.le_refl _, Nat.le_refl _⟩, fun _ _ z => z.elim, ?_⟩
      rintro v h4 ⟨e1, R4, e2, xf, e3⟩
      refine ⟨e1, ?_⟩
      rw [e2, hR.pp]
      cases hp : pX f len 41 0 0 (adv f len st) with
      | inr e =>
        rw [hp] at e3
        exact finI _ e R4 ⟨dg3.1.trans xf.nf, e3.1, e3.2.1, e3.2.2⟩ rfl
      | inl z =>
        rw [hp] at e3
        obtain ⟨t1, t2, t3, t4, t5, t6⟩ := e3
        have hl2 := pX_len (f := f) 41 0 0 (adv f len st) (adv_le tk.1)
        have hw := pX_ok (f := f) (len := len) 41 0 0 (adv f len st) 0 (by omega) (by omega) (by omega)
        rw [hp] at hl2 hw
        refine fin (.inl (z.1, enF (apL (zFr T (1, tCl T, tCl T)) (nOf T) z.2), L)) R4 ⟨some (nOf T, z.2), xP, 0 :: enR z.2 ++ out, ?_⟩
        refine ex_fr q0 hl2 hge hw dg3.1 dg3.2.2.2.2 ?_ ri_sI dg3.tp xf t1 t2 t3 t4 t5 t6
        refine db.of (fun k k1 k2 => ?_) (fun c _ _ => gf2.2 c)
        by_cases e29 : k = 28
        · rw [e29, ri_sI]
        · rw [ri_sIn e29, ri_sIn e29, gf2.1 k (by omega)]
    · have hz : ¬ (tFr T).1 = 0 := by
        cases xF with
        | none => exact absurd hra y
        | some z => obtain ⟨a, _⟩ := hru; rw [a]; exact (by decide : ¬ (1 : Int32) = 0)
      rw [if_neg hz]
      exact b_X12_line_170 hg (by omega) k00 XX _ _ _ _ _ ⟨_, r1.o, u_begin hg hR dg (by omega) k00 (Or.inl rfl) (fun _ z => absurd z (by decide)) (fun z => absurd rfl z) (fun _ R2 fl => ⟨fun _ => finI _ _ R2 fl rfl, fun z => absurd rfl z⟩)⟩
  · -- week
    have k := (kE 9 (by decide)).mp y9
    have eL : lnA f len st (mOf T) (nOf T) T L = lnD f len st T L := by
      unfold lnA
      rw [if_neg (fun e => by have := w0.mp e; omega), if_neg (fun e => by have := w1.mp e; omega), if_neg (fun e => by have := w2.mp e; omega), if_pos (w3.mpr k)]
    rw [eL]
    have e27 := db.1.2.2.2
    unfold lnD
    refine ⟨_, r1.i27, fun y => ?_, fun y => ?_⟩
    · have hz : tWg T = 0 := by
        rcases di.2.1 with ⟨a, _⟩ | ⟨a, b, b1, b2, b3⟩
        · exact a
        · rw [e27, if_neg (by rw [a]; decide), b3] at y
          exact absurd y (nI_nm1 (by omega))
      rw [if_pos hz]
      have esm : nbK f len 1 9 (adv f len st) (smK f len (ad2 f len st) (zWk (zWg T 1) (vaP f len (adv f len st))) L) = smB f len (nbK f len 1 9 (adv f len st) (.inl (ad2 f len st, zWk (zWg T 1) (vaP f len (adv f len st)), L))) := by rw [nbK_sm]; rfl
      rw [esm]
      refine b_X12_line_129 hg (by omega) k00 XX _ _ _ _ _ ⟨_, r1.o, u_begin hg hR dg (by omega) k00 (Or.inl rfl) (fun _ _ R2 gf2 dg2 => ⟨fun z => absurd z (by decide), fun _ => ?_⟩) (fun z => absurd rfl z) (fun z => absurd rfl z)⟩
      have r2 := hR.put R2
      refine ⟨_, r2.o, u_num hg hR dg2 1 9 (by omega) k00 (fun y1 R3 gf3 dg3 => ?_) (fun y1 x R3 fl3 xf3 => ?_)⟩
      · have r3 := hR.put R3
        refine ⟨_, r3.w27 _, ?_⟩
        rw [hR.pp]
        rw [nbK, if_pos y1]
        have g2 := adv_ge (f := f) dg2.tk.1
        refine fin _ _ ⟨xF, xP, out, (di.go (st' := ad2 f len st) (Nat.le_trans hge g2) dg3.tk.1).week ?_, dg3.i (by omega) (by omega), ?_, Nat.le_trans ol (by have := Nat.le_trans hge g2; show 2 * st ≤ 2 * ad2 f len st; exact Nat.mul_le_mul_left 2 this)⟩
        · obtain ⟨c, c1, c2, c3⟩ := nb_v (a := 1) (b := 9) y1 rfl rfl (by omega) (by omega); exact ⟨c, c1, c2, c3⟩
        · obtain ⟨⟨b1, b2, b3, b4⟩, b5, ⟨b6, b7⟩, b8, b9, b10⟩ := db
          have i3 : ∀ k, (k < 17 ∨ 22 < k) → ri R3 k = ri R k := fun k hk => by rw [gf3.1 k hk, gf2.1 k hk]
          have a3 : ∀ c, ra R3 c = ra R c := fun c => by rw [gf3.2, gf2.2]
          refine ⟨⟨?_, ?_, ?_, ?_⟩, ?_, ⟨?_, ?_⟩, fun w hw => ?_, fun k hk => ?_, ?_⟩
          · rw [ri_sIn (by decide), i3 24 (by omega)]; exact b1
          · rw [ri_sIn (by decide), i3 25 (by omega)]; exact b2
          · rw [ri_sIn (by decide), i3 26 (by omega)]; exact b3
          · rw [ri_sI]; rfl
          · rw [ri_sIn (by decide), ri_sIn (by decide), i3 28 (by omega), i3 29 (by omega)]; exact b5
          · rw [ri_sIn (by decide), i3 30 (by omega)]; exact b6
          · show Stk (ra R3 11) out; rw [a3]; exact b7
          · show ra R3 7 w = _; rw [a3]; exact b8 w hw
          · show ra R3 8 k = _ ∧ ra R3 9 k = _; rw [a3, a3]; exact b9 k hk
          · show NwR _ _ _ (ra R3 10); rw [a3]; exact b10
      · have r3 := hR.put R3
        refine ⟨_, r3.w27 _, ?_⟩
        rw [hR.pp, nbK, if_neg y1]
        exact fin (.inr _) _ (fl3.i rfl (by decide) (by decide))
    · have hz : ¬ tWg T = 0 := fun e => by rw [e27, if_pos e] at y; exact absurd rfl y
      rw [if_neg hz]
      exact b_X12_line_129 hg (by omega) k00 XX _ _ _ _ _ ⟨_, r1.o, u_begin hg hR dg (by omega) k00 (Or.inl rfl) (fun _ z => absurd z (by decide)) (fun z => absurd rfl z) (fun _ R2 fl => ⟨fun _ => finI _ _ R2 fl rfl, fun z => absurd rfl z⟩)⟩
  · -- knots
    have k := (kE 8 (by decide)).mp y8
    have eL : lnA f len st (mOf T) (nOf T) T L = lnK f len st (mOf T) T L := by
      unfold lnA
      rw [if_neg (fun e => by have := w0.mp e; omega), if_neg (fun e => by have := w1.mp e; omega), if_pos (w2.mpr k)]
    rw [eL, lnK_sm]
    have e26 : ri R 26 = nI (mOf T) := by rw [db.1.2.2.1]; exact di.1.2.2.2.1
    have m8 := di.1.2.2.1
    refine ⟨_, by rw [r1.i26, e26], fun y => ?_, fun y => ?_⟩
    · have hm : mOf T = 0 := by
        have := le_nI (y := 0) (by omega) (by omega) y
        omega
      have hz : tKg T = 0 := by
        rcases di.2.2.1 with ⟨a, _⟩ | ⟨_, b⟩
        · exact a
        · omega
      rw [if_pos hz, hm]
      refine b_X12_line_95 hg (by omega) k00 XX _ _ _ _ _ ⟨_, r1.o, u_begin hg hR dg (by omega) k00 (Or.inl rfl) (fun _ _ R2 gf2 dg2 => ⟨fun z => absurd z (by decide), fun _ => ?_⟩) (fun z => absurd rfl z) (fun z => absurd rfl z)⟩
      have r2 := hR.put R2
      refine ⟨_, r2.o, d - 1, _, _, 0, 0, d_readsKnots (d := d - 1) hg (by omega) hR hm ⟨di.go hge dg2.tk.1, dg2, db.gf gf2, by omega⟩, ⟨by omega, Nat.le_refl _, Nat.le_refl _⟩, fun _ _ z => z.elim, ?_⟩
      rintro v h4 ⟨e1, R4, e2, e3⟩
      rw [e2]
      exact ⟨e1, fin _ R4 e3⟩
    · have hm : ¬ mOf T = 0 := fun e => y (by rw [e]; decide)
      have hz : ¬ tKg T = 0 := by
        rcases di.2.2.1 with ⟨_, b⟩ | ⟨a, _⟩
        · exact absurd b hm
        · rw [a]; decide
      rw [if_neg hz]
      exact b_X12_line_95 hg (by omega) k00 XX _ _ _ _ _ ⟨_, r1.o, u_begin hg hR dg (by omega) k00 (Or.inl rfl) (fun _ z => absurd z (by decide)) (fun z => absurd rfl z) (fun _ R2 fl => ⟨fun _ => finI _ _ R2 fl rfl, fun z => absurd rfl z⟩)⟩
  · -- a woman
    have k := (kE 7 (by decide)).mp y7
    have eL : lnA f len st (mOf T) (nOf T) T L = lnW f len st T L := by
      unfold lnA
      rw [if_neg (fun e => by have := w0.mp e; omega), if_pos (w1.mpr k)]
    rw [eL, lnW_sm]
    have w6 := di.1.2.1
    refine ⟨_, by rw [r1.i25, db.1.2.1], fun y => ?_, fun y => ?_⟩
    · have hW : tW T < 6 := by
        have : ¬ tW T = 6 := fun e => y (by rw [e]; rfl)
        omega
      rw [if_pos hW]
      refine b_X12_line_61 hg (by omega) k00 XX _ _ _ _ ⟨_, r1.o, u_begin hg hR dg (by omega) k00 (Or.inr rfl) (fun _ _ R2 gf2 dg2 => ⟨fun z => absurd z (by decide), fun _ => ?_⟩) (fun z => absurd rfl z) (fun z => absurd rfl z)⟩
      have r2 := hR.put R2
      refine ⟨_, r2.o, d - 1, _, _, 0, 0, d_readsWoman (d := d - 1) hg (by omega) hR hW ⟨di.go hge dg2.tk.1, dg2, db.gf gf2, by omega⟩, ⟨by omega, Nat.le_refl _, Nat.le_refl _⟩, fun _ _ z => z.elim, ?_⟩
      rintro v h4 ⟨e1, R4, e2, e3⟩
      rw [e2]
      exact ⟨e1, fin _ R4 e3⟩
    · have hW : ¬ tW T < 6 := by
        have := (nI_eq (b := 6) (by omega) (by omega)).mp y
        omega
      rw [if_neg hW]
      exact b_X12_line_61 hg (by omega) k00 XX _ _ _ _ ⟨_, r1.o, u_begin hg hR dg (by omega) k00 (Or.inr rfl) (fun z => absurd z (by decide)) (fun _ R2 fl => ⟨fun _ => finI _ _ R2 fl rfl, fun z => absurd rfl z⟩) (fun z => absurd rfl z)⟩
  · -- a stretch
    have k := (kE 6 (by decide)).mp y6
    have eL : lnA f len st (mOf T) (nOf T) T L = lnS f len st T L := by
      unfold lnA
      rw [if_pos (w0.mpr k)]
    rw [eL, lnS_sm]
    have n12 := di.1.1
    refine ⟨_, by rw [r1.i24, db.1.1], fun y => ?_, fun y => ?_⟩
    · have hN : tN_ T < 12 := by
        have : ¬ tN_ T = 12 := fun e => y (by rw [e]; rfl)
        omega
      rw [if_pos hN]
      refine b_X12_line_26 hg (by omega) k00 XX _ _ _ _ ⟨_, r1.o, u_begin hg hR dg (by omega) k00 (Or.inr rfl) (fun _ _ R2 gf2 dg2 => ⟨fun z => absurd z (by decide), fun _ => ?_⟩) (fun z => absurd rfl z) (fun z => absurd rfl z)⟩
      have r2 := hR.put R2
      refine ⟨_, r2.o, d - 1, _, _, 0, 0, d_readsStretch (d := d - 1) hg (by omega) hR hN ⟨di.go hge dg2.tk.1, dg2, db.gf gf2, by omega⟩, ⟨by omega, Nat.le_refl _, Nat.le_refl _⟩, fun _ _ z => z.elim, ?_⟩
      rintro v h4 ⟨e1, R4, e2, e3⟩
      rw [e2]
      exact ⟨e1, fin _ R4 e3⟩
    · have hN : ¬ tN_ T < 12 := by
        have := (nI_eq (b := 12) (by omega) (by omega)).mp y
        omega
      rw [if_neg hN]
      exact b_X12_line_26 hg (by omega) k00 XX _ _ _ _ ⟨_, r1.o, u_begin hg hR dg (by omega) k00 (Or.inr rfl) (fun z => absurd z (by decide)) (fun _ R2 fl => ⟨fun _ => finI _ _ R2 fl rfl, fun z => absurd rfl z⟩) (fun z => absurd rfl z)⟩
end RLI
