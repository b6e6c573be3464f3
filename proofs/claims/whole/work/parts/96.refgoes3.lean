/-! THE REFERENCE: a token taken -/
theorem kdE_5 {f : AF} {len k : Nat} (h : k < len) (h1 : ¬ kdE f len k = 1) (h2 : ¬ kdE f len k = 2) (h3 : ¬ kdE f len k = 3) (h4 : ¬ kdE f len k = 4) : kdE f len k = 5 := by
  unfold kdE at *
  rw [if_pos h] at *
  unfold kdB at *
  by_cases a : ¬ f k < 97 ∧ ¬ 122 < f k
  · rw [if_pos a] at h1; exact absurd rfl h1
  rw [if_neg a] at *
  by_cases b : ¬ f k < 48 ∧ ¬ 57 < f k
  · rw [if_pos b] at h2; exact absurd rfl h2
  rw [if_neg b] at *
  by_cases c : (f k).toInt = 10 ∨ (f k).toInt = 32
  · rw [if_pos c] at h4; exact absurd rfl h4
  rw [if_neg c] at *
  by_cases e : sgB (f k) = true
  · rw [if_pos e] at h3; exact absurd rfl h3
  rw [if_neg e]
theorem skB_n4 {f : AF} {len : Nat} : ∀ (j k : Nat), k + j = len → ¬ kdE f len (skB f len j k) = 4 := by
  intro j
  induction j with
  | zero => intro k hk; rw [skB, kdE, if_neg (by omega)]; decide
  | succ j ih =>
    intro k hk
    rw [skB]
    by_cases y : kdE f len k = 4
    · rw [if_pos y]; exact ih (k + 1) (by omega)
    · rw [if_neg y]; exact y
section RGT
variable {g : GG} {h : Hp} {B d len n0 : Nat} {R : RefV} {f : AF}
/-- the token, in the reference's fields -/
def TkQ (f : AF) (len st : Nat) (R R' : RefV) : Prop := GF R R' ∧ ri R' 17 = nI (nxF f len st) ∧ ri R' 18 = (if kdE f len st = 5 then 4 else kdE f len st) ∧ ri R' 19 = nI st ∧ ri R' 20 = nI (nxF f len st - st) ∧ (kdE f len st = 2 → ri R' 21 = wvF f (min (nxF f len st - st) 4) st 0) ∧ ri R' 22 = btA f len st ∧ (kdE f len st = 1 → R'.2.1 = wdF f (min (nxF f len st - st) 7) st 0)
theorem go_end {K : KX} (XX : CB g K cX12_goes 2 yX12_goes none []) {st : Nat} (hg : GOK g) (hd : 10 ≤ d) (hR : RA h B R) {R2 : RefV} (hs : st ≤ nxF f len st) (a : GF R R2) (e17 : ri R2 17 = nI (nxF f len st)) (e18 : ri R2 18 = (if kdE f len st = 5 then 4 else kdE f len st)) (e19 : ri R2 19 = nI st) (e21 : kdE f len st = 2 → ri R2 21 = wvF f (min (nxF f len st - st) 4) st 0) (e22 : ri R2 22 = btA f len st) (e23 : kdE f len st = 1 → R2.2.1 = wdF f (min (nxF f len st - st) 7) st 0) : VB g K 2 d 0 0 (fun v h2 => v = none ∧ ∃ R', h2 = pR h B R' ∧ TkQ f len st R R') noT 0 0 331 [some (.ref B), none] [] (pR h B R2) := by
  have r2 := hR.put R2
  refine b_X12_goes_331 hg (by omega) k00 XX _ _ ⟨_, by rw [r2.i17, e17], _, by rw [r2.i19, e19], ?_⟩
  rw [pk_sub hs]
  refine ⟨_, r2.w20 _, rfl, sI R2 20 (nI (nxF f len st - st)), hR.pp _ _, a.i (by omega) (by omega), ?_, ?_, ?_, ri_sI, ?_, ?_, e23⟩
  · rw [ri_sIn (by decide), e17]
  · rw [ri_sIn (by decide), e18]
  · rw [ri_sIn (by decide), e19]
  · intro z; rw [ri_sIn (by decide), e21 z]
  · rw [ri_sIn (by decide), e22]
theorem d_goes (hg : GOK g) (hd : 10 ≤ d) (hR : RA h B R) (hT : TpR f len R) (hn0 : n0 ≤ len) (e17 : ri R 17 = nI n0) : CT g d yX12_goes (wsC yX12_goes cX12_goes 2 none) [.ref B] h 0 0 (fun v h2 => v = none ∧ ∃ R', h2 = pR h B R' ∧ TkQ f len (stF f len n0) R R') noT := by
  have l7 := hT.1
  have hst := stF_le (f := f) hn0
  have n4 : ¬ kdE f len (stF f len n0) = 4 := skB_n4 (len - n0) n0 (by omega)
  refine CT_ofB (by decide +kernel) (Nat.le_of_ble_eq_true rfl) rfl fun K XX => ?_
  generalize eS : stF f len n0 = st at *
  have hnx := nxF_le (f := f) hst.2
  have tok : ∀ (R2 : RefV), GF R R2 → ri R2 17 = nI st → VB g K 2 d 0 0 (fun v h2 => v = none ∧ ∃ R', h2 = pR h B R' ∧ TkQ f len st R R') noT 0 0 50 [some (.ref B), none] [] (pR h B R2) := by
    intro R2 a2 g17
    have r2 := hR.put R2
    have r3 := hR.put (sI R2 19 (nI st))
    have r4 := hR.put (sJ (sI R2 19 (nI st)) 0)
    have r5 := hR.put (sI (sJ (sI R2 19 (nI st)) 0) 21 0)
    have a5 : GF R (sI (sJ (sI R2 19 (nI st)) 0) 21 0) := (a2.i (by omega) (by omega)).j.i (by omega) (by omega)
    have g5 : ri (sI (sJ (sI R2 19 (nI st)) 0) 21 0) 17 = nI st := by rw [ri_sIn (by decide)]; show ri (sI R2 19 (nI st)) 17 = _; rw [ri_sIn (by decide), g17]
    refine b_X12_goes_50 hg (by omega) k00 XX _ _ ⟨_, by rw [r2.i17, g17], _, r2.w19 _, ?_⟩
    rw [hR.pp]
    refine ⟨_, r3.wj, ?_⟩
    rw [hR.pp]
    refine ⟨_, r4.w21 0, ?_⟩
    rw [hR.pp]
    refine ⟨_, by rw [r5.i17, g5], _, r5.o, use_i (d_byteAt (d := d - 1) hg (by omega) r5 (hT.gf a5) (by omega)) (by omega) k00 ⟨_, r5.w22 _, ?_⟩⟩
    rw [hR.pp]
    have a6 : GF R (sI (sI (sJ (sI R2 19 (nI st)) 0) 21 0) 22 (btA f len st)) := a5.i (by omega) (by omega)
    have k17 : ri (sI (sI (sJ (sI R2 19 (nI st)) 0) 21 0) 22 (btA f len st)) 17 = nI st := by rw [ri_sIn (by decide), g5]
    have k19 : ri (sI (sI (sJ (sI R2 19 (nI st)) 0) 21 0) 22 (btA f len st)) 19 = nI st := by rw [ri_sIn (by decide), ri_sIn (by decide)]; show ri (sI R2 19 (nI st)) 19 = nI st; exact ri_sI
    have k21 : ri (sI (sI (sJ (sI R2 19 (nI st)) 0) 21 0) 22 (btA f len st)) 21 = 0 := by rw [ri_sIn (by decide)]; exact ri_sI
    have k22 : ri (sI (sI (sJ (sI R2 19 (nI st)) 0) 21 0) 22 (btA f len st)) 22 = btA f len st := ri_sI
    have k23 : (sI (sI (sJ (sI R2 19 (nI st)) 0) 21 0) 22 (btA f len st)).2.1 = 0 := rfl
    generalize sI (sI (sJ (sI R2 19 (nI st)) 0) 21 0) 22 (btA f len st) = R6 at *
    have r6 := hR.put R6
    have hT6 := hT.gf a6
    obtain ⟨b1, b2, b3, _⟩ := btA_k (k := st) hT6
    refine ⟨_, by rw [r6.i17, k17], _, by rw [r6.i16, hT6.2.1], fun y => ?_, fun y => ⟨_, r6.w18 0, ?_⟩⟩
    · have y' := lt_nI (by omega) (by omega) y
      refine use_i (d_isLetter (d := d - 1) hg (by omega) _) (by omega) k00 ⟨fun z => use_i (d_isDigit (d := d - 1) hg (by omega) _) (by omega) k00 ⟨fun z2 => ⟨_, by rw [r6.i17, k17], ?_⟩, fun z2 => ?_⟩, fun z => ?_⟩
      · have n1 : ¬ kdE f len st = 1 := by have := gp_n rfl z; rw [b1, decide_eq_true_eq] at this; exact this
        have n2 : ¬ kdE f len st = 2 := by have := gp_n rfl z2; rw [b2, decide_eq_true_eq] at this; exact this
        have en : nxF f len st = st + 1 := by rw [nxF, if_neg (fun e => e.elim n1 n2)]; omega
        have r7 := hR.put (sI R6 17 (nI (st + 1)))
        have sg : ∀ w, ri (sI (sI R6 17 (nI (st + 1))) 18 w) 18 = (if kdE f len st = 5 then 4 else kdE f len st) → VB g K 2 d 0 0 (fun v h2 => v = none ∧ ∃ R', h2 = pR h B R' ∧ TkQ f len st R R') noT 0 0 328 [some (.ref B), none] [.int w, .ref B] (pR h B (sI R6 17 (nI (st + 1)))) := by
          intro w hw
          refine b_X12_goes_328 hg (by omega) k00 XX _ _ _ _ ⟨_, r7.w18 w, ?_⟩
          rw [hR.pp]
          refine go_end XX hg hd hR (by omega) ((a6.i (by omega) (by omega)).i (by omega) (by omega)) (by rw [ri_sIn (by decide), ri_sI, en]) hw (by rw [ri_sIn (by decide), ri_sIn (by decide), k19]) (fun e => absurd e n2) (by rw [ri_sIn (by decide), ri_sIn (by decide), k22]) (fun e => absurd e n1)
        have yes : snB (btA f len st) = true → VB g K 2 d 0 0 (fun v h2 => v = none ∧ ∃ R', h2 = pR h B R' ∧ TkQ f len st R R') noT 0 0 323 [some (.ref B), none] [.ref B] (pR h B (sI R6 17 (nI (st + 1)))) := by
          intro hs
          rw [b3 y', decide_eq_true_eq] at hs
          exact b_X12_goes_323 hg (by omega) k00 XX _ _ _ (sg 3 (by rw [ri_sI, hs]; decide))
        rw [nI_s]
        refine ⟨_, r6.w17 _, ?_⟩
        rw [hR.pp]
        refine ⟨fun e => yes (by rw [e]; decide), fun m1 => ⟨fun e => yes (by rw [e]; decide), fun m2 => ⟨fun e => yes (by rw [e]; decide), fun m3 => ⟨fun e => yes (by rw [e]; decide), fun m4 => ⟨fun e => yes (by rw [e]; decide), fun m5 => ⟨fun e => yes (by rw [e]; decide), fun m6 => ⟨fun e => yes (by rw [e]; decide), fun m7 => ⟨fun e => yes (by rw [e]; decide), fun m8 => ⟨fun m9 => sg 4 ?_, fun e => yes (by rw [e]; decide)⟩⟩⟩⟩⟩⟩⟩⟩⟩
        have ns : snB (btA f len st) = false := by
          rw [snB]
          simp only [List.contains_eq_mem, List.mem_cons, List.not_mem_nil, or_false, decide_eq_false_iff_not]
          rintro (e | e | e | e | e | e | e | e | e) <;> contradiction
        have n3 : ¬ kdE f len st = 3 := by rw [b3 y', decide_eq_false_iff_not] at ns; exact ns
        rw [ri_sI, if_pos (kdE_5 y' n1 n2 n3 n4)]
      · have e2 : kdE f len st = 2 := by have := gp_y rfl z2; rw [b2, decide_eq_true_eq] at this; exact this
        have en : rnB f len 2 (len - st) st = nxF f len st := by
          rw [nxF, if_pos (Or.inr e2), e2, show len - st = (len - min (st + 1) len) + 1 by omega, rnB, if_pos e2]
          congr 1
          omega
        refine gd_run XX hg hd hR hT6 (fun R7 a7 _ p17 p18 p19 p21 p22 => go_end XX hg hd hR (by omega) ⟨fun k hk => by rw [a7.1 k hk, a6.1 k hk], fun c => by rw [a7.2, a6.2]⟩ p17 (by rw [p18, e2]; decide) p19 (fun _ => p21) (by rw [p22, k22]) (fun e => by rw [e2] at e; exact absurd e (by decide))) (len - st) st 0 R6 (by omega) (Nat.le_refl _) (GF.refl _) rfl k17 k19 k21 rfl en ?_
        congr 1
        omega
      · have e1 : kdE f len st = 1 := by have := gp_y rfl z; rw [b1, decide_eq_true_eq] at this; exact this
        have en : rnB f len 1 (len - st) st = nxF f len st := by
          rw [nxF, if_pos (Or.inl e1), e1, show len - st = (len - min (st + 1) len) + 1 by omega, rnB, if_pos e1]
          congr 1
          omega
        refine gw_run XX hg hd hR hT6 (fun R7 a7 p23 p17 p18 p19 p21 p22 => go_end XX hg hd hR (by omega) ⟨fun k hk => by rw [a7.1 k hk, a6.1 k hk], fun c => by rw [a7.2, a6.2]⟩ p17 (by rw [p18, e1]; decide) p19 (fun e => by rw [e1] at e; exact absurd e (by decide)) (by rw [p22, k22]) (fun _ => p23)) (len - st) st 0 R6 (by omega) (Nat.le_refl _) (GF.refl _) k23 k17 k19 rfl rfl en ?_
        congr 1
        omega
    · have y' : ¬ st < len := fun e => y ((nI_ltI (by omega) (by omega)).mpr e)
      have e0 : kdE f len st = 0 := by rw [kdE, if_neg y']
      have en : nxF f len st = st := by rw [nxF, e0, if_neg (by decide)]; omega
      rw [hR.pp]
      refine go_end XX hg hd hR (by omega) (a6.i (by omega) (by omega)) (by rw [ri_sIn (by decide), k17, en]) (by rw [ri_sI, e0]; decide) (by rw [ri_sIn (by decide), k19]) (fun e => by rw [e0] at e; exact absurd e (by decide)) (by rw [ri_sIn (by decide), k22]) (fun e => by rw [e0] at e; exact absurd e (by decide))
  have bl : ∀ (j k : Nat) (R2 : RefV), k + j = len → GF R R2 → ri R2 17 = nI k → skB f len j k = st → VB g K 2 d 0 0 (fun v h2 => v = none ∧ ∃ R', h2 = pR h B R' ∧ TkQ f len st R R') noT 0 0 0 [some (.ref B), none] [] (pR h B R2) := by
    intro j
    induction j with
    | zero =>
      intro k R2 hk a2 g17 he
      have he' : k = st := he
      have r2 := hR.put R2
      have hT2 := hT.gf a2
      refine b_X12_goes_0 hg (by omega) k00 XX _ _ ⟨_, by rw [r2.i17, g17], _, by rw [r2.i16, hT2.2.1], fun _ => tok R2 a2 (by rw [g17, he']), fun y => absurd (nle_nI (by omega) (by omega) y) (by omega)⟩
    | succ j ih =>
      intro k R2 hk a2 g17 he
      have r2 := hR.put R2
      have hT2 := hT.gf a2
      rw [skB] at he
      have b4 := (btA_k (k := k) hT2).2.2.2
      have nx : kdE f len k = 4 → VB g K 2 d 0 0 (fun v h2 => v = none ∧ ∃ R', h2 = pR h B R' ∧ TkQ f len st R R') noT 0 0 37 [some (.ref B), none] [] (pR h B R2) := by
        intro y
        rw [if_pos y] at he
        refine b_X12_goes_37 hg (by omega) k00 XX _ _ ⟨_, by rw [r2.i17, g17], ?_⟩
        rw [nI_s]
        refine ⟨_, r2.w17 _, ?_⟩
        rw [hR.pp]
        exact ih (k + 1) _ (by omega) (a2.i (by omega) (by omega)) ri_sI he
      refine b_X12_goes_0 hg (by omega) k00 XX _ _ ⟨_, by rw [r2.i17, g17], _, by rw [r2.i16, hT2.2.1], fun y => absurd (le_nI (by omega) (by omega) y) (by omega), fun _ => ⟨_, by rw [r2.i17, g17], _, r2.o, use_i (d_byteAt (d := d - 1) hg (by omega) r2 hT2 (by omega)) (by omega) k00 ⟨fun z => nx ?_, fun z => ⟨_, by rw [r2.i17, g17], _, r2.o, use_i (d_byteAt (d := d - 1) hg (by omega) r2 hT2 (by omega)) (by omega) k00 ⟨fun z2 => ?_, fun z2 => nx ?_⟩⟩⟩⟩⟩
      · rw [blB, decide_eq_true z, Bool.true_or] at b4; exact of_decide_eq_true b4.symm
      · rw [blB, decide_eq_false z, decide_eq_false z2] at b4
        rw [if_neg (of_decide_eq_false b4.symm)] at he
        exact tok R2 a2 (by rw [g17, he])
      · rw [blB, decide_eq_true z2, Bool.or_true] at b4; exact of_decide_eq_true b4.symm
  have := bl (len - n0) n0 R (by omega) (GF.refl _) e17 eS
  rw [hR.id] at this
  exact this
end RGT
