/-! THE REFERENCE: ring, from its end -/
section RR9
variable {g : GG} {K : KX} {h : Hp} {B d i j N : Nat} {R R0 R1 : RefV} {Pr : Option Value → Hp → Prop}
theorem rg_312 (XX : CB g K cX12_ring 3 yX12_ring (some .int) []) (hg : GOK g) (hd : 8 ≤ d) (hR : RA h B R0) (fin : ∀ f, (∀ k, k < 49 → f k = if N + 13 ≤ k ∧ k < 16 then 50 else ra R1 14 k) → Pr (some (.int 0)) (pR h B (sI (sI (sI (sA R1 14 f) 42 0) 51 0) 57 0))) :
    ∀ (j i : Nat) (f : AF), N ≤ i → i ≤ 12 → 3 ≤ i + j → (i ≤ 3 ∨ i = N) → (∀ k, k < 49 → f k = if N + 13 ≤ k ∧ k < 13 + i then 50 else ra R1 14 k) → VB g K 3 d 0 0 Pr noT 0 0 312 [some (.ref B), none, some (.int (nI i))] [] (pR h B (sA R1 14 f)) := by
  have end_ : ∀ (i : Nat) (f : AF), N ≤ i → i ≤ 12 → 3 ≤ i → (i ≤ 3 ∨ i = N) → (∀ k, k < 49 → f k = if N + 13 ≤ k ∧ k < 13 + i then 50 else ra R1 14 k) → VB g K 3 d 0 0 Pr noT 0 0 312 [some (.ref B), none, some (.int (nI i))] [] (pR h B (sA R1 14 f)) := by
    intro i f h1 h2 h3 h4 hf
    refine b_X12_ring_312 hg (by omega) k00 XX _ _ _ ⟨fun _ => ⟨_, (hR.put _).w42 0, ?_⟩, fun y => absurd (nI_le (a := 3) h3 (by omega)) y⟩
    rw [hR.pp]
    refine ⟨_, (hR.put _).w51 0, ?_⟩
    rw [hR.pp]
    refine ⟨Or.inl rfl, _, (hR.put _).w57 0, ?_⟩
    rw [hR.pp]
    refine fin f fun k hk => ?_
    rw [hf k hk]
    by_cases y : N + 13 ≤ k ∧ k < 16
    · rw [if_pos y, if_pos (by omega)]
    · rw [if_neg y, if_neg (by omega)]
  intro j
  induction j with
  | zero => intro i f h1 h2 h3 h4 hf; exact end_ i f h1 h2 h3 h4 hf
  | succ j ih =>
    intro i f h1 h2 h3 h4 hf
    by_cases y : 3 ≤ i
    · exact end_ i f h1 h2 y h4 hf
    · have hu : uI (pR h B (sA R1 14 f)) 0 (B + 14) ((13 : Int32) + nI i) 50 = some (pR (pR h B (sA R1 14 f)) B (sA (sA R1 14 f) 14 (upd (ra (sA R1 14 f) 14) (13 + i) 50))) := by
        rw [show (13 : Int32) + nI i = nI (13 + i) from nI_add 13 i]
        exact (hR.put _).u14 (by omega)
      refine b_X12_ring_312 hg (by omega) k00 XX _ _ _ ⟨fun z => absurd (le_nI (x := 3) (by omega) (by omega) z) y, fun _ => ⟨_, (hR.put _).n40, _, hu, ?_⟩⟩
      · rw [hR.pp, nI_s]
        have e : sA (sA R1 14 f) 14 (upd (ra (sA R1 14 f) 14) (13 + i) 50) = sA R1 14 (upd f (13 + i) 50) := by rw [ra_sA, sA_sA]
        rw [e]
        refine ih (i + 1) _ (by omega) (by omega) (by omega) (by omega) fun k hk => ?_
        by_cases ek : k = 13 + i
        · subst ek; rw [pk_us, if_pos (by omega)]
        · rw [pk_un ek, hf k hk]
          by_cases z : N + 13 ≤ k ∧ k < 13 + i
          · rw [if_pos z, if_pos (by omega)]
          · rw [if_neg z, if_neg (by omega)]
theorem rg_283 (XX : CB g K cX12_ring 3 yX12_ring (some .int) []) (hg : GOK g) (hd : 8 ≤ d) (hR : RA h B R0) (hN : N ≤ 12) (e24 : ri R1 24 = nI N) (fin : ∀ f, (∀ k, k < 49 → f k = if N + 13 ≤ k ∧ k < 16 then 50 else ra R1 10 k) → Pr (some (.int 0)) (pR h B (sI (sI (sI (sA R1 14 f) 42 0) 51 0) 57 0))) :
    ∀ (j i : Nat) (f : AF), i + j = 49 → (∀ k, k < i → f k = ra R1 10 k) → VB g K 3 d 0 0 Pr noT 0 0 283 [some (.ref B), none, some (.int (nI i))] [] (pR h B (sA R1 14 f)) := by
  intro j
  induction j with
  | zero =>
    intro i f hi hf
    refine b_X12_ring_283 hg (by omega) k00 XX _ _ _ ⟨fun _ => ⟨nI N, ?_, ?_⟩, fun y => absurd (nI_le (a := 49) (b := i) (by omega) (by omega)) y⟩
    · rw [(hR.put _).i24]
      exact congrArg some e24
    · have e : sA R1 14 f = sA (sA R1 14 f) 14 f := by rw [sA_sA]
      rw [e]
      refine rg_312 (R1 := sA R1 14 f) (N := N) XX hg hd hR (fun f2 h2 => ?_) 3 N f (Nat.le_refl _) hN (by omega) (Or.inr rfl) (fun k hk => ?_)
      · rw [sA_sA]
        refine fin f2 fun k hk => ?_
        rw [h2 k hk, ra_sA, hf k (by omega)]
      · rw [if_neg (by omega), ra_sA]
  | succ j ih =>
    intro i f hi hf
    refine b_X12_ring_283 hg (by omega) k00 XX _ _ _ ⟨fun y => absurd (le_nI (x := 49) (by omega) (by omega) y) (by omega), fun _ => ⟨_, (hR.put _).n40, _, (hR.put _).n36, _, (hR.put _).r10 (by omega), _, (hR.put _).u14 (by omega), ?_⟩⟩
    rw [hR.pp, nI_s]
    have e : sA (sA R1 14 f) 14 (upd (ra (sA R1 14 f) 14) i (ra (sA R1 14 f) 10 i)) = sA R1 14 (upd f i (ra R1 10 i)) := by rw [ra_sA, sA_sA, ra_sAn (by decide)]
    rw [e]
    refine ih (i + 1) _ (by omega) fun k hk => ?_
    by_cases ek : k = i
    · subst ek; rw [pk_us]
    · rw [pk_un ek]; exact hf k (by omega)
theorem rg_214 (XX : CB g K cX12_ring 3 yX12_ring (some .int) []) (hg : GOK g) (hd : 9 ≤ d) (hR : RA h B R0) (hN : N ≤ 12) {R5 : RefV} (e24 : ri R 24 = nI N) (fin : ∀ R', RgN N R R' → ri R' 0 = ri R 0 → Pr (some (.int 0)) (pR h B R')) (v : Int32) (ev : v = if ri R 27 = -1 then 7 else ri R 27) (e1 : ri R5 1 = nI (n3 N) ∧ ri R5 2 = ri R 25 ∧ ri R5 3 = ri R 26) (e2 : ∀ k, k = 0 ∨ 3 < k → ri R5 k = ri R k) (e3 : ∀ c, ra R5 c = ra R c) : VB g K 3 d 0 0 Pr noT 0 0 214 [some (.ref B), none, none] [.int v, .ref B] (pR h B R5) := by
  refine b_X12_ring_214 hg (by omega) k00 XX _ _ _ _ ⟨_, (hR.put _).w4 v, ?_⟩
  rw [hR.pp]
  refine ⟨_, (hR.put _).i28, _, (hR.put _).w5 _, ?_⟩
  rw [hR.pp]
  refine ⟨_, (hR.put _).i29, _, (hR.put _).w6 _, ?_⟩
  rw [hR.pp]
  obtain ⟨R6, eR6⟩ : ∃ R6, R6 = sI (sI (sI R5 4 v) 5 (ri (sI R5 4 v) 28)) 6 (ri (sI (sI R5 4 v) 5 (ri (sI R5 4 v) 28)) 29) := ⟨_, rfl⟩
  have k1 : ri R6 1 = nI (n3 N) ∧ ri R6 2 = ri R 25 ∧ ri R6 3 = ri R 26 ∧ ri R6 4 = (if ri R 27 = -1 then 7 else ri R 27) ∧ ri R6 5 = ri R 28 ∧ ri R6 6 = ri R 29 := by
    rw [eR6]
    simp only [ri_sI, ri_sIn (show (1 : Nat) ≠ 6 by decide), ri_sIn (show (1 : Nat) ≠ 5 by decide), ri_sIn (show (1 : Nat) ≠ 4 by decide), ri_sIn (show (2 : Nat) ≠ 6 by decide), ri_sIn (show (2 : Nat) ≠ 5 by decide), ri_sIn (show (2 : Nat) ≠ 4 by decide), ri_sIn (show (3 : Nat) ≠ 6 by decide), ri_sIn (show (3 : Nat) ≠ 5 by decide), ri_sIn (show (3 : Nat) ≠ 4 by decide), ri_sIn (show (4 : Nat) ≠ 6 by decide), ri_sIn (show (4 : Nat) ≠ 5 by decide), ri_sIn (show (5 : Nat) ≠ 6 by decide), ri_sIn (show (28 : Nat) ≠ 4 by decide), ri_sIn (show (29 : Nat) ≠ 4 by decide), ri_sIn (show (29 : Nat) ≠ 5 by decide)]
    exact ⟨e1.1, e1.2.1, e1.2.2, ev, e2 28 (by omega), e2 29 (by omega)⟩
  have k2 : ∀ k, k = 0 ∨ 6 < k → ri R6 k = ri R k := fun k hk => by
    rw [eR6, ri_sIn (by omega), ri_sIn (by omega), ri_sIn (by omega)]
    exact e2 k (by omega)
  have k3 : ∀ c, ra R6 c = ra R c := fun c => by rw [eR6]; exact e3 c
  rw [← eR6]
  clear eR6 e1 e2 e3 ev
  refine ⟨_, (hR.put _).n33, _, (hR.put _).n7, _, (hR.put _).o, use_v (d_copies (c1 := 6) (c2 := 0) (n := 6) (d := d - 1) hg (by omega) (hR.put _) (by decide) rfl (by decide) rfl (by decide) (by decide)) (by omega) k00 ?_⟩
  rintro h1 ⟨f1, q1, p1⟩
  rw [q1, hR.pp]
  refine ⟨_, (hR.put _).n34, _, (hR.put _).n8, _, (hR.put _).o, use_v (d_copies (c1 := 7) (c2 := 1) (n := 8) (d := d - 1) hg (by omega) (hR.put _) (by decide) rfl (by decide) rfl (by decide) (by decide)) (by omega) k00 ?_⟩
  rintro h2 ⟨f2, q2, p2⟩
  rw [q2, hR.pp]
  refine ⟨_, (hR.put _).n35, _, (hR.put _).n9, _, (hR.put _).o, use_v (d_copies (c1 := 8) (c2 := 2) (n := 8) (d := d - 1) hg (by omega) (hR.put _) (by decide) rfl (by decide) rfl (by decide) (by decide)) (by omega) k00 ?_⟩
  rintro h3 ⟨f3, q3, p3⟩
  rw [q3, hR.pp]
  refine ⟨_, (hR.put _).n37, _, (hR.put _).n10, _, (hR.put _).o, use_v (d_copies (c1 := 10) (c2 := 3) (n := 1400) (d := d - 1) hg (by omega) (hR.put _) (by decide) rfl (by decide) rfl (by decide) (by decide)) (by omega) k00 ?_⟩
  rintro h4 ⟨f4, q4, p4⟩
  rw [q4, hR.pp]
  have c1 : ∀ k, k < 6 → f1 k = ra R 7 k := fun k hk => by rw [p1 k hk, k3]
  have c2 : ∀ k, k < 8 → f2 k = ra R 8 k := fun k hk => by rw [p2 k hk, ra_sAn (by decide), k3]
  have c3 : ∀ k, k < 8 → f3 k = ra R 9 k := fun k hk => by rw [p3 k hk, ra_sAn (by decide), ra_sAn (by decide), k3]
  have c4 : ∀ k, k < 1400 → f4 k = ra R 11 k := fun k hk => by rw [p4 k hk, ra_sAn (by decide), ra_sAn (by decide), ra_sAn (by decide), k3]
  clear p1 p2 p3 p4 q1 q2 q3 q4
  obtain ⟨R7, eR7⟩ : ∃ R7, R7 = sA (sA (sA (sA R6 (0 + 1) f1) (1 + 1) f2) (2 + 1) f3) (3 + 1) f4 := ⟨_, rfl⟩
  have i7 : ∀ k, ri R7 k = ri R6 k := fun k => by rw [eR7]; rfl
  have a1 : ra R7 1 = f1 := by rw [eR7, ra_sAn (by decide), ra_sAn (by decide), ra_sAn (by decide), ra_sA]
  have a2 : ra R7 2 = f2 := by rw [eR7, ra_sAn (by decide), ra_sAn (by decide), ra_sA]
  have a3 : ra R7 3 = f3 := by rw [eR7, ra_sAn (by decide), ra_sA]
  have a4 : ra R7 4 = f4 := by rw [eR7, ra_sA]
  have a5 : ∀ c, 4 < c → ra R7 c = ra R c := fun c hc => by rw [eR7, ra_sAn (by omega), ra_sAn (by omega), ra_sAn (by omega), ra_sAn (by omega), k3]
  rw [← eR7]
  clear eR7
  have := rg_283 (d := d) (h := h) (B := B) (R0 := R0) (N := N) (R1 := R7) (Pr := Pr) XX hg (by omega) hR hN (by rw [i7, k2 24 (by omega), e24]) (fun f hf => ?_) 49 0 (ra R7 14) rfl (fun k hk => absurd hk (Nat.not_lt_zero _))
  · rw [sA_id] at this
    exact this
  · refine fin _ ⟨?_, ?_, ?_, ?_, ?_, ?_, ?_⟩ ?_
    · rw [ri_sIn (by decide), ri_sIn (by decide), ri_sIn (by decide), ri_sIn (by decide), ri_sIn (by decide), ri_sIn (by decide), ri_sIn (by decide), ri_sIn (by decide), ri_sIn (by decide), ri_sIn (by decide), ri_sIn (by decide), ri_sIn (by decide), ri_sIn (by decide), ri_sIn (by decide), ri_sIn (by decide), ri_sIn (by decide), ri_sIn (by decide), ri_sIn (by decide)]
      show ri R7 1 = _ ∧ ri R7 2 = _ ∧ ri R7 3 = _ ∧ ri R7 4 = _ ∧ ri R7 5 = _ ∧ ri R7 6 = _
      rw [i7, i7, i7, i7, i7, i7]
      exact k1
    · refine ⟨by rw [ri_sIn (by decide), ri_sIn (by decide), ri_sI], by rw [ri_sIn (by decide), ri_sI], by rw [ri_sI], ?_, ?_, ?_, ?_⟩
      · rw [ri_sIn (by decide), ri_sIn (by decide), ri_sIn (by decide)]
        show ri R7 12 = _
        rw [i7, k2 12 (by omega)]
      · rw [ri_sIn (by decide), ri_sIn (by decide), ri_sIn (by decide)]
        show ri R7 14 = _
        rw [i7, k2 14 (by omega)]
      · show ra (sA R7 14 f) 5 = _
        rw [ra_sAn (by decide), a5 5 (by omega)]
      · show ra (sA R7 14 f) 6 = _
        rw [ra_sAn (by decide), a5 6 (by omega)]
    · intro k hk
      show ra (sA R7 14 f) 1 k = _
      rw [ra_sAn (by decide), a1]; exact c1 k hk
    · intro k hk
      show ra (sA R7 14 f) 2 k = _
      rw [ra_sAn (by decide), a2]; exact c2 k hk
    · intro k hk
      show ra (sA R7 14 f) 3 k = _
      rw [ra_sAn (by decide), a3]; exact c3 k hk
    · intro k hk
      show ra (sA R7 14 f) 4 k = _
      rw [ra_sAn (by decide), a4]; exact c4 k hk
    · intro k hk
      show ra (sA R7 14 f) 14 k = _
      rw [ra_sA, hf k hk, a5 10 (by omega)]
    · rw [ri_sIn (by decide), ri_sIn (by decide), ri_sIn (by decide)]
      show ri R7 0 = _
      rw [i7, k2 0 (by omega)]
theorem rg_ok (XX : CB g K cX12_ring 3 yX12_ring (some .int) []) (hg : GOK g) (hd : 9 ≤ d) (hR : RA h B R0) (hN : N ≤ 12) (e13 : ri R 13 = 0) (e24 : ri R 24 = nI N) (fin : ∀ R', RgN N R R' → ri R' 0 = ri R 0 → Pr (some (.int 0)) (pR h B R')) : VB g K 3 d 0 0 Pr noT 0 0 138 [some (.ref B), none, none] [] (pR h B R) := by
  have r1 := hR.put R
  have k177 : ∀ v, v = nI (n3 N) → VB g K 3 d 0 0 Pr noT 0 0 177 [some (.ref B), none, none] [.int v, .ref B] (pR h B R) := by
    intro v ev
    refine b_X12_ring_177 hg (by omega) k00 XX _ _ _ _ ⟨_, r1.w1 v, ?_⟩
    rw [hR.pp]
    refine ⟨_, (hR.put _).i25, _, (hR.put _).w2 _, ?_⟩
    rw [hR.pp]
    refine ⟨_, (hR.put _).i26, _, (hR.put _).w3 _, ?_⟩
    rw [hR.pp]
    obtain ⟨R5, eR5⟩ : ∃ R5, R5 = sI (sI (sI R 1 v) 2 (ri (sI R 1 v) 25)) 3 (ri (sI (sI R 1 v) 2 (ri (sI R 1 v) 25)) 26) := ⟨_, rfl⟩
    have k1 : ri R5 1 = nI (n3 N) ∧ ri R5 2 = ri R 25 ∧ ri R5 3 = ri R 26 := by
      rw [eR5]
      refine ⟨by rw [ri_sIn (by decide), ri_sIn (by decide), ri_sI, ev], by rw [ri_sIn (by decide), ri_sI, ri_sIn (by decide)], by rw [ri_sI, ri_sIn (by decide), ri_sIn (by decide)]⟩
    have k2 : ∀ k, k = 0 ∨ 3 < k → ri R5 k = ri R k := fun k hk => by rw [eR5, ri_sIn (by omega), ri_sIn (by omega), ri_sIn (by omega)]
    have k3 : ∀ c, ra R5 c = ra R c := fun c => by rw [eR5]; rfl
    rw [← eR5]
    clear eR5
    refine ⟨_, (hR.put _).i27, fun y => ⟨_, (hR.put _).i27, ?_⟩, fun y => ?_⟩
    · rw [k2 27 (by omega)] at y ⊢
      exact rg_214 XX hg hd hR hN e24 fin _ (by rw [if_neg y]) k1 k2 k3
    · rw [k2 27 (by omega)] at y
      exact rg_214 XX hg hd hR hN e24 fin _ (by rw [if_pos y]) k1 k2 k3
  refine b_X12_ring_138 hg (by omega) k00 XX _ _ ⟨_, r1.o, u_good hg r1 (by omega) k00 (fun _ => ⟨fun _ => ⟨nI N, by rw [r1.i24, e24], fun y => ⟨nI N, by rw [r1.i24, e24], k177 _ ?_⟩, fun y => k177 _ ?_⟩, fun z => absurd z (by decide)⟩) (fun y => absurd e13 y)⟩
  · have : 3 ≤ N := le_nI (x := 3) (by omega) (by omega) y
    unfold n3
    rw [if_neg (by omega)]
  · have : ¬ 3 ≤ N := fun z => y (nI_le (a := 3) z (by omega))
    unfold n3
    rw [if_pos (by omega)]
    rfl
theorem rg_bad (XX : CB g K cX12_ring 3 yX12_ring (some .int) []) (hg : GOK g) (hd : 9 ≤ d) (hR : RA h B R0) (e13 : ¬ ri R 13 = 0) (fin : Pr (some (.int (ri R 13))) (pR h B (sA R 6 (upd (ra R 6) 0 (ra R 6 0 + 1))))) : VB g K 3 d 0 0 Pr noT 0 0 138 [some (.ref B), none, none] [] (pR h B R) := by
  have r1 := hR.put R
  refine b_X12_ring_138 hg (by omega) k00 XX _ _ ⟨_, r1.o, u_good hg r1 (by omega) k00 (fun y => absurd y e13) (fun _ => ⟨fun z => absurd rfl z, fun _ => ⟨_, r1.n15, _, r1.r6 (k := 0) (by decide), _, r1.u6 (k := 0) (by decide), ?_⟩⟩)⟩
  rw [hR.pp]
  exact ⟨_, (hR.put _).i13, fin⟩
/-- what the reading leaves alone -/
def KP (R1 R : RefV) : Prop := (∀ k, [0, 1, 2, 3, 4, 5, 6, 42, 51, 57, 58, 59].contains k = true → ri R k = ri R1 k) ∧ ∀ c, (c < 7 ∨ 13 < c) → ra R c = ra R1 c
theorem KP.trans {R2 : RefV} (a : KP R0 R1) (b : KP R1 R2) : KP R0 R2 := ⟨fun k hk => (b.1 k hk).trans (a.1 k hk), fun c hc => (b.2 c hc).trans (a.2 c hc)⟩
theorem KP.ii {k : Nat} {v : Int32} (a : KP R0 R1) (hk : [0, 1, 2, 3, 4, 5, 6, 42, 51, 57, 58, 59].contains k = false) : KP R0 (sI R1 k v) := ⟨fun j hj => by rw [ri_sIn (fun e => by rw [e, hk] at hj; exact absurd hj (by decide))]; exact a.1 j hj, a.2⟩
theorem KP.nf (a : NF R0 R1) : KP R0 R1 := ⟨fun k hk => a.1 k (by
  cases e : nkB k with
  | false => rfl
  | true =>
    simp only [nkB, List.contains_cons, List.contains_nil, Bool.or_eq_true, beq_iff_eq, Bool.or_false] at e hk
    omega), a.2⟩
theorem KP.gf (a : GF R0 R1) : KP R0 R1 := ⟨fun k hk => a.1 k (by
    simp only [List.contains_cons, List.contains_nil, Bool.or_eq_true, beq_iff_eq, Bool.or_false] at hk
    omega), fun c _ => a.2 c⟩
theorem KP.rsE {s : CoreV} {e : Int32 × Nat} (hS : RS s R0) (a : KP R0 R1) (e12 : ri R1 12 = 0) (e14 : ri R1 14 = nI e.2) : RS (rgE s e) (sA R1 6 (upd (ra R1 6) 0 (ra R1 6 0 + 1))) := by
  obtain ⟨a1, a2⟩ := a
  have n6 : ∀ c, c ≠ 6 → (c < 7 ∨ 13 < c) → ra (sA R1 6 (upd (ra R1 6) 0 (ra R1 6 0 + 1))) c = ra R0 c := fun c h1 h2 => by rw [ra_sAn h1]; exact a2 c h2
  have ii : ∀ k, [0, 1, 2, 3, 4, 5, 6, 42, 51, 57, 58, 59].contains k = true → ri (sA R1 6 (upd (ra R1 6) 0 (ra R1 6 0 + 1))) k = ri R0 k := a1
  refine ⟨?_, ?_, ⟨e12, ?_⟩, e14, ?_, ?_, ?_, ?_, ?_, ?_⟩
  · have := hS.tr
    unfold TR at this ⊢
    rw [ii 1 rfl, ii 2 rfl, ii 4 rfl, ii 5 rfl, ii 6 rfl, n6 1 (by decide) (by decide), n6 4 (by decide) (by decide)]
    exact this
  · have := hS.kn
    unfold KnR at this ⊢
    rw [ii 3 rfl, n6 2 (by decide) (by decide), n6 3 (by decide) (by decide)]
    exact this
  · rw [n6 5 (by decide) (by decide)]; exact hS.tp.2
  · rw [ra_sA, pk_us, pk_un (by decide), pk_un (by decide), a2 6 (by decide), hS.rf.1]
    exact ⟨rfl, hS.rf.2⟩
  · rw [n6 14 (by decide) (by decide)]; exact hS.le
  · rw [ii 42 rfl, n6 15 (by decide) (by decide)]; exact hS.pa
  · rw [ii 51 rfl, n6 24 (by decide) (by decide)]; exact hS.se
  · rw [ii 57 rfl]; exact hS.hi
  · intro z
    have := hS.im z
    unfold ImR at this ⊢
    rw [ii 58 rfl, ii 59 rfl, n6 28 (by decide) (by decide), n6 29 (by decide) (by decide), n6 30 (by decide) (by decide)]
    exact this
/-- the lines -/
theorem rg_117 (XX : CB g K cX12_ring 3 yX12_ring (some .int) []) (hg : GOK g) (hd : 24 ≤ d) (hR : RA h B R0) {f : AF} {len : Nat} (p : LR) (bad : ∀ e R', p = .inr e → FtL R0 e R' → Pr (some (.int e.1)) (pR h B (sA R' 6 (upd (ra R' 6) 0 (ra R' 6 0 + 1))))) (good : ∀ st T L xF xP out R1 R', p = .inl (st, T, L) → DR f len R0 st T L xF xP out R1 → RgN (tN_ T) R1 R' → ri R' 0 = ri R1 0 → Pr (some (.int 0)) (pR h B R')) :
    ∀ (k st : Nat) (T : ToldV) (L : LandV) (xF xP : RuX) (out : List Int32) (R : RefV), len + 1 ≤ st + k → txP f len k st T L = p → DR f len R0 st T L xF xP out R → VB g K 3 d 0 0 Pr noT 0 0 117 [some (.ref B), none, none] [] (pR h B R) := by
  intro k
  induction k with
  | zero =>
    intro st T L xF xP out R hk _ q
    have := q.1.1.2.2.2.2.2.2.1
    omega
  | succ k ih =>
    intro st T L xF xP out R hk hp q
    have r1 := hR.put R
    have q0 := q
    obtain ⟨di, dg, db, ol⟩ := q
    have e13 : ri R 13 = 0 := dg.2.2.2.1
    have e18 : ri R 18 = (if kdE f len st = 5 then 4 else kdE f len st) := dg.2.2.1.2.2.1
    rw [txP] at hp
    refine b_X12_ring_117 hg (by omega) k00 XX _ _ ⟨_, r1.o, u_good hg r1 (by omega) k00 (fun _ => ⟨fun z => absurd z (by decide), fun _ => ⟨_, r1.i18, fun y => ?_, fun y => ?_⟩⟩) (fun y => absurd e13 y)⟩
    · rw [e18, srt (by decide)] at y
      rw [if_pos y] at hp
      exact rg_ok XX hg (by omega) hR di.1.1 e13 db.1.1 fun R' n1 n2 => good st T L xF xP out R R' hp.symm q0 n1 n2
    · rw [e18, srt (by decide)] at y
      rw [if_neg y] at hp
      have dx := ln_di (f := f) di y
      refine ⟨_, r1.o, d - 1, _, _, 0, 0, d_line (d := d - 1) hg (by omega) hR q0, ⟨by omega, by omega, by omega⟩, fun _ _ z => z.elim, fun v h2 l => ⟨l.1, ?_⟩⟩
      obtain ⟨_, R', e, x⟩ := l
      rw [e]
      cases hl : lnA f len st (mOf T) (nOf T) T L with
      | inl z =>
        rw [hl] at x dx hp
        obtain ⟨yF, yP, out', q'⟩ := x
        exact ih z.1 z.2.1 z.2.2 yF yP out' R' (by have := dx.2; omega) hp q'
      | inr e =>
        rw [hl] at x hp
        have x : FtL R0 e R' := x
        have r2 := hR.put R'
        have n13 : ¬ ri R' 13 = 0 := by rw [x.2.1]; exact x.2.2.1
        have b := bad e R' hp.symm x
        rw [← x.2.1] at b
        exact b_X12_ring_117 hg (by omega) k00 XX _ _ ⟨_, r2.o, u_good hg r2 (by omega) k00 (fun y => absurd y n13) (fun _ => ⟨fun _ => rg_bad XX hg (by omega) hR n13 b, fun z => absurd rfl z⟩)⟩
theorem KP.aa {c : Nat} {f : AF} (a : KP R0 R1) (h1 : 7 ≤ c) (h2 : c ≤ 13) : KP R0 (sA R1 c f) := ⟨a.1, fun j hj => by rw [ra_sAn (by omega)]; exact a.2 j hj⟩
theorem KP.refl (R : RefV) : KP R R := ⟨fun _ _ => rfl, fun _ _ => rfl⟩
/-- the row of what is new emptied; the first token -/
theorem rg_89 (XX : CB g K cX12_ring 3 yX12_ring (some .int) []) (hg : GOK g) (hd : 24 ≤ d) (hR : RA h B R0) {f : AF} {len : Nat} (l7 : len ≤ 700) (e16 : ri R 16 = nI len) (e17 : ri R 17 = 0) (e5 : ∀ k, k < 700 → ra R 5 k = f k &&& 255) (bt : BtOK f) (fin : ∀ R4, KP R R4 → (∀ k, k < 17 ∨ (22 < k ∧ k ≠ 30) → ri R4 k = ri R k) → ri R4 30 = 0 → (∀ k, k < 49 → ra R4 10 k = 0) → TpR f len R4 → TkR f len (stF f len 0) R4 → VB g K 3 d 0 0 Pr noT 0 0 117 [some (.ref B), none, none] [] (pR h B R4)) :
    ∀ (j i : Nat) (z : AF), i + j = 49 → (∀ k, k < i → z k = 0) → VB g K 3 d 0 0 Pr noT 0 0 89 [some (.ref B), none, some (.int (nI i))] [] (pR h B (sA R 10 z)) := by
  intro j
  induction j with
  | zero =>
    intro i z hi hz
    refine b_X12_ring_89 hg (by omega) k00 XX _ _ _ ⟨fun _ => ⟨_, (hR.put _).w30 0, ?_⟩, fun y => absurd (nI_le (a := 49) (b := i) (by omega) (by omega)) y⟩
    rw [hR.pp]
    have r3 := hR.put (sI (sA R 10 z) 30 0)
    have tp : TpR f len (sI (sA R 10 z) 30 0) := ⟨l7, by rw [ri_sIn (by decide)]; exact e16, fun k hk => by show ra (sA R 10 z) 5 k = _; rw [ra_sAn (by decide)]; exact e5 k hk, bt⟩
    refine ⟨_, r3.o, use_vR (d_goes (d := d - 1) (n0 := 0) hg (by omega) r3 tp (by omega) (by rw [ri_sIn (by decide)]; exact e17)) (by omega) k00 ?_⟩
    intro R4 q4
    rw [hR.pp]
    have gf := q4.1
    refine fin R4 ((((KP.refl R).aa (by omega) (by omega)).ii rfl).trans (KP.gf gf)) (fun k hk => ?_) ?_ (fun k hk => ?_) (tp.gf gf) (TkQ.r (stF_le (by omega)).2 q4).2
    · rw [gf.1 k (by omega), ri_sIn (by omega)]; rfl
    · rw [gf.1 30 (by omega), ri_sI]
    · rw [gf.2]
      show ra (sA R 10 z) 10 k = 0
      rw [ra_sA]
      exact hz k (by omega)
  | succ j ih =>
    intro i z hi hz
    refine b_X12_ring_89 hg (by omega) k00 XX _ _ _ ⟨fun y => absurd (le_nI (x := 49) (by omega) (by omega) y) (by omega), fun _ => ⟨_, (hR.put _).n36, _, (hR.put _).u10 (by omega), ?_⟩⟩
    rw [hR.pp, nI_s, ra_sA, sA_sA]
    refine ih (i + 1) _ (by omega) fun k hk => ?_
    by_cases ek : k = i
    · subst ek; rw [pk_us]
    · rw [pk_un ek]; exact hz k (by omega)
theorem r_ring {s : CoreV} (hg : GOK g) (hd : 25 ≤ d) (hR : RA h B R) (hI : IV s) (hS : RS s R) (x : ScrV) (v : Int32) : CT g d yX12_ring (wsC yX12_ring cX12_ring 3 (some .int)) [.ref B, .int v] h 0 0 (PrM h B cd1 s (m_ring s x v)) noT := by
  refine CT_ofB (by decide +kernel) (Nat.le_of_ble_eq_true rfl) rfl fun K XX => ?_
  have r1 := hR.put (sI R 0 0)
  have s1 := hS.s0 hI
  have z1 : ri (sI R 0 0) 0 = 0 := ri_sI
  refine b_X12_ring_0 hg (by omega) k00 XX _ _ _ ⟨_, hR.w0 0, ?_⟩
  generalize sI R 0 0 = R1 at *
  have no : m_ring s x v = .inr false → PrM h B cd1 s (m_ring s x v) (some (.int 0)) (pR (pR h B R1) B (sI R1 0 1)) := fun e => by
    rw [e]
    exact ⟨sI R1 0 1, hR.pp _ _, ⟨0, rfl⟩, ri_sI, s1.qf hI ((QF.refl _).i rfl)⟩
  have at23 : ∀ c : Bool, (c = false → m_ring s x v = .inr false) → (c = true → ¬ (v < 0 ∨ ¬ v ≤ nI (oTl (sO s)))) → VB g K 3 d 0 0 (PrM h B cd1 s (m_ring s x v)) noT 0 0 23 [some (.ref B), some (.int v), none] [.int (if c then 1 else 0), .ref B] (pR h B R1) := by
    intro c hc1 hc2
    refine b_X12_ring_23 hg (by omega) k00 XX _ _ _ _ _ ⟨_, r1.o, use_ck (d_right (d := d - 1) hg (by omega) r1 z1 c (w := 1) (by decide)) (by omega) k00 (fun y => ⟨fun _ => ?_, fun z => absurd z (by decide)⟩) (fun y => ⟨fun z => absurd rfl z, fun _ => no (hc1 y)⟩)⟩
    have hv := hc2 y
    have em : m_ring s x v = match rgP s x (cl v) with
      | .inr e => .inl (e.1, rgE s e)
      | .inl z => .inl (0, ringS s z.2.1 z.2.2) := by
      rw [m_ring, if_neg hv] <;> rfl
    rw [em]
    have y1 : ¬ v < 0 := fun z => hv (Or.inl z)
    have y2 : v ≤ nI (oTl (sO s)) := Classical.not_not.mp fun z => hv (Or.inr z)
    have ev := nI_cl y1
    have hb : cl v < 2 ^ 31 := by
      have := Int32.toInt_lt v
      have e : cl v = v.toInt.toNat := rfl
      omega
    generalize cl v = n at ev em hb
    rw [ev] at y2 ⊢
    have tl := hI.tl
    have hn : n ≤ 700 := by
      have := le_nI hb (by omega) y2
      omega
    clear ev y1 em no hc1 hc2 hv hb y2
    refine ⟨_, r1.w12 0, ?_⟩
    rw [hR.pp]
    refine ⟨_, (hR.put _).w14 (-1), ?_⟩
    rw [hR.pp]
    refine ⟨_, (hR.put _).w13 0, ?_⟩
    rw [hR.pp]
    refine ⟨_, (hR.put _).w16 _, ?_⟩
    rw [hR.pp]
    refine ⟨_, (hR.put _).w17 0, ?_⟩
    rw [hR.pp]
    refine ⟨_, (hR.put _).w24 0, ?_⟩
    rw [hR.pp]
    refine ⟨_, (hR.put _).w25 0, ?_⟩
    rw [hR.pp]
    refine ⟨_, (hR.put _).w26 0, ?_⟩
    rw [hR.pp]
    refine ⟨_, (hR.put _).w27 (-1), ?_⟩
    rw [hR.pp]
    refine ⟨_, (hR.put _).w28 (-1), ?_⟩
    rw [hR.pp]
    refine ⟨_, (hR.put _).w29 (-1), ?_⟩
    rw [hR.pp]
    have kp : KP R1 (sI (sI (sI (sI (sI (sI (sI (sI (sI (sI (sI R1 12 0) 14 (-1)) 13 0) 16 (nI n)) 17 0) 24 0) 25 0) 26 0) 27 (-1)) 28 (-1)) 29 (-1)) := ((((((((((((KP.refl R1).ii rfl).ii rfl).ii rfl).ii rfl).ii rfl).ii rfl).ii rfl).ii rfl).ii rfl).ii rfl).ii rfl)
    have f29 : ri (sI (sI (sI (sI (sI (sI (sI (sI (sI (sI (sI R1 12 0) 14 (-1)) 13 0) 16 (nI n)) 17 0) 24 0) 25 0) 26 0) 27 (-1)) 28 (-1)) 29 (-1)) 29 = -1 := ri_sI
    have f28 : ri (sI (sI (sI (sI (sI (sI (sI (sI (sI (sI (sI R1 12 0) 14 (-1)) 13 0) 16 (nI n)) 17 0) 24 0) 25 0) 26 0) 27 (-1)) 28 (-1)) 29 (-1)) 28 = -1 := by rw [ri_sIn (by decide), ri_sI]
    have f27 : ri (sI (sI (sI (sI (sI (sI (sI (sI (sI (sI (sI R1 12 0) 14 (-1)) 13 0) 16 (nI n)) 17 0) 24 0) 25 0) 26 0) 27 (-1)) 28 (-1)) 29 (-1)) 27 = -1 := by rw [ri_sIn (by decide), ri_sIn (by decide), ri_sI]
    have f26 : ri (sI (sI (sI (sI (sI (sI (sI (sI (sI (sI (sI R1 12 0) 14 (-1)) 13 0) 16 (nI n)) 17 0) 24 0) 25 0) 26 0) 27 (-1)) 28 (-1)) 29 (-1)) 26 = 0 := by rw [ri_sIn (by decide), ri_sIn (by decide), ri_sIn (by decide), ri_sI]
    have f25 : ri (sI (sI (sI (sI (sI (sI (sI (sI (sI (sI (sI R1 12 0) 14 (-1)) 13 0) 16 (nI n)) 17 0) 24 0) 25 0) 26 0) 27 (-1)) 28 (-1)) 29 (-1)) 25 = 0 := by rw [ri_sIn (by decide), ri_sIn (by decide), ri_sIn (by decide), ri_sIn (by decide), ri_sI]
    have f24 : ri (sI (sI (sI (sI (sI (sI (sI (sI (sI (sI (sI R1 12 0) 14 (-1)) 13 0) 16 (nI n)) 17 0) 24 0) 25 0) 26 0) 27 (-1)) 28 (-1)) 29 (-1)) 24 = 0 := by rw [ri_sIn (by decide), ri_sIn (by decide), ri_sIn (by decide), ri_sIn (by decide), ri_sIn (by decide), ri_sI]
    have f17 : ri (sI (sI (sI (sI (sI (sI (sI (sI (sI (sI (sI R1 12 0) 14 (-1)) 13 0) 16 (nI n)) 17 0) 24 0) 25 0) 26 0) 27 (-1)) 28 (-1)) 29 (-1)) 17 = 0 := by rw [ri_sIn (by decide), ri_sIn (by decide), ri_sIn (by decide), ri_sIn (by decide), ri_sIn (by decide), ri_sIn (by decide), ri_sI]
    have f16 : ri (sI (sI (sI (sI (sI (sI (sI (sI (sI (sI (sI R1 12 0) 14 (-1)) 13 0) 16 (nI n)) 17 0) 24 0) 25 0) 26 0) 27 (-1)) 28 (-1)) 29 (-1)) 16 = nI n := by rw [ri_sIn (by decide), ri_sIn (by decide), ri_sIn (by decide), ri_sIn (by decide), ri_sIn (by decide), ri_sIn (by decide), ri_sIn (by decide), ri_sI]
    have f13 : ri (sI (sI (sI (sI (sI (sI (sI (sI (sI (sI (sI R1 12 0) 14 (-1)) 13 0) 16 (nI n)) 17 0) 24 0) 25 0) 26 0) 27 (-1)) 28 (-1)) 29 (-1)) 13 = 0 := by rw [ri_sIn (by decide), ri_sIn (by decide), ri_sIn (by decide), ri_sIn (by decide), ri_sIn (by decide), ri_sIn (by decide), ri_sIn (by decide), ri_sIn (by decide), ri_sI]
    have f14 : ri (sI (sI (sI (sI (sI (sI (sI (sI (sI (sI (sI R1 12 0) 14 (-1)) 13 0) 16 (nI n)) 17 0) 24 0) 25 0) 26 0) 27 (-1)) 28 (-1)) 29 (-1)) 14 = -1 := by rw [ri_sIn (by decide), ri_sIn (by decide), ri_sIn (by decide), ri_sIn (by decide), ri_sIn (by decide), ri_sIn (by decide), ri_sIn (by decide), ri_sIn (by decide), ri_sIn (by decide), ri_sI]
    have f12 : ri (sI (sI (sI (sI (sI (sI (sI (sI (sI (sI (sI R1 12 0) 14 (-1)) 13 0) 16 (nI n)) 17 0) 24 0) 25 0) 26 0) 27 (-1)) 28 (-1)) 29 (-1)) 12 = 0 := by rw [ri_sIn (by decide), ri_sIn (by decide), ri_sIn (by decide), ri_sIn (by decide), ri_sIn (by decide), ri_sIn (by decide), ri_sIn (by decide), ri_sIn (by decide), ri_sIn (by decide), ri_sIn (by decide), ri_sI]
    generalize sI (sI (sI (sI (sI (sI (sI (sI (sI (sI (sI R1 12 0) 14 (-1)) 13 0) 16 (nI n)) 17 0) 24 0) 25 0) 26 0) 27 (-1)) 28 (-1)) 29 (-1) = R2 at *
    have e5 : ∀ k, k < 700 → ra R2 5 k = sTp s k &&& 255 := fun k hk => by rw [kp.2 5 (by decide)]; exact s1.tp.2 k hk
    have := rg_89 (d := d) (h := h) (B := B) (R0 := R) (R := R2) (Pr := PrM h B cd1 s (match rgP s x n with
      | .inr e => .inl (e.1, rgE s e)
      | .inl z => .inl (0, ringS s z.2.1 z.2.2))) XX hg (by omega) hR hn f16 f17 e5 hI.bt (fun R4 k4 i4 h30 z10 tp tk => ?_) 49 0 (ra R2 10) rfl (fun k hk => absurd hk (Nat.not_lt_zero _))
    · rw [sA_id] at this
      exact this
    have r4 := hR.put R4
    have kp4 := kp.trans k4
    rw [← hR.pp R4 R4]
    have di : DI n (stF (sTp s) n 0) (clT (xD x)) (sDay (xTr x) 0) none none := DI_0 (stF_le (by omega)).2 hn
    refine rg_117 XX hg (by omega) r4 (rgP s x n) (fun e R' ep ft => ?_) (fun st T L xF xP out R3 R' ep q n1 n2 => ?_) (n + 1) (stF (sTp s) n 0) (clT (xD x)) (sDay (xTr x) 0) none none [] R4 (by omega) rfl ⟨di, ⟨NF.refl _, tp, tk, ?_, rfl⟩, ⟨⟨?_, ?_, ?_, ?_⟩, ⟨?_, ?_⟩, ⟨h30, trivial⟩, fun w hw => absurd hw (Nat.not_lt_zero _), fun w hw => absurd hw (Nat.not_lt_zero _), ?_⟩, Nat.zero_le _⟩
    · rw [ep, hR.pp]
      refine ⟨_, rfl, rfl, ?_, ((kp4.trans (KP.nf ft.1)).rsE s1 ?_ ft.2.2.2)⟩
      · show ri R' 0 = 0
        rw [(kp4.trans (KP.nf ft.1)).1 0 rfl, z1]
      · rw [ft.1.1 12 rfl, i4 12 (by omega), f12]
    · rw [ep, hR.pp]
      have nf := q.2.1.1
      refine ⟨R', rfl, rfl, ?_, ?_⟩
      · rw [n2, (kp4.trans (KP.nf nf)).1 0 rfl, z1]
      · refine rs_ringS q.1 q.2.2.1 q.2.2.2 n1 ?_ ?_ ?_ ?_
        · rw [nf.1 12 rfl, i4 12 (by omega), f12]
        · rw [q.2.1.2.2.2.2, i4 14 (by omega), f14]
        · intro k hk
          rw [(kp4.trans (KP.nf nf)).2 5 (by decide)]; exact s1.tp.2 k hk
        · rw [(kp4.trans (KP.nf nf)).2 6 (by decide)]; exact s1.rf
    · rw [i4 13 (by omega), f13]
    · rw [i4 24 (by omega), f24]; rfl
    · rw [i4 25 (by omega), f25]; rfl
    · rw [i4 26 (by omega), f26]; rfl
    · rw [i4 27 (by omega), f27]; rfl
    · show ri R4 28 = -1
      rw [i4 28 (by omega), f28]
    · show ri R4 29 = -1
      rw [i4 29 (by omega), f29]
    · exact ⟨z10 0 (by omega), fun w hw => absurd hw (Nat.not_lt_zero _), fun w _ hw => ⟨z10 _ (by omega), z10 _ (by omega)⟩, fun w hw => absurd hw (Nat.not_lt_zero _)⟩
  have e12 : ri R1 12 = nI (oTl (sO s)) := s1.tp.1
  refine ⟨fun y => b_X12_ring_22 hg (by omega) k00 XX _ _ _ _ (at23 false (fun _ => by rw [m_ring, if_pos (Or.inl y)]) (fun z => by cases z)), fun y1 => ⟨_, by rw [r1.i12, e12], fun y => b_X12_ring_22 hg (by omega) k00 XX _ _ _ _ (at23 false (fun _ => by rw [m_ring, if_pos (Or.inr (Int32.not_le.mpr y))]) (fun z => by cases z)), fun y2 => at23 true (fun z => by cases z) (fun _ z => z.elim y1 fun z => y2 (Int32.not_le.mp z))⟩⟩
end RR9
