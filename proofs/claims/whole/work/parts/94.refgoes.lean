/-! THE REFERENCE: a number's run -/
/-- all as before but for the token -/
def GF (R R' : RefV) : Prop := (∀ k, k < 17 ∨ 22 < k → ri R' k = ri R k) ∧ ∀ c, ra R' c = ra R c
theorem GF.refl (R : RefV) : GF R R := ⟨fun _ _ => rfl, fun _ => rfl⟩
theorem GF.i {R R' : RefV} {k : Nat} {v : Int32} (a : GF R R') (h1 : 17 ≤ k) (h2 : k ≤ 22) : GF R (sI R' k v) := ⟨fun j hj => by rw [ri_sIn (by omega)]; exact a.1 j hj, a.2⟩
theorem TpR.gf {f : AF} {len : Nat} {R R' : RefV} (q : TpR f len R) (a : GF R R') : TpR f len R' := ⟨q.1, by rw [a.1 16 (by omega)]; exact q.2.1, fun k hk => by rw [a.2]; exact q.2.2.1 k hk, q.2.2.2⟩
theorem btA_d {f : AF} {len k : Nat} {R : RefV} (hT : TpR f len R) (h : kdE f len k = 2) : k < len ∧ btA f len k = f k := by
  obtain ⟨l7, _, _, hb⟩ := hT
  unfold kdE at h
  by_cases y : k < len
  · rw [if_pos y] at h
    obtain ⟨b1, b2⟩ := hb k (by omega)
    obtain ⟨_, _, _, _, k5, _⟩ := kd_ref b1 b2
    refine ⟨y, ?_⟩
    rw [btA, if_pos y]
    rcases k5 with e | e
    · rw [h] at e; exact absurd e (by decide)
    · exact e
  · rw [if_neg y] at h; exact absurd h (by decide)
section RGO
variable {g : GG} {h : Hp} {B d len st nx : Nat} {R R1 : RefV} {f : AF}
theorem gd_run {K : KX} (XX : CB g K cX12_goes 2 yX12_goes none []) {Pr : Option Value → Hp → Prop} {V : Int32} (hg : GOK g) (hd : 10 ≤ d) (hR : RA h B R) (hT : TpR f len R1)
    (fin : ∀ R2, GF R1 R2 → R2.2.1 = R1.2.1 → ri R2 17 = nI nx → ri R2 18 = 2 → ri R2 19 = nI st → ri R2 21 = V → ri R2 22 = ri R1 22 → VB g K 2 d 0 0 Pr noT 0 0 331 [some (.ref B), none] [] (pR h B R2)) :
    ∀ (j k : Nat) (v : Int32) (R2 : RefV), k + j = len → st ≤ k → GF R1 R2 → R2.2.1 = R1.2.1 → ri R2 17 = nI k → ri R2 19 = nI st → ri R2 21 = v → ri R2 22 = ri R1 22 → rnB f len 2 j k = nx → wvF f (min nx (st + 4) - k) k v = V → VB g K 2 d 0 0 Pr noT 0 0 187 [some (.ref B), none] [] (pR h B R2) := by
  have l7 := hT.1
  have stop : ∀ (k : Nat) (v : Int32) (R2 : RefV), k ≤ len → GF R1 R2 → R2.2.1 = R1.2.1 → ri R2 17 = nI k → ri R2 19 = nI st → ri R2 21 = v → ri R2 22 = ri R1 22 → k = nx → v = V → ¬ kdE f len k = 2 → VB g K 2 d 0 0 Pr noT 0 0 187 [some (.ref B), none] [] (pR h B R2) := by
    intro k v R2 hk a2 w2 e17 e19 e21 e22 hn hv hno
    have r2 := hR.put R2
    have hT2 := hT.gf a2
    refine b_X12_goes_187 hg (by omega) k00 XX _ _ ⟨_, by rw [r2.i17, e17], _, r2.o, use_i (d_byteAt (d := d - 1) hg (by omega) r2 hT2 (by omega)) (by omega) k00 (use_i (d_isDigit (d := d - 1) hg (by omega) _) (by omega) k00 ⟨fun _ => ⟨_, r2.w18 2, ?_⟩, fun y => ?_⟩)⟩
    · rw [hR.pp]
      refine fin _ (a2.i (by omega) (by omega)) w2 (by rw [ri_sIn (by decide), e17, hn]) ri_sI (by rw [ri_sIn (by decide), e19]) (by rw [ri_sIn (by decide), e21, hv]) (by rw [ri_sIn (by decide), e22])
    · have := gp_y rfl y
      rw [(btA_k (k := k) hT2).2.1, decide_eq_true_eq] at this
      exact absurd this hno
  intro j
  induction j with
  | zero =>
    intro k v R2 hk hs a2 w2 e17 e19 e21 e22 hn hv
    have hn' : k = nx := hn
    rw [show min nx (st + 4) - k = 0 by omega] at hv
    exact stop k v R2 (by omega) a2 w2 e17 e19 e21 e22 hn' hv (by rw [kdE, if_neg (by omega)]; decide)
  | succ j ih =>
    intro k v R2 hk hs a2 w2 e17 e19 e21 e22 hn hv
    rw [rnB] at hn
    by_cases y : kdE f len k = 2
    · rw [if_pos y] at hn
      have hnx := (rnB_r (f := f) (len := len) (kd := 2) j (k + 1)).1
      rw [hn] at hnx
      have r2 := hR.put R2
      have hT2 := hT.gf a2
      obtain ⟨_, eb⟩ := btA_d hT2 y
      have one : ∀ (v2 : Int32) (R3 : RefV), GF R1 R3 → R3.2.1 = R1.2.1 → ri R3 17 = nI k → ri R3 19 = nI st → ri R3 21 = v2 → ri R3 22 = ri R1 22 → wvF f (min nx (st + 4) - (k + 1)) (k + 1) v2 = V → VB g K 2 d 0 0 Pr noT 0 0 237 [some (.ref B), none] [] (pR h B R3) := by
        intro v2 R3 a3 w3 g17 g19 g21 g22 hv3
        have r3 := hR.put R3
        refine b_X12_goes_237 hg (by omega) k00 XX _ _ ⟨_, by rw [r3.i17, g17], ?_⟩
        rw [nI_s]
        refine ⟨_, r3.w17 _, ?_⟩
        rw [hR.pp]
        exact ih (k + 1) v2 _ (by omega) (by omega) (a3.i (by omega) (by omega)) w3 ri_sI (by rw [ri_sIn (by decide), g19]) (by rw [ri_sIn (by decide), g21]) (by rw [ri_sIn (by decide), g22]) hn hv3
      refine b_X12_goes_187 hg (by omega) k00 XX _ _ ⟨_, by rw [r2.i17, e17], _, r2.o, use_i (d_byteAt (d := d - 1) hg (by omega) r2 hT2 (by omega)) (by omega) k00 (use_i (d_isDigit (d := d - 1) hg (by omega) _) (by omega) k00 ⟨fun z => ?_, fun _ => ⟨_, by rw [r2.i17, e17], _, by rw [r2.i19, e19], ?_⟩⟩)⟩
      · have z' := gp_n rfl z
        rw [(btA_k (k := k) hT2).2.1, decide_eq_true_eq] at z'
        exact absurd y z'
      · rw [pk_sub hs]
        refine ⟨fun z => ?_, fun z => ⟨_, by rw [r2.i21, e21], _, by rw [r2.i17, e17], _, r2.o, use_i (d_byteAt (d := d - 1) hg (by omega) r2 hT2 (by omega)) (by omega) k00 ?_⟩⟩
        · have z' := le_nI (x := 4) (by omega) (by omega) z
          refine one v R2 a2 w2 e17 e19 e21 e22 ?_
          rw [show min nx (st + 4) - k = 0 by omega] at hv
          rw [show min nx (st + 4) - (k + 1) = 0 by omega]
          exact hv
        · have z' := nle_nI (x := 4) (by omega) (by omega) z
          refine ⟨_, r2.w21 _, ?_⟩
          rw [hR.pp, eb]
          refine one _ _ (a2.i (by omega) (by omega)) w2 (by rw [ri_sIn (by decide), e17]) (by rw [ri_sIn (by decide), e19]) ri_sI (by rw [ri_sIn (by decide), e22]) ?_
          rw [show min nx (st + 4) - k = (min nx (st + 4) - (k + 1)) + 1 by omega, wvF] at hv
          exact hv
    · rw [if_neg y] at hn
      rw [show min nx (st + 4) - k = 0 by omega] at hv
      exact stop k v R2 (by omega) a2 w2 e17 e19 e21 e22 hn hv y
end RGO
