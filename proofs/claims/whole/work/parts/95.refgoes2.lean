/-! THE REFERENCE: a word's run -/
def wdF (f : AF) : Nat → Nat → Int64 → Int64
  | 0, _, w => w
  | j + 1, k, w => wdF f j (k + 1) ((w <<< (Int32.toInt64 (5 : Int32) &&& 63)) ||| Int32.toInt64 (f k - 96))
theorem GF.j {R R' : RefV} {v : Int64} (a : GF R R') : GF R (sJ R' v) := ⟨a.1, a.2⟩
theorem btA_l {f : AF} {len k : Nat} {R : RefV} (hT : TpR f len R) (h : kdE f len k = 1) : k < len ∧ btA f len k = f k := by
  obtain ⟨l7, _, _, hb⟩ := hT
  unfold kdE at h
  by_cases y : k < len
  · rw [if_pos y] at h
    obtain ⟨b1, b2⟩ := hb k (by omega)
    obtain ⟨_, _, _, _, k5, _⟩ := kd_ref b1 b2
    refine ⟨y, ?_⟩
    rw [btA, if_pos y]
    rcases k5 with e | e
    · rw [h] at e; exact absurd e (by decide)
    · exact e
  · rw [if_neg y] at h; exact absurd h (by decide)
section RGW
variable {g : GG} {h : Hp} {B d len st nx : Nat} {R R1 : RefV} {f : AF}
theorem gw_run {K : KX} (XX : CB g K cX12_goes 2 yX12_goes none []) {Pr : Option Value → Hp → Prop} {V : Int64} (hg : GOK g) (hd : 10 ≤ d) (hR : RA h B R) (hT : TpR f len R1)
    (fin : ∀ R2, GF R1 R2 → R2.2.1 = V → ri R2 17 = nI nx → ri R2 18 = 1 → ri R2 19 = nI st → ri R2 21 = ri R1 21 → ri R2 22 = ri R1 22 → VB g K 2 d 0 0 Pr noT 0 0 331 [some (.ref B), none] [] (pR h B R2)) :
    ∀ (j k : Nat) (v : Int64) (R2 : RefV), k + j = len → st ≤ k → GF R1 R2 → R2.2.1 = v → ri R2 17 = nI k → ri R2 19 = nI st → ri R2 21 = ri R1 21 → ri R2 22 = ri R1 22 → rnB f len 1 j k = nx → wdF f (min nx (st + 7) - k) k v = V → VB g K 2 d 0 0 Pr noT 0 0 108 [some (.ref B), none] [] (pR h B R2) := by
  have l7 := hT.1
  have stop : ∀ (k : Nat) (v : Int64) (R2 : RefV), k ≤ len → GF R1 R2 → R2.2.1 = v → ri R2 17 = nI k → ri R2 19 = nI st → ri R2 21 = ri R1 21 → ri R2 22 = ri R1 22 → k = nx → v = V → ¬ kdE f len k = 1 → VB g K 2 d 0 0 Pr noT 0 0 108 [some (.ref B), none] [] (pR h B R2) := by
    intro k v R2 hk a2 w2 e17 e19 e21 e22 hn hv hno
    have r2 := hR.put R2
    have hT2 := hT.gf a2
    refine b_X12_goes_108 hg (by omega) k00 XX _ _ ⟨_, by rw [r2.i17, e17], _, r2.o, use_i (d_byteAt (d := d - 1) hg (by omega) r2 hT2 (by omega)) (by omega) k00 (use_i (d_isLetter (d := d - 1) hg (by omega) _) (by omega) k00 ⟨fun _ => ⟨_, r2.w18 1, ?_⟩, fun y => ?_⟩)⟩
    · rw [hR.pp]
      refine fin _ (a2.i (by omega) (by omega)) (by rw [← hv]; exact w2) (by rw [ri_sIn (by decide), e17, hn]) ri_sI (by rw [ri_sIn (by decide), e19]) (by rw [ri_sIn (by decide), e21]) (by rw [ri_sIn (by decide), e22])
    · have := gp_y rfl y
      rw [(btA_k (k := k) hT2).1, decide_eq_true_eq] at this
      exact absurd this hno
  intro j
  induction j with
  | zero =>
    intro k v R2 hk hs a2 w2 e17 e19 e21 e22 hn hv
    have hn' : k = nx := hn
    rw [show min nx (st + 7) - k = 0 by omega] at hv
    exact stop k v R2 (by omega) a2 w2 e17 e19 e21 e22 hn' hv (by rw [kdE, if_neg (by omega)]; decide)
  | succ j ih =>
    intro k v R2 hk hs a2 w2 e17 e19 e21 e22 hn hv
    rw [rnB] at hn
    by_cases y : kdE f len k = 1
    · rw [if_pos y] at hn
      have hnx := (rnB_r (f := f) (len := len) (kd := 1) j (k + 1)).1
      rw [hn] at hnx
      have r2 := hR.put R2
      have hT2 := hT.gf a2
      obtain ⟨_, eb⟩ := btA_l hT2 y
      have one : ∀ (v2 : Int64) (R3 : RefV), GF R1 R3 → R3.2.1 = v2 → ri R3 17 = nI k → ri R3 19 = nI st → ri R3 21 = ri R1 21 → ri R3 22 = ri R1 22 → wdF f (min nx (st + 7) - (k + 1)) (k + 1) v2 = V → VB g K 2 d 0 0 Pr noT 0 0 159 [some (.ref B), none] [] (pR h B R3) := by
        intro v2 R3 a3 w3 g17 g19 g21 g22 hv3
        have r3 := hR.put R3
        refine b_X12_goes_159 hg (by omega) k00 XX _ _ ⟨_, by rw [r3.i17, g17], ?_⟩
        rw [nI_s]
        refine ⟨_, r3.w17 _, ?_⟩
        rw [hR.pp]
        exact ih (k + 1) v2 _ (by omega) (by omega) (a3.i (by omega) (by omega)) w3 ri_sI (by rw [ri_sIn (by decide), g19]) (by rw [ri_sIn (by decide), g21]) (by rw [ri_sIn (by decide), g22]) hn hv3
      refine b_X12_goes_108 hg (by omega) k00 XX _ _ ⟨_, by rw [r2.i17, e17], _, r2.o, use_i (d_byteAt (d := d - 1) hg (by omega) r2 hT2 (by omega)) (by omega) k00 (use_i (d_isLetter (d := d - 1) hg (by omega) _) (by omega) k00 ⟨fun z => ?_, fun _ => ⟨_, by rw [r2.i17, e17], _, by rw [r2.i19, e19], ?_⟩⟩)⟩
      · have z' := gp_n rfl z
        rw [(btA_k (k := k) hT2).1, decide_eq_true_eq] at z'
        exact absurd y z'
      · rw [pk_sub hs]
        refine ⟨fun z => ?_, fun z => ⟨_, by rw [r2.j, w2], _, by rw [r2.i17, e17], _, r2.o, use_i (d_byteAt (d := d - 1) hg (by omega) r2 hT2 (by omega)) (by omega) k00 ?_⟩⟩
        · have z' := le_nI (x := 7) (by omega) (by omega) z
          refine one v R2 a2 w2 e17 e19 e21 e22 ?_
          rw [show min nx (st + 7) - k = 0 by omega] at hv
          rw [show min nx (st + 7) - (k + 1) = 0 by omega]
          exact hv
        · have z' := nle_nI (x := 7) (by omega) (by omega) z
          refine ⟨_, r2.wj, ?_⟩
          rw [hR.pp, eb]
          refine one _ _ a2.j rfl e17 e19 e21 e22 ?_
          rw [show min nx (st + 7) - k = (min nx (st + 7) - (k + 1)) + 1 by omega, wdF] at hv
          exact hv
    · rw [if_neg y] at hn
      rw [show min nx (st + 7) - k = 0 by omega] at hv
      exact stop k v R2 (by omega) a2 w2 e17 e19 e21 e22 hn hv y
end RGW
