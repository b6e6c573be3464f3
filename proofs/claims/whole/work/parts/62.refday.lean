/-! THE REFERENCE: a day -/
section RD
variable {g : GG} {h : Hp} {B b d k : Nat} {T : ToldV} {X : LandV} {R0 R : RefV}
theorem use_vR {g : GG} {d D kc ks mc ms : Nat} {y : MethodName} {ws : List Cond} {al : List Value} {h : Hp} {Q : RefV → Prop} {B : Nat} {Pt : String → Hp → Prop} {Z : Nat → Nat → Hp → Prop} (hc : CT g d y ws al h 0 0 (fun v h2 => v = none ∧ ∃ R', h2 = pR h B R' ∧ Q R') noT) (hd : d + 1 ≤ D) (hk : kc ≤ mc ∧ ks ≤ ms) (hz : ∀ R', Q R' → Z 0 0 (pR h B R')) :
    ∃ d1 P1 E1 m1 n1, CT g d1 y ws al h m1 n1 P1 E1 ∧ (d1 + 1 ≤ D ∧ kc + m1 ≤ mc ∧ ks + n1 ≤ ms) ∧ (∀ E h', E1 E h' → Pt E h') ∧ (∀ v h1, P1 v h1 → v = none ∧ Z m1 n1 h1) :=
  use_v hc hd hk (fun h' q => by obtain ⟨R', e, q2⟩ := q; rw [e]; exact hz R' q2)
theorem use_iR {g : GG} {d D kc ks mc ms : Nat} {y : MethodName} {ws : List Cond} {al : List Value} {h : Hp} {Q : RefV → Prop} {r : Int32} {B : Nat} {Pt : String → Hp → Prop} {Z : Nat → Nat → Int32 → Hp → Prop} (hc : CT g d y ws al h 0 0 (fun v h2 => v = some (.int r) ∧ ∃ R', h2 = pR h B R' ∧ Q R') noT) (hd : d + 1 ≤ D) (hk : kc ≤ mc ∧ ks ≤ ms) (hz : ∀ R', Q R' → Z 0 0 r (pR h B R')) :
    ∃ d1 P1 E1 m1 n1, CT g d1 y ws al h m1 n1 P1 E1 ∧ (d1 + 1 ≤ D ∧ kc + m1 ≤ mc ∧ ks + n1 ≤ ms) ∧ (∀ E h', E1 E h' → Pt E h') ∧ (∀ v h1, P1 v h1 → ∃ x, v = some (.int x) ∧ Z m1 n1 x h1) :=
  ⟨d, _, _, 0, 0, hc, ⟨hd, hk.1, hk.2⟩, fun _ _ q => q.elim, fun v h1 q => ⟨r, q.1, by obtain ⟨R', e, q2⟩ := q.2; rw [e]; exact hz R' q2⟩⟩
theorem gp_y {v : Int32} {p : Prop} [Decidable p] (q : (if p then (1 : Int32) else 0) = v) (z : ¬ v = 0) : p := Classical.byContradiction fun e => by rw [if_neg e] at q; exact z q.symm
theorem gp_n {v : Int32} {p : Prop} [Decidable p] (q : (if p then (1 : Int32) else 0) = v) (z : v = 0) : ¬ p := fun e => by rw [if_pos e, z] at q; exact absurd q (by decide)
theorem d_loosens (hg : GOK g) (hd : 10 ≤ d) (hR : RA h B R) (hX : TX T b X R0 R) (hk : k < tN_ T) {v : Int32} (hv : 0 ≤ v) (hS : ∃ a, a ≤ 99 ∧ lSm X k = nI a) : CT g d yX12_loosens (wsC yX12_loosens cX12_loosens 5 none) [.ref B, .int (nI b), .int (nI k), .int v] h 0 0 (fun r h2 => r = none ∧ ∃ R', h2 = pR h B R' ∧ TX T b (wearL (tN_ T) X k v) R0 R') noT := by
  obtain ⟨o1, o2, o3⟩ := hX.tok
  have hb := hX.b49
  have ha := aheN_lt (n := tN_ T) (k := k) (by omega) hk
  have hf := aftN_lt (n := tN_ T) (k := k) (by omega)
  obtain ⟨a, a1, a2⟩ := hS
  refine CT_ofB (by decide +kernel) (Nat.le_of_ble_eq_true rfl) rfl fun K XX => ?_
  refine b_X12_loosens_0 hg (by omega) k00 XX _ _ _ _ _ ⟨_, hR.n40, _, hR.n40, ?_⟩
  simp only [show (13 : Int32) = nI 13 from rfl, show (1 : Int32) = nI 1 from rfl, ix3]
  refine ⟨_, hR.r14 (by omega), use_i (d_bounded (d := d - 1) hg (by omega) _ _ _) (by omega) k00 ⟨_, hR.u14 (by omega), ?_⟩⟩
  rw [hX.rw_.sm hk, a2, max0_bnd a1 hv, ← a2]
  have x1 := hX.uSm (v := max0 (lSm X k - v)) hk
  have r1 := hR.put (sA R 14 (upd (ra R 14) (b + 13 + k) (max0 (lSm X k - v))))
  generalize hL1 : sSm X k (max0 (lSm X k - v)) = L1 at *
  have ew : wearL (tN_ T) X k v = if lSm L1 k = 0 then sStr (sifC (sifC L1 (aheN (tN_ T) k) (lStr L1 k / 2)) (aftN (tN_ T) k) (lStr L1 k / 2)) k 0 else L1 := by rw [← hL1]; rfl
  rw [ew]
  generalize sA R 14 (upd (ra R 14) (b + 13 + k) (max0 (lSm X k - v))) = R1 at *
  refine ⟨_, r1.o, use_i (d_isGap (d := d - 1) hg (by omega) r1 x1 hk) (by omega) k00 ⟨fun q => ?_, fun q => ?_⟩⟩
  · have q' : lSm L1 k = 0 := gp_y rfl q
    rw [if_pos q']
    -- the one behind, and the end
    have fin : ∀ (R2 : RefV) (L2 : LandV), TX T b L2 R0 R2 → VB g K 5 d 0 0 (fun r h2 => r = none ∧ ∃ R', h2 = pR h B R' ∧ TX T b (sStr (sifC L2 (aftN (tN_ T) k) (lStr L1 k / 2)) k 0) R0 R') noT 0 0 79 [some (.ref B), some (.int (nI b)), some (.int (nI k)), none, some (.int (lStr L1 k / 2))] [] (pR h B R2) := by
      intro R2 L2 x2
      have r2 := hR.put R2
      have fin2 : ∀ (R3 : RefV) (L3 : LandV), TX T b L3 R0 R3 → VB g K 5 d 0 0 (fun r h2 => r = none ∧ ∃ R', h2 = pR h B R' ∧ TX T b (sStr L3 k 0) R0 R') noT 0 0 104 [some (.ref B), some (.int (nI b)), some (.int (nI k)), none, none] [] (pR h B R3) := by
        intro R3 L3 x3
        have r3 := hR.put R3
        refine b_X12_loosens_104 hg (by omega) k00 XX _ _ _ _ ⟨_, r3.n40, ?_⟩
        rw [show (1 : Int32) = nI 1 from rfl, ix3]
        refine ⟨_, r3.u14 (by omega), rfl, _, by rw [hR.pp], x3.uStr hk⟩
      refine b_X12_loosens_79 hg (by omega) k00 XX _ _ _ _ _ ⟨_, r2.o, use_i (d_behind1 (d := d - 1) hg (by omega) r2 x2 hk) (by omega) k00 ⟨_, r2.o, use_i (d_isGap (d := d - 1) hg (by omega) r2 x2 hf) (by omega) k00 ⟨fun z => ?_, fun z => ⟨_, r2.o, use_i (d_behind1 (d := d - 1) hg (by omega) r2 x2 hk) (by omega) k00 ⟨_, r2.o, use_vR (d_strains (d := d - 1) hg (by omega) r2 x2 hf _) (by omega) k00 ?_⟩⟩⟩⟩⟩
      · have z' := gp_y rfl z
        have := fin2 R2 L2 x2
        rw [sifC, if_pos z']
        exact this
      · have z' := gp_n rfl z
        intro R3 x3
        rw [hR.pp]
        have := fin2 R3 _ x3
        rw [sifC, if_neg z']
        exact this
    refine ⟨_, r1.n40, _, r1.r14 (by omega), ?_⟩
    rw [x1.rw_.st hk]
    refine ⟨_, r1.o, use_i (d_ahead1 (d := d - 1) hg (by omega) r1 x1 hk) (by omega) k00 ⟨_, r1.o, use_i (d_isGap (d := d - 1) hg (by omega) r1 x1 ha) (by omega) k00 ⟨fun z => ?_, fun z => ⟨_, r1.o, use_i (d_ahead1 (d := d - 1) hg (by omega) r1 x1 hk) (by omega) k00 ⟨_, r1.o, use_vR (d_strains (d := d - 1) hg (by omega) r1 x1 ha _) (by omega) k00 ?_⟩⟩⟩⟩⟩
    · have z' := gp_y rfl z
      have := fin R1 L1 x1
      rw [show sifC L1 (aheN (tN_ T) k) (lStr L1 k / 2) = L1 from by rw [sifC, if_pos z']]
      exact this
    · have z' := gp_n rfl z
      intro R3 x3
      rw [hR.pp]
      have := fin R3 _ x3
      rw [show sifC L1 (aheN (tN_ T) k) (lStr L1 k / 2) = addS L1 (aheN (tN_ T) k) (lStr L1 k / 2) from by rw [sifC, if_neg z']]
      exact this
  · have q' : ¬ lSm L1 k = 0 := gp_n rfl q
    rw [if_neg q']
    exact ⟨trivial, _, rfl, x1⟩
theorem d_mends (hg : GOK g) (hd : 9 ≤ d) (hR : RA h B R) (hX : TX T b X R0 R) (hL : LOK (tN_ T) (tW T) X) (hk : k < tW T) : CT g d yX12_mends (wsC yX12_mends cX12_mends 4 none) [.ref B, .int (nI b), .int (nI k)] h 0 0 (fun r h2 => r = none ∧ ∃ R', h2 = pR h B R' ∧ TX T b (mendL (tSk T) X k) R0 R') noT := by
  obtain ⟨o1, o2, o3⟩ := hX.tok
  have hb := hX.b49
  obtain ⟨⟨j, j1, j2⟩, c, c1, c2⟩ := hL.2 k hk
  have cj : cl (lAt X k) = j := by rw [j2]; exact nI_clamp (by omega)
  refine CT_ofB (by decide +kernel) (Nat.le_of_ble_eq_true rfl) rfl fun K XX => ?_
  refine b_X12_mends_0 hg (by omega) k00 XX _ _ _ _ ⟨_, hR.n40, ?_⟩
  simp only [show (13 : Int32) = nI 13 from rfl, show (43 : Int32) = nI 43 from rfl, show (37 : Int32) = nI 37 from rfl, ix3]
  refine ⟨_, hR.r14 (by omega), fun q => ⟨_, hR.n40, _, hR.r14 (by omega), _, hR.n40, _, hR.r14 (by omega), _, hR.u14 (by omega), ?_⟩, fun q => ⟨trivial, R, hR.id.symm, ?_⟩⟩
  · rw [hX.rw_.th hk] at q ⊢
    have x1 := hX.uTh (v := lTh X k - 1) hk
    have r1 := hR.put (sA R 14 (upd (ra R 14) (b + 43 + k) (lTh X k - 1)))
    have es : ra (sA R 14 (upd (ra R 14) (b + 43 + k) (lTh X k - 1))) 1 k = tSk T k := by rw [ra_sAn (by decide)]; exact hX.tr.2.2.2.1 k hk
    generalize sA R 14 (upd (ra R 14) (b + 43 + k) (lTh X k - 1)) = R1 at *
    rw [hX.rw_.at_ hk, j2]
    simp only [ix3]
    refine ⟨_, r1.n40, _, r1.n40, _, r1.r14 (by omega), _, r1.n7, _, r1.r1 (by omega), use_i (d_lesser (d := d - 1) hg (by omega) _ _) (by omega) k00 ⟨_, r1.u14 (by omega), trivial, _, by rw [hR.pp], ?_⟩⟩
    rw [x1.rw_.sm j1, es, lsE_99]
    have hm : mendL (tSk T) X k = sSm (sTh X k (lTh X k - 1)) j (min99 (lSm X j + 2 * tSk T k + 3)) := by
      have : ¬ lTh X k ≤ 0 := fun z => by
        rw [c2, nI_z, nI_leI (by omega) (by omega)] at z
        exact q (by rw [c2, show c = 0 by omega]; rfl)
      rw [mendL, if_neg this]
      simp only [show (lAt X k).toNatClampNeg = j from cj]
    rw [hm]
    exact x1.uSm j1
  · rw [hX.rw_.th hk] at q
    rw [mendL, if_pos (by rw [q]; decide)]
    exact hX
theorem d_goesOn (hg : GOK g) (hd : 9 ≤ d) (hR : RA h B R) (hX : TX T b X R0 R) (hA : AtOK (tN_ T) (tW T) X) (hk : k < tW T) : CT g d yX12_goesOn (wsC yX12_goesOn cX12_goesOn 3 none) [.ref B, .int (nI b), .int (nI k)] h 0 0 (fun r h2 => r = none ∧ ∃ R', h2 = pR h B R' ∧ TX T b (goL (tN_ T) X k) R0 R') noT := by
  obtain ⟨o1, o2, o3⟩ := hX.tok
  have hb := hX.b49
  obtain ⟨j, j1, j2⟩ := hA k hk
  have cj : cl (lAt X k) = j := by rw [j2]; exact nI_clamp (by omega)
  refine CT_ofB (by decide +kernel) (Nat.le_of_ble_eq_true rfl) rfl fun K XX => ?_
  refine b_X12_goesOn_0 hg (by omega) k00 XX _ _ _ _ ⟨_, hR.n40, _, hR.n40, ?_⟩
  simp only [show (37 : Int32) = nI 37 from rfl, ix3]
  refine ⟨_, hR.r14 (by omega), ?_⟩
  rw [hX.rw_.at_ hk, j2]
  refine ⟨_, hR.o, use_i (d_behind1 (d := d - 1) hg (by omega) hR hX j1) (by omega) k00 ⟨_, hR.u14 (by omega), trivial, _, rfl, ?_⟩⟩
  rw [goL, show (lAt X k).toNatClampNeg = j from cj]
  exact hX.uAt hk
theorem d_womenAt (hg : GOK g) (hd : 8 ≤ d) (hR : RA h B R) (hX : TX T b X R0 R) (v : Int32) : CT g d yX12_womenAt (wsC yX12_womenAt cX12_womenAt 5 (some .int)) [.ref B, .int (nI b), .int v] h 0 0 (fun r h2 => r = some (.int (bitsF (fun w => lAt X w == v) (tW T))) ∧ h2 = h) noT := by
  obtain ⟨o1, o2, o3⟩ := hX.tok
  have hb := hX.b49
  refine CT_ofB (by decide +kernel) (Nat.le_of_ble_eq_true rfl) rfl fun K XX => ?_
  refine b_X12_womenAt_0 hg hd k00 XX _ _ _ _ ?_
  refine upto (n := tW T) (P := fun k => VB g K 5 d 0 0 (fun r h2 => r = some (.int (bitsF (fun w => lAt X w == v) (tW T))) ∧ h2 = h) noT 0 0 5 [some (.ref B), some (.int (nI b)), some (.int v), some (.int (bitsF (fun w => lAt X w == v) k)), some (.int (nI k))] [] h) ?_ ?_ (tW T) 0 (by omega)
  · exact b_X12_womenAt_5 hg hd k00 XX _ _ _ _ _ _ ⟨_, by rw [hR.i2, hX.w], fun _ => ⟨rfl, rfl⟩, fun q => absurd (nle_nI (by omega) (by omega) q) (by omega)⟩
  · intro k hk ih
    refine b_X12_womenAt_5 hg hd k00 XX _ _ _ _ _ _ ⟨_, by rw [hR.i2, hX.w], fun q => absurd (le_nI (by omega) (by omega) q) (by omega), fun _ => ⟨_, hR.n40, ?_⟩⟩
    rw [show (37 : Int32) = nI 37 from rfl, ix3]
    refine ⟨_, hR.r14 (by omega), fun q => ?_, fun q => ?_⟩
    · rw [hX.rw_.at_ hk] at q
      refine b_X12_womenAt_39 hg hd k00 XX _ _ _ _ _ _ _ ?_
      rw [nI_s, Int32.or_zero]; simpa [bitsF, q] using ih
    · rw [hX.rw_.at_ hk] at q
      refine b_X12_womenAt_39 hg hd k00 XX _ _ _ _ _ _ _ ?_
      rw [nI_s]; simpa [bitsF, q] using ih
theorem d_besideOf (hg : GOK g) (hd : 9 ≤ d) (hR : RA h B R) (hX : TX T b X R0 R) (hk : k < tN_ T) : CT g d yX12_besideOf (wsC yX12_besideOf cX12_besideOf 3 (some .int)) [.ref B, .int (nI b), .int (nI k)] h 0 0 (fun r h2 => r = some (.int (besE (tN_ T) X k)) ∧ h2 = h) noT := by
  obtain ⟨o1, o2, o3⟩ := hX.tok
  have hb := hX.b49
  have ha := aheN_lt (n := tN_ T) (k := k) (by omega) hk
  have hf := aftN_lt (n := tN_ T) (k := k) (by omega)
  refine CT_ofB (by decide +kernel) (Nat.le_of_ble_eq_true rfl) rfl fun K XX => ?_
  refine b_X12_besideOf_0 hg (by omega) k00 XX _ _ _ _ ⟨_, hR.n40, _, hR.o, use_i (d_ahead1 (d := d - 1) hg (by omega) hR hX hk) (by omega) k00 ?_⟩
  rw [show (1 : Int32) = nI 1 from rfl, ix3]
  refine ⟨_, hR.r14 (by omega), _, hR.n40, _, hR.o, use_i (d_behind1 (d := d - 1) hg (by omega) hR hX hk) (by omega) k00 ?_⟩
  rw [ix3]
  refine ⟨_, hR.r14 (by omega), ?_, rfl⟩
  rw [hX.rw_.st ha, hX.rw_.st hf]
  rfl
/-- the ones of 12 bits -/
def btF (v : Int32) : Nat → Int32
  | 0 => 0
  | k + 1 => btF v k + bitE v k
theorem btF_pcA : ∀ a, a < 64 → ∀ b, b < 64 → btF (nI (64 * a + b)) 12 = nI (pcN (64 * a + b)) := by decide +kernel
theorem btF_pc {k : Nat} (hk : k < 4096) : btF (nI k) 12 = nI (pcN k) := by
  have := btF_pcA (k / 64) (by omega) (k % 64) (by omega)
  rw [show 64 * (k / 64) + k % 64 = k by omega] at this
  exact this
theorem d_bits (hg : GOK g) (hd : 8 ≤ d) (v : Int32) : CT g d yX12_bits (wsC yX12_bits cX12_bits 3 (some .int)) [.int v] h 0 0 (fun r h2 => r = some (.int (btF v 12)) ∧ h2 = h) noT := by
  refine CT_ofB (by decide +kernel) (Nat.le_of_ble_eq_true rfl) rfl fun K XX => ?_
  refine b_X12_bits_0 hg hd k00 XX _ _ ?_
  refine upto (n := 12) (P := fun k => VB g K 3 d 0 0 (fun r h2 => r = some (.int (btF v 12)) ∧ h2 = h) noT 0 0 4 [some (.int v), some (.int (btF v k)), some (.int (nI k))] [] h) ?_ ?_ 12 0 (by omega)
  · exact b_X12_bits_4 hg hd k00 XX _ _ _ _ ⟨fun _ => ⟨rfl, rfl⟩, fun q => absurd (nle_nI (x := 12) (by omega) (by omega) q) (by omega)⟩
  · intro k hk ih
    refine b_X12_bits_4 hg hd k00 XX _ _ _ _ ⟨fun q => absurd (le_nI (x := 12) (by omega) (by omega) q) (by omega), fun _ => ?_⟩
    rw [nI_s]; exact ih
/-- bits of a set are small -/
theorem bitsF_nI (p : Nat → Bool) : ∀ m, m ≤ 12 → ∃ a, a < 2 ^ m ∧ bitsF p m = nI a := by
  intro m
  induction m with
  | zero => intro _; exact ⟨0, by decide, rfl⟩
  | succ m ih =>
    intro hm
    obtain ⟨a, a1, a2⟩ := ih (by omega)
    have hp : 2 ^ (m + 1) = 2 ^ m + 2 ^ m := by rw [Nat.pow_succ]; omega
    have h12 : 2 ^ m ≤ 2 ^ 12 := Nat.pow_le_pow_right (by omega) (by omega)
    unfold bitsF
    split
    · refine ⟨a ||| 2 ^ m, ?_, ?_⟩
      · exact Nat.or_lt_two_pow (by omega) (by omega)
      · rw [a2, shl_nI (by omega)]
        apply Int32.toBitVec_inj.mp
        rw [Int32.toBitVec_or]
        apply BitVec.eq_of_toNat_eq
        have e1 : (nI a).toBitVec.toNat = a := pk_tn (by omega)
        have e2 : (nI (2 ^ m)).toBitVec.toNat = 2 ^ m := pk_tn (by omega)
        have e3 : a ||| 2 ^ m < 2 ^ (m + 1) := Nat.or_lt_two_pow (by omega) (by omega)
        have e4 : (nI (a ||| 2 ^ m)).toBitVec.toNat = a ||| 2 ^ m := pk_tn (by omega)
        rw [BitVec.toNat_or, e1, e2, e4]
    · exact ⟨a, by omega, a2⟩
theorem bits_bc {p : Nat → Bool} {m : Nat} (hm : m ≤ 12) : btF (bitsF p m) 12 = bcE (bitsF p m) := by
  obtain ⟨a, a1, a2⟩ := bitsF_nI p m hm
  have : 2 ^ m ≤ 2 ^ 12 := Nat.pow_le_pow_right (by omega) hm
  rw [a2, btF_pc (by omega), bc_pc (by omega)]
end RD
