/-! THE REFERENCE: a rule read, from its begin -/
section REV
variable {g : GG} {h : Hp} {B d len st n : Nat} {R : RefV} {f : AF} {out0 : List Int32}
theorem d_expression (hg : GOK g) (hd : 18 ≤ d) (hR : RA h B R) (hT : TpR f len R) (hk : TkR f len st R) (h13 : ri R 13 = 0) (e30 : ri R 30 = nI out0.length) (hs : Stk (ra R 11) out0) (hb : out0.length + 1 ≤ 2 * st) (hn : 41 ≤ n) : CT g d yX12_expression (wsC yX12_expression cX12_expression 3 none) [.ref B] h 0 0 (EpR f len R out0 h B (pX f len n 0 0 st)) noT := by
  refine CT_ofB (by decide +kernel) (Nat.le_of_ble_eq_true rfl) rfl fun K XX => ?_
  generalize hX : pX f len n 0 0 st = X
  have r1 := hR.put (sI R 31 (nI 0))
  have r2 := hR.put (sI (sI R 31 (nI 0)) 32 (nI 0))
  refine b_X12_expression_0 hg (by omega) k00 XX _ _ ⟨_, hR.o, u_good hg hR (by omega) k00 (fun _ => ⟨fun _ => ⟨_, hR.w31 (nI 0), ?_⟩, fun z => absurd z (by decide)⟩) (fun z => absurd h13 z)⟩
  refine ⟨_, r1.w32 (nI 0), ?_⟩
  rw [hR.pp]
  have x2 : XF R (sI (sI R 31 (nI 0)) 32 (nI 0)) := ((XF.refl R).i rfl).i rfl
  have g2 : ri (sI (sI R 31 (nI 0)) 32 (nI 0)) 13 = 0 := by rw [ri_sIn (by decide), ri_sIn (by decide)]; exact h13
  have tk2 : TkR f len st (sI (sI R 31 (nI 0)) 32 (nI 0)) := (hk.i (by omega)).i (by omega)
  have sk2 : SKR out0 [] (sI (sI R 31 (nI 0)) 32 (nI 0)) := ⟨by rw [ri_sIn (by decide), ri_sIn (by decide)]; exact e30, hs, by rw [ri_sIn (by decide), ri_sI]; rfl, trivial⟩
  have p2 : ri (sI (sI R 31 (nI 0)) 32 (nI 0)) 14 = ri R 14 := by rw [ri_sIn (by decide), ri_sIn (by decide)]
  have d2 : ri (sI (sI R 31 (nI 0)) 32 (nI 0)) 32 = nI 0 := ri_sI
  generalize sI (sI R 31 (nI 0)) 32 (nI 0) = R2 at *
  refine ⟨_, r2.o, use_v (d_deeper (d := d - 1) (n := 0) hg (by omega) r2 (hT.xf x2) tk2 g2 d2 (by decide)) (by omega) k00 ?_⟩
  intro h3 e3
  rw [e3, hR.pp, if_pos (show 0 < 6 by decide)]
  have q3 : MS f len R (st, out0, [], 1, fun _ => false) (dpR R2 0) := by
    have x5 : XF R2 (dpR R2 0) := ((XF.refl R2).i rfl).a (Or.inr (Or.inr rfl))
    refine ⟨x2.trans x5, (hT.xf x2).xf x5, (tk2.i (by omega)).a, ?_, ?_, ?_, dpR_d, fun i h0 hi => ?_, hb, Nat.zero_le _, by show 1 ≤ 1 ∧ 1 ≤ 6; omega⟩
    · rw [dpR_i (by decide)]; exact g2
    · rw [dpR_i (by decide)]; exact p2
    · exact sk2.of (dpR_i (by decide)) (dpR_i (by decide)) (ra_sAn (by decide)) (ra_sAn (by decide))
    · have hi' : i ≤ 1 := hi
      have e1 : i = 0 + 1 := by omega
      show ra (sA (sI R2 32 _) 13 (upd (ra R2 13) (0 + 1) 0)) 13 i = _
      rw [ra_sA, e1, pk_us]
      rfl
  generalize dpR R2 0 = R3 at *
  have r3 := hR.put R3
  have mac := ex_mac (d := d) (X := X) (out0 := out0) (f := f) (len := len) XX hg (by omega) hR
  have sm := sim mac n 0 (st, out0, [], 1, fun _ => false) (by omega) (by show 1 ≤ 1; omega) (by show 1 ≤ 6; omega) hk.1 (by show 7 * (6 - 1) + 6 ≤ n; omega) trivial (fun _ => rfl)
  have eX : pX f len n 0 (mDp (st, out0, ([] : List Int32), 1, (fun _ => false : Nat → Bool)) - 1) (mSt (st, out0, ([] : List Int32), 1, (fun _ => false : Nat → Bool))) = X := hX
  rw [eX] at sm
  have hO : OG f len (exG g K d f len R out0 h B X) (exF X) true (st, out0, [], 1, fun _ => false) := by
    cases hp : X with
    | inr e =>
      rw [hp] at sm mac
      exact sm rfl
    | inl r =>
      rw [hp] at sm mac
      refine sm (fun S' re R4 q4 => ?_)
      obtain ⟨a1, a2, ⟨Xo, W, c1, c2, c3, c4⟩, a3, a4, a5⟩ := re
      have r4 := hR.put R4
      have hdp : mDp S' = 1 := a2
      have hws : mWs S' = W := by rw [c2]; exact List.append_nil W
      have hno : ¬ OpS (mWs S') := by
        rw [hws]
        rintro ⟨a, ha, ha2⟩
        exact ha2 (c3 a ha).1
      obtain ⟨b1, b2, b3⟩ := q4.bd
      obtain ⟨l1, l2⟩ := q4.l7
      refine ex_186 XX hg (by omega) hR q4 (fun r hr => ?_) (fun e => absurd e.2 hno) (fun _ => ?_)
      · rw [a1, hdp]
        exact a5 r (Nat.zero_le _) hr
      · refine b_X12_expression_320 hg (by omega) k00 XX _ _ (b_X12_expression_322 hg (by omega) k00 XX _ _ _ (b_X12_expression_29 hg (by omega) k00 XX _ _ _ ⟨fun _ => ?_, fun z => absurd rfl z⟩))
        refine b_X12_expression_325 hg (by omega) k00 XX _ _ ⟨_, r4.o, u_good hg r4 (by omega) k00 (fun _ => ⟨fun z => absurd z (by decide), fun _ => ⟨1, by rw [r4.i32, q4.dp, hdp]; rfl, fun _ => ?_, fun z => absurd (Int32.le_refl _) z⟩⟩) (fun z => absurd q4.gd z)⟩
        refine b_X12_expression_345 hg (by omega) k00 XX _ _ ⟨_, r4.o, use_vR (d_drops (d := d - 1) (lv := 0) hg (by omega) r4 (by decide) (mWs S') (mOut S') q4.sk (by omega) (by omega)) (by omega) k00 ?_⟩
        rintro R5 ⟨xs, sk⟩
        rw [hR.pp]
        have edr : drS 0 (mWs S') (mOut S') = ([], enR r.2 ++ out0) := by
          have := drS_all W [] (mOut S') 0 (fun a ha => ⟨(c3 a ha).1, Nat.zero_le _⟩) trivial
          rw [List.append_nil] at this
          rw [hws, this, c1, ← c4, List.append_assoc]
        rw [edr] at sk
        have sk : SKR (enR r.2 ++ out0) [] R5 := sk
        have hlen : (enR r.2 ++ out0).length + 1 ≤ 2 * mSt S' := by
          have := (drS_len (mWs S') (mOut S') 0).1
          rw [edr] at this
          simp only [List.length_nil] at this
          omega
        have r5 := hR.put R5
        refine ⟨_, r5.o, use_v (d_puts (d := d - 1) hg (by omega) r5 sk.1 (by omega) 0) (by omega) k00 ?_⟩
        intro h6 e6
        rw [e6, hR.pp]
        have xs6 := xs.trans (ptR_xs R5 (enR r.2 ++ out0).length 0)
        have sk6 := sk.pt 0
        refine ⟨rfl, _, rfl, q4.xf.trans xs6.xf, ?_⟩
        refine ⟨?_, ?_, ?_, sk6.1, sk6.2.1, ?_⟩
        · rw [← a1]; exact xs6.tk q4.tk
        · rw [xs6.1 13 (by decide) (by decide)]; exact q4.gd
        · rw [xs6.1 14 (by decide) (by decide)]; exact q4.p
        · rw [← a1]
          show (enR r.2 ++ out0).length + 1 ≤ 2 * mSt S'
          exact hlen
  exact ⟨_, r3.o, ex_opd XX hg (by omega) hR (b := true) q3 hO (fun h1 hz => hz)⟩
end REV
