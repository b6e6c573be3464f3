/-! THE REFERENCE: rules, a day's whole -/
section RQ
variable {g : GG} {h : Hp} {B b d k : Nat} {T : ToldV} {X : LandV} {R0 R : RefV}
def opS (c : Int32) : Prop := c = -8 ∨ c = -9 ∨ c = -10 ∨ c = -11 ∨ c = -12 ∨ c = -13 ∨ c = -14 ∨ c = -15
theorem opS_of {c : Int32} (h1 : c ≤ -7) (h2 : ¬ c = -7) (h3 : -15 ≤ c) : opS c := by
  have a1 := Int32.le_iff_toInt_le.mp h1
  have a3 := Int32.le_iff_toInt_le.mp h3
  have e7 : (-7 : Int32).toInt = -7 := rfl
  have e15 : (-15 : Int32).toInt = -15 := rfl
  have a2 : c.toInt ≠ -7 := fun e => h2 (tI_eq (by rw [e]; rfl))
  have : c.toInt = -8 ∨ c.toInt = -9 ∨ c.toInt = -10 ∨ c.toInt = -11 ∨ c.toInt = -12 ∨ c.toInt = -13 ∨ c.toInt = -14 ∨ c.toInt = -15 := by omega
  rcases this with e | e | e | e | e | e | e | e
  · exact Or.inl (tI_eq (by rw [e]; rfl))
  · exact Or.inr (Or.inl (tI_eq (by rw [e]; rfl)))
  · exact Or.inr (Or.inr (Or.inl (tI_eq (by rw [e]; rfl))))
  · exact Or.inr (Or.inr (Or.inr (Or.inl (tI_eq (by rw [e]; rfl)))))
  · exact Or.inr (Or.inr (Or.inr (Or.inr (Or.inl (tI_eq (by rw [e]; rfl))))))
  · exact Or.inr (Or.inr (Or.inr (Or.inr (Or.inr (Or.inl (tI_eq (by rw [e]; rfl)))))))
  · exact Or.inr (Or.inr (Or.inr (Or.inr (Or.inr (Or.inr (Or.inl (tI_eq (by rw [e]; rfl))))))))
  · exact Or.inr (Or.inr (Or.inr (Or.inr (Or.inr (Or.inr (Or.inr (tI_eq (by rw [e]; rfl))))))))
theorem opS_n {c : Int32} (hc : opS c) : ¬ opR c = 0 ∧ ¬ opR c = 1 ∧ ¬ opR c = 2 ∧ ¬ opR c = 3 := by
  rcases hc with rfl | rfl | rfl | rfl | rfl | rfl | rfl | rfl <;> decide
theorem d_works {c : Int32} (hc : opS c) (hg : GOK g) (hd : 8 ≤ d) (u v : Int32) : CT g d yX12_works (wsC yX12_works cX12_works 3 (some .int)) [.int (opR c), .int u, .int v] h 0 0 (fun r h2 => r = some (.int (joinE c u v)) ∧ h2 = h) noT := by
  refine CT_ofB (by decide +kernel) (Nat.le_of_ble_eq_true rfl) rfl fun K XX => ?_
  rcases hc with rfl | rfl | rfl | rfl | rfl | rfl | rfl | rfl
  · rw [show opR (-8) = 5 from by decide]
    exact b_X12_works_0 hg hd k00 XX _ _ _ _ ⟨fun q => absurd q (by decide), fun q => absurd q (by decide), fun _ => ⟨fun z => b_X12_works_66 hg hd k00 XX _ ⟨by simp [joinE, z], rfl⟩, fun z => ⟨fun y => ⟨by simp [joinE, z, y], rfl⟩, fun y => b_X12_works_66 hg hd k00 XX _ ⟨by simp [joinE, z, y], rfl⟩⟩⟩, fun q => absurd q (by decide), fun q => absurd q (by decide), fun q => absurd q (by decide), fun q => absurd q (by decide), fun q => absurd q (by decide)⟩
  · rw [show opR (-9) = 4 from by decide]
    exact b_X12_works_0 hg hd k00 XX _ _ _ _ ⟨fun q => absurd q (by decide), fun _ => ⟨fun z => ⟨by simp [joinE, z], rfl⟩, fun z => ⟨fun y => ⟨by simp [joinE, z, y], rfl⟩, fun y => ⟨by simp [joinE, z, y], rfl⟩⟩⟩, fun q => absurd q (by decide), fun q => absurd q (by decide), fun q => absurd q (by decide), fun q => absurd q (by decide), fun q => absurd q (by decide), fun q => absurd q (by decide)⟩
  · rw [show opR (-10) = 6 from by decide]
    exact b_X12_works_0 hg hd k00 XX _ _ _ _ ⟨fun q => absurd q (by decide), fun q => absurd q (by decide), fun q => absurd q (by decide), fun _ => ⟨fun z => ⟨by simp [joinE, z], rfl⟩, fun z => ⟨by simp [joinE, z], rfl⟩⟩, fun q => absurd q (by decide), fun q => absurd q (by decide), fun q => absurd q (by decide), fun q => absurd q (by decide)⟩
  · rw [show opR (-11) = 7 from by decide]
    exact b_X12_works_0 hg hd k00 XX _ _ _ _ ⟨fun q => absurd q (by decide), fun q => absurd q (by decide), fun q => absurd q (by decide), fun q => absurd q (by decide), fun _ => ⟨fun z => ⟨by simp [joinE, z], rfl⟩, fun z => ⟨by simp [joinE, z], rfl⟩⟩, fun q => absurd q (by decide), fun q => absurd q (by decide), fun q => absurd q (by decide)⟩
  · rw [show opR (-12) = 8 from by decide]
    exact b_X12_works_0 hg hd k00 XX _ _ _ _ ⟨fun q => absurd q (by decide), fun q => absurd q (by decide), fun q => absurd q (by decide), fun q => absurd q (by decide), fun q => absurd q (by decide), fun _ => ⟨rfl, rfl⟩, fun q => absurd q (by decide), fun q => absurd q (by decide)⟩
  · rw [show opR (-13) = 9 from by decide]
    exact b_X12_works_0 hg hd k00 XX _ _ _ _ ⟨fun q => absurd q (by decide), fun q => absurd q (by decide), fun q => absurd q (by decide), fun q => absurd q (by decide), fun q => absurd q (by decide), fun q => absurd q (by decide), fun _ => ⟨rfl, rfl⟩, fun q => absurd q (by decide)⟩
  · rw [show opR (-14) = 10 from by decide]
    exact b_X12_works_0 hg hd k00 XX _ _ _ _ ⟨fun q => absurd q (by decide), fun q => absurd q (by decide), fun q => absurd q (by decide), fun q => absurd q (by decide), fun q => absurd q (by decide), fun q => absurd q (by decide), fun q => absurd q (by decide), fun _ => ⟨rfl, rfl⟩⟩
  · rw [show opR (-15) = 11 from by decide]
    exact b_X12_works_0 hg hd k00 XX _ _ _ _ ⟨fun _ => ⟨fun z => ⟨z, by simp [joinE, z], rfl⟩, fun z => ⟨by simp [joinE, z], rfl⟩⟩, fun q => absurd q (by decide), fun q => absurd q (by decide), fun q => absurd q (by decide), fun q => absurd q (by decide), fun q => absurd q (by decide), fun q => absurd q (by decide), fun q => absurd q (by decide)⟩
theorem TX.mv {R' : RefV} (q : TX T b X R0 R) (e : DF R R') (e2 : ra R' 14 = ra R 14) : TX T b X R0 R' := ⟨q.1, q.2.1, q.tr.df e, q.df.trans e, by rw [e2]; exact q.rw_⟩
/-- a rule's worth, by its code -/
theorem d_reckons {co : AF} {val : Int32 → Int32} {p n a : Nat} (hg : GOK g) (hd : 9 ≤ d) (hR : RA h B R) (hC : CodeR co (ra R 4) n p a) (hW : WfR co n p 0) (hv : ∀ k, k < 6 → ra R 16 k = val (-1 - nI k)) : CT g d yX12_reckons (wsC yX12_reckons cX12_reckons 5 (some .int)) [.ref B, .int (nI a)] h 0 0 (fun r h2 => r = some (.int (evalR co val n p [])) ∧ ∃ R', h2 = pR h B R' ∧ (DF R R' ∧ ra R' 14 = ra R 14 ∧ ra R' 18 = ra R 18)) noT := by
  refine CT_ofB (by decide +kernel) (Nat.le_of_ble_eq_true rfl) rfl fun K XX => ?_
  refine b_X12_reckons_0 hg (by omega) k00 XX _ _ _ ?_
  have key : ∀ (j p a : Nat) (st : List Int32) (f : AF), CodeR co (ra R 4) j p a → WfR co j p st.length → st.length ≤ 64 → Stk f st → evalR co val j p st = evalR co val n p [] ∨ True → evalR co val j p st = evalR co val j p st → ∀ (Q : Int32), evalR co val j p st = Q → VB g K 5 d 0 0 (fun r h2 => r = some (.int Q) ∧ ∃ R', h2 = pR h B R' ∧ (DF R R' ∧ ra R' 14 = ra R 14 ∧ ra R' 18 = ra R 18)) noT 0 0 4 [some (.ref B), none, some (.int (nI st.length)), some (.int (nI a)), none] [] (pR h B (sA R 17 f)) := by
    intro j
    induction j with
    | zero =>
      intro p a st f hC hW hs hS _ _ Q hQ
      have r1 := hR.put (sA R 17 f)
      have e4 : ra (sA R 17 f) 4 = ra R 4 := ra_sAn (by decide)
      have hC' : a < 1400 ∧ ra R 4 a = 0 := hC
      have hW' : st.length = 1 := hW
      refine b_X12_reckons_4 hg (by omega) k00 XX _ _ _ _ ⟨_, r1.n10, _, r1.r4 hC'.1, fun _ => ⟨_, r1.n44, _, r1.r17 (k := 0) (by omega), ?_, _, rfl, (DF.refl R).sA (by omega), ra_sAn (by decide), ra_sAn (by decide)⟩, fun q => absurd (by rw [e4]; exact hC'.2) q⟩
      rw [ra_sA, ← hQ, evalR, Stk_last hS (by omega)]
    | succ j ih =>
      intro p a st f hC hW hs hS _ _ Q hQ
      have r1 := hR.put (sA R 17 f)
      have e4 : ra (sA R 17 f) 4 = ra R 4 := ra_sAn (by decide)
      have e16 : ra (sA R 17 f) 16 = ra R 16 := ra_sAn (by decide)
      have e17 : ra (sA R 17 f) 17 = f := ra_sA
      have en : ∀ (f' : AF), sA (sA R 17 f) 17 f' = sA R 17 f' := by
        intro f'
        unfold sA
        refine Prod.ext rfl (Prod.ext rfl (funext fun c => ?_))
        show updA (updA R.2.2 17 f) 17 f' c = updA R.2.2 17 f' c
        unfold updA
        by_cases e : c = 17
        · rw [if_pos e, if_pos e]
        · rw [if_neg e, if_neg e, if_neg e]
      -- a value is put
      have put : ∀ (v : Int32) (a' : Nat), CodeR co (ra R 4) j (p + 1) (a' + 1) → WfR co j (p + 1) (st.length + 1) → st.length < 64 → evalR co val j (p + 1) (v :: st) = Q → VB g K 5 d 0 0 (fun r h2 => r = some (.int Q) ∧ ∃ R', h2 = pR h B R' ∧ (DF R R' ∧ ra R' 14 = ra R 14 ∧ ra R' 18 = ra R 18)) noT 0 0 67 [some (.ref B), none, some (.int (nI st.length)), some (.int (nI a')), none] [.int v, .int (nI st.length), .ref (B + 17)] (pR h B (sA R 17 f)) := by
        intro v a' c1 c2 c3 c4
        refine b_X12_reckons_67 hg (by omega) k00 XX _ _ _ _ _ _ _ ⟨_, r1.u17 (by omega), ?_⟩
        rw [hR.pp, e17, en]
        refine b_X12_reckons_140 hg (by omega) k00 XX _ _ _ _ ?_
        rw [nI_s, nI_s]
        exact ih (p + 1) (a' + 1) (v :: st) _ c1 c2 (by simp only [List.length_cons]; omega) ⟨pk_us, Stk_upd (Nat.le_refl _) hS⟩ (Or.inr trivial) rfl Q c4
      by_cases c1 : co p ≤ -7
      · -- an operation
        rw [CodeR, if_neg (fun e => e c1)] at hC
        rw [WfR, if_neg (fun e => e c1)] at hW
        obtain ⟨b1, b2, b3, b4⟩ := hC
        by_cases c2 : co p = -7
        · rw [if_pos c2] at hW
          have o3 : ra R 4 a = 3 := by rw [b2, c2]; decide
          refine b_X12_reckons_4 hg (by omega) k00 XX _ _ _ _ ⟨_, r1.n10, _, r1.r4 b1, fun q => ?_, fun _ => ⟨_, r1.n10, _, r1.r4 b1, fun q => ?_, fun _ => ⟨fun _ => ⟨fun q => ?_, fun _ => ⟨_, r1.n44, _, r1.n44, ?_⟩⟩, fun q => ?_⟩⟩⟩
          · rw [e4, o3] at q; exact absurd q (by decide)
          · rw [e4, o3] at q; exact absurd q (by decide)
          · rw [e4, o3] at q; exact absurd rfl q
          · match st, hW, hs, hS, hQ with
            | [], hW, _, _, _ => exact absurd hW.1 (by simp)
            | y :: r, hW, hs, hS, hQ =>
              simp only [List.length_cons] at hs ⊢
              have el : nI (r.length + 1) - 1 = nI r.length := nI_pred _
              rw [el]
              have ey : f r.length = y := hS.1
              have fin : ∀ v : Int32, v = (if y = 0 then 1 else 0) → VB g K 5 d 0 0 (fun r h2 => r = some (.int Q) ∧ ∃ R', h2 = pR h B R' ∧ (DF R R' ∧ ra R' 14 = ra R 14 ∧ ra R' 18 = ra R 18)) noT 0 0 106 [some (.ref B), none, some (.int (nI (r.length + 1))), some (.int (nI a + 1)), none] [.int v, .int (nI r.length), .ref (B + 17)] (pR h B (sA R 17 f)) := by
                intro v hv
                refine b_X12_reckons_106 hg (by omega) k00 XX _ _ _ _ _ _ _ ⟨_, r1.u17 (by omega), ?_⟩
                rw [hR.pp, e17, en]
                refine b_X12_reckons_140 hg (by omega) k00 XX _ _ _ _ ?_
                rw [nI_s]
                refine ih (p + 1) (a + 1) (v :: r) _ b4 hW.2 (by simp only [List.length_cons]; omega) ⟨pk_us, Stk_upd (Nat.le_refl _) hS.2⟩ (Or.inr trivial) rfl Q ?_
                rw [← hQ, hv]
                simp [evalR, c1, c2]
              refine ⟨_, r1.r17 (by omega), fun q => fin _ ?_, fun q => fin _ ?_⟩
              · rw [e17, ey] at q; rw [if_neg q]
              · rw [e17, ey] at q; rw [if_pos q]
          · rw [e4, o3] at q; exact absurd q (by decide)
        · rw [if_neg c2] at hW
          have hop := opS_of c1 c2 b3
          obtain ⟨n0, n1, n2, n3⟩ := opS_n hop
          refine b_X12_reckons_4 hg (by omega) k00 XX _ _ _ _ ⟨_, r1.n10, _, r1.r4 b1, fun q => ?_, fun _ => ⟨_, r1.n10, _, r1.r4 b1, fun q => ?_, fun _ => ⟨fun _ => ⟨fun _ => ⟨_, r1.n44, _, r1.n44, ?_⟩, fun q => ?_⟩, fun q => ?_⟩⟩⟩
          · rw [e4, b2] at q; exact absurd q n0
          · rw [e4, b2] at q; exact absurd q n1
          · match st, hW, hs, hS, hQ with
            | [], hW, _, _, _ => exact absurd hW.1 (by simp)
            | [_], hW, _, _, _ => exact absurd hW.1 (by simp)
            | y :: u :: r, hW, hs, hS, hQ =>
              simp only [List.length_cons] at hs ⊢
              rw [pk_m1, nI_pred, e4, b2]
              have ey : f (r.length + 1) = y := hS.1
              have eu : f r.length = u := hS.2.1
              refine ⟨_, r1.r17 (by omega), _, r1.n44, _, r1.r17 (by omega), use_i (d_works hop (d := d - 1) hg (by omega) _ _) (by omega) k00 ⟨_, r1.u17 (by omega), ?_⟩⟩
              rw [hR.pp, e17, en, ey, eu]
              refine b_X12_reckons_140 hg (by omega) k00 XX _ _ _ _ ?_
              rw [nI_s]
              refine ih (p + 1) (a + 1) (joinE (co p) u y :: r) _ b4 hW.2 (by simp only [List.length_cons]; omega) ⟨pk_us, Stk_upd (Nat.le_refl _) hS.2.2⟩ (Or.inr trivial) rfl Q ?_
              rw [← hQ]
              simp [evalR, c1, c2]
          · rw [e4, b2] at q; exact absurd q n3
          · rw [e4, b2] at q; exact absurd q n2
      · -- a number or a value
        rw [CodeR, if_pos c1] at hC
        rw [WfR, if_pos c1] at hW
        obtain ⟨b1, b2, b3⟩ := hC
        have hq : evalR co val j (p + 1) ((if co p < 0 then val (co p) else co p) :: st) = Q := by
          rw [← hQ]; simp [evalR, c1, hW.1]
        by_cases c2 : co p < 0
        · rw [if_pos c2] at b2 hq
          obtain ⟨v1, k, k1, k2, k3⟩ := b2
          have go : VB g K 5 d 0 0 (fun r h2 => r = some (.int Q) ∧ ∃ R', h2 = pR h B R' ∧ (DF R R' ∧ ra R' 14 = ra R 14 ∧ ra R' 18 = ra R 18)) noT 0 0 36 [some (.ref B), none, some (.int (nI st.length)), some (.int (nI (a + 1))), some (.int 2)] [] (pR h B (sA R 17 f)) := by
            refine b_X12_reckons_36 hg (by omega) k00 XX _ _ _ _ _ ⟨_, r1.n44, fun _ => ⟨_, r1.n43, _, r1.n10, _, r1.r4 b1, ?_⟩, fun q => absurd q (by decide)⟩
            rw [e4, k2]
            refine ⟨_, r1.r16 k1, put _ (a + 1) b3 hW.2 hW.1 ?_⟩
            rw [e16, hv k k1, ← k3]; exact hq
          refine b_X12_reckons_4 hg (by omega) k00 XX _ _ _ _ ⟨_, r1.n10, _, r1.r4 (by omega), fun q => ?_, fun _ => ⟨_, r1.n10, _, r1.r4 (by omega), fun q => ?_, fun _ => ⟨fun q => ?_, fun _ => ?_⟩⟩⟩
          · rw [e4, v1] at q; exact absurd q (by decide)
          · rw [e4, v1] at q; exact absurd q (by decide)
          · rw [e4, v1] at q; exact absurd rfl q
          · rw [nI_s, e4, v1]; exact go
        · rw [if_neg c2] at b2 hq
          obtain ⟨v1, v2⟩ := b2
          have go : VB g K 5 d 0 0 (fun r h2 => r = some (.int Q) ∧ ∃ R', h2 = pR h B R' ∧ (DF R R' ∧ ra R' 14 = ra R 14 ∧ ra R' 18 = ra R 18)) noT 0 0 36 [some (.ref B), none, some (.int (nI st.length)), some (.int (nI (a + 1))), some (.int 1)] [] (pR h B (sA R 17 f)) := by
            refine b_X12_reckons_36 hg (by omega) k00 XX _ _ _ _ _ ⟨_, r1.n44, fun q => absurd rfl q, fun _ => ⟨_, r1.n10, _, r1.r4 b1, put _ (a + 1) b3 hW.2 hW.1 ?_⟩⟩
            rw [e4, v2]; exact hq
          refine b_X12_reckons_4 hg (by omega) k00 XX _ _ _ _ ⟨_, r1.n10, _, r1.r4 (by omega), fun q => ?_, fun _ => ⟨_, r1.n10, _, r1.r4 (by omega), fun _ => ?_, fun q => ?_⟩⟩
          · rw [e4, v1] at q; exact absurd q (by decide)
          · rw [nI_s, e4, v1]; exact go
          · rw [e4, v1] at q; exact absurd rfl q
  have e0 : sA R 17 (ra R 17) = R := by
    unfold sA
    refine Prod.ext rfl (Prod.ext rfl (funext fun c => ?_))
    show updA R.2.2 17 (R.2.2 17) c = R.2.2 c
    unfold updA
    by_cases e : c = 17
    · rw [if_pos e, e]
    · rw [if_neg e]
  have := key n p a [] (ra R 17) hC hW (by simp) trivial (Or.inr trivial) rfl _ rfl
  rw [e0, hR.id] at this
  exact this
end RQ
