/-! CLASS AND REFERENCE read rules alike -/
section SIM
variable {f : AF} {len : Nat} {G : MaS → Prop} {F : Int32 × Nat → Prop}
theorem lvR_all : ∀ r, r ≤ 4 → lvR r < lvR (r + 1) ∧ lvR r ≤ svR (r + 1) ∧ svR r ≤ lvR r := by decide
theorem OG_t {S : MaS} (h1 : (ntP f len 6 (mSt S)).1 = 6 ∧ wdP f len (ntP f len 6 (mSt S)).2 8 = true → F (2, (ntP f len 6 (mSt S)).2)) (h2 : ¬ ((ntP f len 6 (mSt S)).1 = 6 ∧ wdP f len (ntP f len 6 (mSt S)).2 8 = true) → OG f len G F false (ntS f len S)) : OG f len G F true S := by
  unfold OG opb
  rw [if_pos rfl]
  by_cases y : (ntP f len 6 (mSt S)).1 = 6 ∧ wdP f len (ntP f len 6 (mSt S)).2 8 = true
  · rw [if_pos y]; exact h1 y
  · rw [if_neg y]
    have := h2 y
    unfold OG opb at this
    rw [if_neg (by decide)] at this
    exact this
/-- a bracket opens -/
theorem OG_o {S : MaS} (ho : sgP f len (mSt S) 40 = true) (hd : mDp S < 6) (h : OG f len G F true (opnS f len S)) : OG f len G F false S := by
  unfold OG opb at h ⊢
  rw [if_neg (by decide)]
  rw [if_pos rfl] at h
  rw [show 6 - mDp S = (6 - mDp (opnS f len S)) + 1 by show 6 - mDp S = (6 - (mDp S + 1)) + 1; omega, opd, if_pos ho]
  exact h
theorem OG_x {S : MaS} (ho : sgP f len (mSt S) 40 = true) (hd : mDp S = 6) (h : F (dpP f len (adv f len (mSt S)), adv f len (mSt S))) : OG f len G F false S := by
  unfold OG opb
  rw [if_neg (by decide), hd, opd, if_pos ho]
  exact h
theorem OG_p {S : MaS} (ho : sgP f len (mSt S) 40 = false) (h : match prS f len S with
  | .inl S' => G S'
  | .inr e => F e) : OG f len G F false S := by
  unfold OG opb
  rw [if_neg (by decide)]
  cases hm : 6 - mDp S with
  | zero => rw [opd, if_neg (by rw [ho]; decide)]; exact h
  | succ m => rw [opd, if_neg (by rw [ho]; decide)]; exact h
/-- what has been gathered in a rank's loop -/
def AcS (f : AF) (len rank : Nat) (S1 : MaS) (st : Nat) (c : List Int32) (S' : MaS) : Prop := mSt S' = st ∧ mDp S' = mDp S1 ∧ (∃ X W, mOut S' = X ++ mOut S1 ∧ mWs S' = W ++ mWs S1 ∧ (∀ a ∈ W, a < 14 ∧ lvR rank ≤ sgV a) ∧ W.reverse ++ X = enR c) ∧ (∀ i, i < mDp S1 → mTe S' i = mTe S1 i) ∧ (3 ≤ rank → mTe S' (mDp S1) = mTe S1 (mDp S1)) ∧ ∀ r, rank + 1 ≤ r → r ≤ 4 → jtP f len r st = 0 ∨ (r = 2 ∧ mTe S' (mDp S1) = true)
theorem AcS.re {rank z1 st : Nat} {S S1 S' : MaS} {c : List Int32} (hr : rank ≤ 4) (e1 : S1 = (mSt S1, mOut S, List.replicate z1 3 ++ mWs S, mDp S, mTe S)) (hz : ¬ rank = 2 → z1 = 0) (a : AcS f len rank S1 st c S') (hs : jtP f len rank st = 0 ∨ (rank = 2 ∧ mTe S' (mDp S1) = true)) : ReS f len rank S st (c ++ List.replicate z1 (-7)) S' := by
  obtain ⟨a1, a2, ⟨X, W, b1, b2, b3, b4⟩, a3, a4, a5⟩ := a
  have ed : mDp S1 = mDp S := by rw [e1]
  have eo : mOut S1 = mOut S := by rw [e1]
  have ew : mWs S1 = List.replicate z1 3 ++ mWs S := by rw [e1]
  have et : mTe S1 = mTe S := by rw [e1]
  obtain ⟨l1, l2, l3⟩ := lvR_all rank hr
  rw [ed] at a2 a3 a4 a5 hs
  rw [et] at a3 a4
  refine ⟨a1, a2, ⟨X, W ++ List.replicate z1 3, by rw [b1, eo], by rw [b2, ew, List.append_assoc], fun a ha => ?_, ?_⟩, a3, a4, fun r r1 r2 => ?_⟩
  · rcases List.mem_append.mp ha with h | h
    · have := b3 a h; exact ⟨this.1, by omega⟩
    · have e3 := List.eq_of_mem_replicate h
      subst e3
      by_cases y : rank = 2
      · rw [y]; decide
      · have := hz y; rw [this] at h; exact absurd h (by simp)
  · rw [List.reverse_append, List.reverse_replicate, List.append_assoc, b4, enR_app, enR_nots]
  · by_cases y : r = rank
    · rw [y]; exact hs
    · exact a5 r (by omega) r2
theorem ReS.ac {rank st : Nat} {S1 S' : MaS} {c : List Int32} (hr : rank ≤ 4) (a : ReS f len (rank + 1) S1 st c S') : AcS f len rank S1 st c S' := by
  obtain ⟨a1, a2, ⟨X, W, b1, b2, b3, b4⟩, a3, a4, a5⟩ := a
  obtain ⟨l1, l2, l3⟩ := lvR_all rank hr
  exact ⟨a1, a2, ⟨X, W, b1, b2, fun a ha => ⟨(b3 a ha).1, by have := (b3 a ha).2; omega⟩, b4⟩, a3, fun h => a4 (by omega), a5⟩
theorem sim_loop (hC : MaC f len G F) {n rank : Nat} (hr : rank ≤ 4) {S1 : MaS} (hb : BlkS (lvR rank) (mWs S1)) (h1 : 1 ≤ mDp S1)
    (ih : ∀ S : MaS, mDp S = mDp S1 → mSt S ≤ len → BlkS (lvR (rank + 1)) (mWs S) → (rank + 1 ≤ 2 → mTe S (mDp S) = false) → SimP f len G F (rank + 1) S (pX f len n (rank + 1) (mDp S1 - 1) (mSt S)))
    (K : Nat → List Int32 → Prop) (hK : ∀ st c S', AcS f len rank S1 st c S' → (jtP f len rank st = 0 ∨ (rank = 2 ∧ mTe S' (mDp S1) = true)) → K st c → G S') :
    ∀ (k st : Nat) (c : List Int32) (S' : MaS), st ≤ len → AcS f len rank S1 st c S' → ((rank = 2 ∧ ((k = 1 ∧ mTe S' (mDp S1) = false) ∨ (k = 0 ∧ mTe S' (mDp S1) = true))) ∨ (¬ rank = 2 ∧ len ≤ st + k)) →
      match lpP (pX f len n (rank + 1) (mDp S1 - 1)) (jtP f len rank) (adv f len) k st c with
      | .inl r => K r.1 r.2 → G S'
      | .inr e => F e → G S' := by
  intro k
  induction k with
  | zero =>
    intro st c S' hl ac hk
    show K st c → G S'
    refine hK st c S' ac ?_
    rcases hk with ⟨y, ⟨z, _⟩ | ⟨_, z⟩⟩ | ⟨y, z⟩
    · cases z
    · exact Or.inr ⟨y, z⟩
    · left
      by_cases e : jtP f len rank st = 0
      · exact e
      · have := jtP_lt e; omega
  | succ k ih2 =>
    intro st c S' hl ac hk
    rw [lpP]
    by_cases y : jtP f len rank st = 0
    · rw [if_pos y]
      exact hK st c S' ac (Or.inl y)
    · rw [if_neg y]
      have hlt := adv_lt (f := f) (jtP_lt y)
      have hal := adv_le (f := f) hl
      obtain ⟨j1, j2, j3⟩ := jt_op hr y
      obtain ⟨l1, l2, l3⟩ := lvR_all rank hr
      obtain ⟨a1, a2, ⟨X, W, b1, b2, b3, b4⟩, a3, a4, a5⟩ := ac
      -- the joint taken
      have edr : drS (lvR rank) (mWs S') (mOut S') = (mWs S1, enR c ++ mOut S1) := by
        rw [b1, b2, drS_all W _ _ _ b3 hb, ← b4, List.append_assoc]
      have ejn : jnS f len rank S' = (adv f len st, enR c ++ mOut S1, opR (jtP f len rank st) :: mWs S1, mDp S1, if rank ≤ 1 then updB (mTe S') (mDp S1) false else if rank = 2 then updB (mTe S') (mDp S1) true else mTe S') := by
        unfold jnS
        rw [edr, a1, a2]
      have te2 : rank = 2 → mTe S' (mDp S1) = false ∧ k = 0 := by
        intro e
        rcases hk with ⟨_, ⟨z, z2⟩ | ⟨z, _⟩⟩ | ⟨z, _⟩
        · exact ⟨z2, by omega⟩
        · cases z
        · exact absurd e z
      have hG : OG f len G F (decide (rank ≤ 1)) (jnS f len rank S') → G S' := hC.1 S' rank hr (by rw [a1]; exact y) (fun e => by rw [a2]; exact (te2 e).1)
      have teN : ∀ i, i < mDp S1 → mTe (jnS f len rank S') i = mTe S1 i := by
        intro i hi
        rw [ejn]
        show (if rank ≤ 1 then updB (mTe S') (mDp S1) false else if rank = 2 then updB (mTe S') (mDp S1) true else mTe S') i = _
        have hne : ¬ i = mDp S1 := by omega
        split
        · rw [updB, if_neg hne]; exact a3 i hi
        · split
          · rw [updB, if_neg hne]; exact a3 i hi
          · exact a3 i hi
      have edd : decide (rank ≤ 1) = decide (rank + 1 ≤ 2) := by
        by_cases e : rank ≤ 1
        · rw [decide_eq_true e, decide_eq_true (by omega)]
        · rw [decide_eq_false e, decide_eq_false (by omega)]
      have sub := ih (jnS f len rank S') (by rw [ejn]) (by rw [ejn]; exact hal) (by rw [ejn]; exact Or.inr (by omega)) (fun e => by
        rw [ejn]
        show (if rank ≤ 1 then updB (mTe S') (mDp S1) false else if rank = 2 then updB (mTe S') (mDp S1) true else mTe S') (mDp S1) = false
        rw [if_pos (by omega), updB, if_pos rfl])
      rw [show mSt (jnS f len rank S') = adv f len st by rw [ejn]] at sub
      have hl2 := pX_len (f := f) n (rank + 1) (mDp S1 - 1) (adv f len st) hal
      cases hp : pX f len n (rank + 1) (mDp S1 - 1) (adv f len st) with
      | inr e =>
        rw [hp] at sub
        show F e → G S'
        intro hF
        refine hG ?_
        rw [edd]
        exact sub hF
      | inl r =>
        rw [hp] at sub hl2
        have hl3 : adv f len st + r.2.length ≤ r.1 ∧ r.1 ≤ len := hl2
        -- what comes behind the second part
        have nxt : ∀ S'', ReS f len (rank + 1) (jnS f len rank S') r.1 r.2 S'' → AcS f len rank S1 r.1 (c ++ r.2 ++ [jtP f len rank st]) S'' ∧ (rank = 2 → mTe S'' (mDp S1) = true) := by
          intro S'' re
          obtain ⟨r1, r2, ⟨X2, W2, d1, d2, d3, d4⟩, r3, r4, r5⟩ := re
          have ed : mDp (jnS f len rank S') = mDp S1 := by rw [ejn]
          rw [ed] at r2 r3 r4 r5
          refine ⟨⟨r1, r2, ⟨X2 ++ enR c, W2 ++ [opR (jtP f len rank st)], ?_, ?_, ?_, ?_⟩, fun i hi => by rw [r3 i hi, teN i hi], fun e => ?_, r5⟩, fun e => ?_⟩
          · rw [d1, ejn, List.append_assoc]
          · rw [d2, ejn, List.append_assoc]; rfl
          · intro a ha
            rcases List.mem_append.mp ha with h | h
            · have := d3 a h; exact ⟨this.1, by omega⟩
            · rw [List.mem_singleton.mp h]; exact ⟨j1, by omega⟩
          · rw [List.reverse_append, enR_app, enR_app, j3, ← d4]
            simp only [List.reverse_singleton, List.append_assoc]
          · rw [r4 (by omega), ejn]
            show (if rank ≤ 1 then updB (mTe S') (mDp S1) false else if rank = 2 then updB (mTe S') (mDp S1) true else mTe S') (mDp S1) = _
            rw [if_neg (by omega), if_neg (by omega)]
            exact a4 e
          · rw [r4 (by omega), ejn]
            show (if rank ≤ 1 then updB (mTe S') (mDp S1) false else if rank = 2 then updB (mTe S') (mDp S1) true else mTe S') (mDp S1) = _
            rw [if_neg (by omega), if_pos e, updB, if_pos rfl]
        have cond : ∀ S'', (rank = 2 → mTe S'' (mDp S1) = true) → ((rank = 2 ∧ ((k = 1 ∧ mTe S'' (mDp S1) = false) ∨ (k = 0 ∧ mTe S'' (mDp S1) = true))) ∨ (¬ rank = 2 ∧ len ≤ r.1 + k)) := by
          intro S'' h
          by_cases e : rank = 2
          · exact Or.inl ⟨e, Or.inr ⟨(te2 e).2, h e⟩⟩
          · refine Or.inr ⟨e, ?_⟩
            rcases hk with ⟨z, _⟩ | ⟨_, z⟩
            · exact absurd z e
            · omega
        show match lpP (pX f len n (rank + 1) (mDp S1 - 1)) (jtP f len rank) (adv f len) k r.1 (c ++ r.2 ++ [jtP f len rank st]) with
          | .inl r => K r.1 r.2 → G S'
          | .inr e => F e → G S'
        cases hq : lpP (pX f len n (rank + 1) (mDp S1 - 1)) (jtP f len rank) (adv f len) k r.1 (c ++ r.2 ++ [jtP f len rank st]) with
        | inr e =>
          show F e → G S'
          intro hF
          refine hG ?_
          rw [edd]
          refine sub (fun S'' re => ?_)
          obtain ⟨n1, n2⟩ := nxt S'' re
          have := ih2 r.1 _ S'' hl3.2 n1 (cond S'' n2)
          rw [hq] at this
          exact this hF
        | inl q =>
          show K q.1 q.2 → G S'
          intro hKq
          refine hG ?_
          rw [edd]
          refine sub (fun S'' re => ?_)
          obtain ⟨n1, n2⟩ := nxt S'' re
          have := ih2 r.1 _ S'' hl3.2 n1 (cond S'' n2)
          rw [hq] at this
          exact this hKq
theorem sim (hC : MaC f len G F) : ∀ (n rank : Nat) (S : MaS), rank ≤ 5 → 1 ≤ mDp S → mDp S ≤ 6 → mSt S ≤ len → 7 * (6 - mDp S) + (6 - rank) ≤ n → BlkS (lvR rank) (mWs S) → (rank ≤ 2 → mTe S (mDp S) = false) → SimP f len G F rank S (pX f len n rank (mDp S - 1) (mSt S)) := by
  intro n
  induction n with
  | zero => intro rank S h1 h2 h3 h4 h5; omega
  | succ n ih =>
    intro rank S h1 h2 h3 h4 h5 hb ht
    by_cases y5 : 5 ≤ rank
    · have e5 : rank = 5 := by omega
      subst e5
      rw [pX, if_pos (by omega)]
      have ed : decide (5 ≤ 2) = false := by decide
      by_cases yo : sgP f len (mSt S) 40 = true
      · rw [if_pos yo]
        have hal := adv_le (f := f) h4
        by_cases yd : mDp S - 1 + 1 < 6
        · rw [if_pos yd]
          have hS2 := ih 0 (opnS f len S) (by omega) (by show 1 ≤ mDp S + 1; omega) (by show mDp S + 1 ≤ 6; omega) hal (by show 7 * (6 - (mDp S + 1)) + 6 ≤ n; omega) (Or.inl (by decide)) (fun _ => by show updB (mTe S) (mDp S + 1) false (mDp S + 1) = false; rw [updB, if_pos rfl])
          have e1 : mDp (opnS f len S) - 1 = mDp S - 1 + 1 := by show mDp S + 1 - 1 = _; omega
          rw [e1] at hS2
          have e2 : mSt (opnS f len S) = adv f len (mSt S) := rfl
          rw [e2] at hS2
          cases hp : pX f len n 0 (mDp S - 1 + 1) (adv f len (mSt S)) with
          | inr e =>
            rw [hp] at hS2
            intro hF
            rw [ed]
            exact OG_o yo (by omega) (hS2 hF)
          | inl r =>
            rw [hp] at hS2
            show SimP f len G F 5 S (if sgP f len r.1 41 then .inl (adv f len r.1, r.2) else .inr (1, r.1))
            by_cases yc : sgP f len r.1 41 = true
            · rw [if_pos yc]
              intro hG
              rw [ed]
              refine OG_o yo (by omega) (hS2 (fun S' re => ?_))
              obtain ⟨r1, r2, ⟨X, W, d1, d2, d3, d4⟩, r3, r4, r5⟩ := re
              have dd : mDp (opnS f len S) = mDp S + 1 := rfl
              have dw : mWs (opnS f len S) = 14 :: mWs S := rfl
              have dO : mOut (opnS f len S) = mOut S := rfl
              rw [dd] at r2 r3
              rw [dw] at d2
              rw [dO] at d1
              refine hC.2.1 S' (by rw [r1]; exact yc) ⟨14, by rw [d2]; exact List.mem_append_right _ List.mem_cons_self, by decide⟩ (by rw [r2]; omega) ?_
              have edr : drS 0 (mWs S') (mOut S') = (14 :: mWs S, enR r.2 ++ mOut S) := by
                rw [d1, d2, drS_all W (14 :: mWs S) _ 0 (fun a ha => ⟨(d3 a ha).1, Nat.zero_le _⟩) (show BlkS 0 (14 :: mWs S) from Or.inl (by decide)), ← d4, List.append_assoc]
              have ecl : clS f len S' = (adv f len r.1, enR r.2 ++ mOut S, mWs S, mDp S, mTe S') := by
                unfold clS
                rw [edr, r1, r2]
                rfl
              rw [ecl]
              refine hG _ ⟨rfl, rfl, ⟨enR r.2, [], rfl, rfl, fun a ha => absurd ha List.not_mem_nil, rfl⟩, fun i hi => ?_, fun _ => ?_, fun r h1 h2 => by omega⟩
              · show mTe S' i = mTe S i
                rw [r3 i (by omega)]
                show updB (mTe S) (mDp S + 1) false i = _
                rw [updB, if_neg (by omega)]
              · show mTe S' (mDp S) = mTe S (mDp S)
                rw [r3 _ (by omega)]
                show updB (mTe S) (mDp S + 1) false (mDp S) = _
                rw [updB, if_neg (by omega)]
            · rw [if_neg yc]
              intro hF
              rw [ed]
              refine OG_o yo (by omega) (hS2 (fun S' re => ?_))
              obtain ⟨r1, r2, _, r3, r4, r5⟩ := re
              have dd : mDp (opnS f len S) = mDp S + 1 := rfl
              rw [dd] at r2 r5
              refine hC.2.2 S' ⟨fun r hr => ?_, fun e => yc (by rw [← r1]; exact e.1)⟩ (by rw [r2]; omega) (by rw [r1]; exact hF)
              rw [r1, r2]
              exact r5 r (Nat.zero_le _) hr
        · rw [if_neg yd]
          intro hF
          rw [ed]
          exact OG_x yo (by omega) hF
      · have yo' : sgP f len (mSt S) 40 = false := by
          cases e : sgP f len (mSt S) 40 with
          | true => exact absurd e yo
          | false => rfl
        rw [if_neg yo]
        cases hv : vlP f len (mSt S) with
        | inr e =>
          intro hF
          rw [ed]
          refine OG_p yo' ?_
          unfold prS
          rw [hv]
          exact hF
        | inl r =>
          intro hG
          rw [ed]
          refine OG_p yo' ?_
          unfold prS
          rw [hv]
          exact hG _ ⟨rfl, rfl, ⟨enR r.2, [], rfl, rfl, fun a ha => absurd ha List.not_mem_nil, rfl⟩, fun _ _ => rfl, fun _ => rfl, fun r h1 h2 => by omega⟩
    · have hr : rank ≤ 4 := by omega
      obtain ⟨l1, l2, l3⟩ := lvR_all rank hr
      rw [pX, if_neg y5]
      obtain ⟨z1, z2, z3⟩ := z2P_le (f := f) (rank := rank) h4
      -- behind the NOTs
      have main : ∀ S1 : MaS, S1 = ((z2P f len rank (mSt S)).2, mOut S, List.replicate (z2P f len rank (mSt S)).1 3 ++ mWs S, mDp S, mTe S) → (OG f len G F (decide (rank + 1 ≤ 2)) S1 → OG f len G F (decide (rank ≤ 2)) S) → SimP f len G F rank S (endP (z2P f len rank (mSt S)).1 (rsP (pX f len n (rank + 1) (mDp S - 1)) f len rank (pX f len n (rank + 1) (mDp S - 1) (z2P f len rank (mSt S)).2))) := by
        intro S1 e1 hO
        have hz : ¬ rank = 2 → (z2P f len rank (mSt S)).1 = 0 := fun e => by unfold z2P; rw [if_neg e]
        generalize z2P f len rank (mSt S) = z at *
        have ed1 : mDp S1 = mDp S := by rw [e1]
        have es1 : mSt S1 = z.2 := by rw [e1]
        have et1 : mTe S1 = mTe S := by rw [e1]
        have ew1 : mWs S1 = List.replicate z.1 3 ++ mWs S := by rw [e1]
        have e1' : S1 = (mSt S1, mOut S, List.replicate z.1 3 ++ mWs S, mDp S, mTe S) := by rw [es1]; exact e1
        -- blocked
        have hb1 : BlkS (lvR rank) (mWs S1) := by
          rw [ew1]
          by_cases e : rank = 2
          · cases hz1 : z.1 with
            | zero => exact hb
            | succ m => rw [e]; exact Or.inr (by decide)
          · rw [hz e]; exact hb
        have hb2 : BlkS (lvR (rank + 1)) (mWs S1) := by
          cases hw : mWs S1 with
          | nil => trivial
          | cons a w =>
            rw [hw] at hb1
            have hb1' : ¬ a < 14 ∨ sgV a < lvR rank := hb1
            rcases hb1' with h | h
            · exact Or.inl h
            · exact Or.inr (by omega)
        have ihS : ∀ S2 : MaS, mDp S2 = mDp S1 → mSt S2 ≤ len → BlkS (lvR (rank + 1)) (mWs S2) → (rank + 1 ≤ 2 → mTe S2 (mDp S2) = false) → SimP f len G F (rank + 1) S2 (pX f len n (rank + 1) (mDp S1 - 1) (mSt S2)) := by
          intro S2 d2 s2 b2 t2
          have := ih (rank + 1) S2 (by omega) (by omega) (by omega) s2 (by omega) b2 t2
          rw [d2] at this
          exact this
        have first := ihS S1 rfl (by rw [es1]; exact z2) hb2 (fun e => by rw [et1, ed1]; exact ht (by omega))
        rw [es1, ed1] at first
        have hl2 := pX_len (f := f) n (rank + 1) (mDp S - 1) z.2 z2
        cases hp : pX f len n (rank + 1) (mDp S - 1) z.2 with
        | inr e =>
          rw [hp] at first
          intro hF
          exact hO (first hF)
        | inl r =>
          rw [hp] at first hl2
          have hl3 : z.2 + r.2.length ≤ r.1 ∧ r.1 ≤ len := hl2
          show SimP f len G F rank S (endP z.1 (lpP (pX f len n (rank + 1) (mDp S - 1)) (jtP f len rank) (adv f len) (if rank = 2 then 1 else len) r.1 r.2))
          have lo := sim_loop hC hr hb1 (by omega) ihS (fun st c => ∀ S'', ReS f len rank S st (c ++ List.replicate z.1 (-7)) S'' → G S'') (fun st c S' ac hs hK => hK S' (ac.re hr e1' hz hs)) (if rank = 2 then 1 else len) r.1 r.2
          rw [ed1] at lo
          have cond : ∀ S', ReS f len (rank + 1) S1 r.1 r.2 S' → ((rank = 2 ∧ (((if rank = 2 then 1 else len) = 1 ∧ mTe S' (mDp S) = false) ∨ ((if rank = 2 then 1 else len) = 0 ∧ mTe S' (mDp S) = true))) ∨ (¬ rank = 2 ∧ len ≤ r.1 + (if rank = 2 then 1 else len))) := by
            intro S' re
            by_cases e : rank = 2
            · refine Or.inl ⟨e, Or.inl ⟨by rw [if_pos e], ?_⟩⟩
              have := re.2.2.2.2.1 (by omega)
              rw [ed1, et1] at this
              rw [this]
              exact ht (by omega)
            · refine Or.inr ⟨e, ?_⟩
              rw [if_neg e]
              omega
          cases hq : lpP (pX f len n (rank + 1) (mDp S - 1)) (jtP f len rank) (adv f len) (if rank = 2 then 1 else len) r.1 r.2 with
          | inr e =>
            intro hF
            refine hO (first (fun S' re => ?_))
            have := lo S' hl3.2 (re.ac hr) (cond S' re)
            rw [hq] at this
            exact this hF
          | inl q =>
            intro hG
            refine hO (first (fun S' re => ?_))
            have := lo S' hl3.2 (re.ac hr) (cond S' re)
            rw [hq] at this
            exact this hG
      by_cases e2 : rank = 2
      · have ez : z2P f len rank (mSt S) = ntP f len 6 (mSt S) := by unfold z2P; rw [if_pos e2]
        have ed : decide (rank ≤ 2) = true := decide_eq_true (by omega)
        have ed3 : decide (rank + 1 ≤ 2) = false := decide_eq_false (by omega)
        by_cases yn : (z2P f len rank (mSt S)).1 = 6 ∧ wdP f len (z2P f len rank (mSt S)).2 8 = true
        · rw [if_pos yn]
          intro hF
          rw [ed]
          rw [ez] at yn hF
          exact OG_t (fun _ => hF) (fun h => absurd yn h)
        · rw [if_neg yn]
          refine main (ntS f len S) (by rw [ez]; rfl) (fun h => ?_)
          rw [ed]
          rw [ed3] at h
          rw [ez] at yn
          exact OG_t (fun h => absurd h yn) (fun _ => h)
      · have ez : z2P f len rank (mSt S) = (0, mSt S) := by unfold z2P; rw [if_neg e2]
        rw [if_neg (by rw [ez]; intro e; have : (0 : Nat) = 6 := e.1; omega)]
        refine main S (by rw [ez]; rfl) (fun h => ?_)
        by_cases e1 : rank ≤ 2
        · rw [decide_eq_true e1]
          rw [decide_eq_true (by omega)] at h
          exact h
        · rw [decide_eq_false e1]
          rw [decide_eq_false (by omega)] at h
          exact h
end SIM
