/-! THE REFERENCE: a rule read, the loop -/
section REY
variable {g : GG} {h : Hp} {B d len st : Nat} {R R0 : RefV} {f : AF} {S : MaS} {K : KX} {X : PR} {out0 : List Int32}
theorem ex_84 (XX : CB g K cX12_expression 3 yX12_expression none []) (hg : GOK g) (hd : 16 ≤ d) (hR : RA h B R0) {r : Nat} (hr : r ≤ 1) (q : MS f len R0 S R) (hj : ¬ jtP f len r (mSt S) = 0) (hO : OG f len (exG g K d f len R0 out0 h B X) (exF X) true (jnS f len r S)) {R2 : RefV} (xs : XS R R2) (sk : SKR (drS (lvR r) (mWs S) (mOut S)).2 (drS (lvR r) (mWs S) (mOut S)).1 R2) {v : Int32} (hv : opR (jtP f len r (mSt S)) = v) : VB g K 3 d 0 0 (EpR f len R0 out0 h B X) noT 0 0 84 [some (.ref B), some (.int 1), none] [.int v, .ref B] (pR h B R2) := by
  obtain ⟨b1, b2, b3⟩ := q.bd
  obtain ⟨l1, l2⟩ := q.l7
  obtain ⟨n1, n2⟩ := drS_len (mWs S) (mOut S) (lvR r)
  have fin := ex_jn (show r ≤ 4 by omega) q hj xs sk
  have r2 := hR.put R2
  have w3 := wtR_xs R2 (drS (lvR r) (mWs S) (mOut S)).1.length v
  refine b_X12_expression_84 hg (by omega) k00 XX _ _ _ _ _ ⟨_, r2.o, use_v (d_waitsFor (d := d - 1) hg (by omega) r2 sk.2.2.1 (by omega) v) (by omega) k00 ?_⟩
  intro h3 e3
  rw [e3, hR.pp]
  subst hv
  generalize hW : wtR R2 (drS (lvR r) (mWs S) (mOut S)).1.length (opR (jtP f len r (mSt S))) = R3 at *
  have r3 := hR.put R3
  have e32 : ri R3 32 = nI (mDp S) := by rw [w3.1 32 (by decide) (by decide), xs.1 32 (by decide) (by decide)]; exact q.dp
  refine ⟨_, r3.n39, _, by rw [r3.i32, e32], _, r3.u13 (by omega), ?_⟩
  rw [hR.pp, w3.2.2 13 (by decide) (by decide), show narT 3 0 = 0 from rfl]
  have x4 : XF R (sA R3 13 (upd (ra R2 13) (mDp S) 0)) := (xs.trans w3).xf.a (Or.inr (Or.inr rfl))
  have tk4 : TkR f len (mSt S) (sA R3 13 (upd (ra R2 13) (mDp S) 0)) := ((xs.trans w3).tk q.tk).a
  have key := fin (sA R3 13 (upd (ra R2 13) (mDp S) 0))
  rw [if_pos hr] at key
  generalize sA R3 13 (upd (ra R2 13) (mDp S) 0) = R4 at *
  have r4 := hR.put R4
  refine ⟨_, r4.o, use_vR (d_go (d := d - 1) hg (by omega) r4 (q.tp.xf x4) tk4) (by omega) k00 ?_⟩
  rintro R5 ⟨gf, tk⟩
  rw [hR.pp]
  have q5 := key R5 rfl gf tk
  have r5 := hR.put R5
  exact ⟨_, r5.o, ex_opd XX hg hd hR (b := true) q5 hO (fun h1 hz => b_X12_expression_322 hg (by omega) k00 XX _ _ _ hz)⟩
theorem ex_161 (XX : CB g K cX12_expression 3 yX12_expression none []) (hg : GOK g) (hd : 16 ≤ d) (hR : RA h B R0) (q : MS f len R0 S R) (hj : ¬ jtP f len 2 (mSt S) = 0) (hO : OG f len (exG g K d f len R0 out0 h B X) (exF X) false (jnS f len 2 S)) {R2 : RefV} (xs : XS R R2) (sk : SKR (drS (lvR 2) (mWs S) (mOut S)).2 (drS (lvR 2) (mWs S) (mOut S)).1 R2) {v : Int32} (hv : opR (jtP f len 2 (mSt S)) = v) : VB g K 3 d 0 0 (EpR f len R0 out0 h B X) noT 0 0 161 [some (.ref B), some (.int 1), none] [.int v, .ref B] (pR h B R2) := by
  obtain ⟨b1, b2, b3⟩ := q.bd
  obtain ⟨l1, l2⟩ := q.l7
  obtain ⟨n1, n2⟩ := drS_len (mWs S) (mOut S) (lvR 2)
  have fin := ex_jn (show 2 ≤ 4 by omega) q hj xs sk
  have r2 := hR.put R2
  have w3 := wtR_xs R2 (drS (lvR 2) (mWs S) (mOut S)).1.length v
  refine b_X12_expression_161 hg (by omega) k00 XX _ _ _ _ _ ⟨_, r2.o, use_v (d_waitsFor (d := d - 1) hg (by omega) r2 sk.2.2.1 (by omega) v) (by omega) k00 ?_⟩
  intro h3 e3
  rw [e3, hR.pp]
  subst hv
  generalize hW : wtR R2 (drS (lvR 2) (mWs S) (mOut S)).1.length (opR (jtP f len 2 (mSt S))) = R3 at *
  have r3 := hR.put R3
  have e32 : ri R3 32 = nI (mDp S) := by rw [w3.1 32 (by decide) (by decide), xs.1 32 (by decide) (by decide)]; exact q.dp
  refine ⟨_, r3.n39, _, by rw [r3.i32, e32], _, r3.u13 (by omega), ?_⟩
  rw [hR.pp, w3.2.2 13 (by decide) (by decide), show narT 3 1 = 1 from rfl]
  have x4 : XF R (sA R3 13 (upd (ra R2 13) (mDp S) 1)) := (xs.trans w3).xf.a (Or.inr (Or.inr rfl))
  have tk4 : TkR f len (mSt S) (sA R3 13 (upd (ra R2 13) (mDp S) 1)) := ((xs.trans w3).tk q.tk).a
  have key := fin (sA R3 13 (upd (ra R2 13) (mDp S) 1))
  rw [if_neg (show ¬ 2 ≤ 1 by decide), if_pos (show 2 = 2 from rfl)] at key
  generalize sA R3 13 (upd (ra R2 13) (mDp S) 1) = R4 at *
  have r4 := hR.put R4
  refine ⟨_, r4.o, use_vR (d_go (d := d - 1) hg (by omega) r4 (q.tp.xf x4) tk4) (by omega) k00 ?_⟩
  rintro R5 ⟨gf, tk⟩
  rw [hR.pp]
  have q5 := key R5 rfl gf tk
  have r5 := hR.put R5
  exact ⟨_, r5.o, ex_opd XX hg hd hR (b := false) q5 hO (fun h1 hz => b_X12_expression_322 hg (by omega) k00 XX _ _ _ hz)⟩
/-- .. of the ranks 3 and 4 -/
theorem ex_pl (XX : CB g K cX12_expression 3 yX12_expression none []) (hg : GOK g) (hd : 16 ≤ d) (hR : RA h B R0) {r : Nat} (hr : r = 3 ∨ r = 4) (q : MS f len R0 S R) (hj : ¬ jtP f len r (mSt S) = 0) (hO : OG f len (exG g K d f len R0 out0 h B X) (exF X) false (jnS f len r S)) {R2 : RefV} (xs : XS R R2) (sk : SKR (drS (lvR r) (mWs S) (mOut S)).2 (drS (lvR r) (mWs S) (mOut S)).1 R2) {v : Int32} (hv : opR (jtP f len r (mSt S)) = v) : VB g K 3 d 0 0 (EpR f len R0 out0 h B X) noT 0 0 (if r = 3 then 226 else 282) [some (.ref B), some (.int 1), none] [.int v, .ref B] (pR h B R2) := by
  obtain ⟨b1, b2, b3⟩ := q.bd
  obtain ⟨l1, l2⟩ := q.l7
  obtain ⟨n1, n2⟩ := drS_len (mWs S) (mOut S) (lvR r)
  have fin := ex_jn (show r ≤ 4 by omega) q hj xs sk
  have r2 := hR.put R2
  have w3 := wtR_xs R2 (drS (lvR r) (mWs S) (mOut S)).1.length v
  have key := fin (wtR R2 (drS (lvR r) (mWs S) (mOut S)).1.length v)
  rw [if_neg (show ¬ r ≤ 1 by omega), if_neg (show ¬ r = 2 by omega), hv] at key
  have rest : ∀ (Z : Nat → Nat → Hp → Prop), (∀ h1, VB g K 3 d 0 0 (EpR f len R0 out0 h B X) noT 0 0 29 [some (.ref B), some (.int 1), none] [] h1 → Z 0 0 h1) → ∃ fs1, oF (pR h B (wtR R2 (drS (lvR r) (mWs S) (mOut S)).1.length v)) B 11 = some fs1 ∧ ∃ d1 P1 E1 m1 n1, CT g d1 yX12_goes (wsC yX12_goes cX12_goes 2 none) [.ref B] (pR h B (wtR R2 (drS (lvR r) (mWs S) (mOut S)).1.length v)) m1 n1 P1 E1 ∧ (d1 + 1 ≤ d ∧ 0 + 0 + m1 ≤ 0 ∧ 0 + 0 + n1 ≤ 0) ∧ (∀ E h', E1 E h' → noT E h') ∧ (∀ w h1, P1 w h1 → w = none ∧ ∃ fs2, oF h1 B 11 = some fs2 ∧ ∃ d2 P2 E2 m2 n2, CT g d2 yX12_operand (wsC yX12_operand cX12_operand 5 none) [.ref B, .int 0] h1 m2 n2 P2 E2 ∧ (d2 + 1 ≤ d ∧ 0 + 0 + m1 + m2 ≤ 0 ∧ 0 + 0 + n1 + n2 ≤ 0) ∧ (∀ E h', E2 E h' → noT E h') ∧ (∀ w h2, P2 w h2 → w = none ∧ Z (m1 + m2) (n1 + n2) h2)) := by
    intro Z hZ
    generalize wtR R2 (drS (lvR r) (mWs S) (mOut S)).1.length v = R3 at *
    have r3 := hR.put R3
    refine ⟨_, r3.o, d - 1, _, _, 0, 0, d_go (d := d - 1) hg (by omega) r3 (q.tp.xf (xs.trans w3).xf) ((xs.trans w3).tk q.tk), ⟨by omega, Nat.le_refl _, Nat.le_refl _⟩, fun _ _ z => z, ?_⟩
    rintro w h1 ⟨e1, R5, e2, gf, tk⟩
    rw [e2, hR.pp]
    have q5 := key R5 rfl gf tk
    have r5 := hR.put R5
    refine ⟨e1, _, r5.o, ?_⟩
    obtain ⟨d2, P2, E2, m2, n2, c1, c2, c3, c4⟩ := ex_opd XX hg hd hR (b := false) (Z := fun a b h1 => Z a b h1) q5 hO hZ
    exact ⟨d2, P2, E2, m2, n2, c1, by simpa using c2, c3, fun w h2 hp => by have := c4 w h2 hp; simpa using this⟩
  rcases hr with rfl | rfl
  · rw [if_pos rfl]
    refine b_X12_expression_226 hg (by omega) k00 XX _ _ _ _ _ ⟨_, r2.o, use_v (d_waitsFor (d := d - 1) hg (by omega) r2 sk.2.2.1 (by omega) v) (by omega) k00 ?_⟩
    intro h3 e3
    rw [e3, hR.pp]
    obtain ⟨fs1, o1, d1, P1, E1, m1, n1', c1, c2, c3, c4⟩ := rest (fun a b h1 => VB g K 3 d 0 0 (EpR f len R0 out0 h B X) noT a b 322 [some (.ref B), some (.int 1), none] [] h1) (fun h1 hz => b_X12_expression_322 hg (by omega) k00 XX _ _ _ hz)
    refine ⟨fs1, o1, d1, P1, E1, m1, n1', c1, c2, c3, fun w h1 hp => ?_⟩
    obtain ⟨a1, fs2, o2, d2, P2, E2, m2, n2', g1, g2, g3, g4⟩ := c4 w h1 hp
    refine ⟨a1, fs2, o2, d2, P2, E2, m2, n2', g1, g2, g3, fun w h2 hp2 => ?_⟩
    have := g4 w h2 hp2
    simpa using this
  · rw [if_neg (by decide)]
    refine b_X12_expression_282 hg (by omega) k00 XX _ _ _ _ _ ⟨_, r2.o, use_v (d_waitsFor (d := d - 1) hg (by omega) r2 sk.2.2.1 (by omega) v) (by omega) k00 ?_⟩
    intro h3 e3
    rw [e3, hR.pp]
    obtain ⟨fs1, o1, d1, P1, E1, m1, n1', c1, c2, c3, c4⟩ := rest (fun a b h1 => VB g K 3 d 0 0 (EpR f len R0 out0 h B X) noT a b 322 [some (.ref B), some (.int 1), none] [] h1) (fun h1 hz => b_X12_expression_322 hg (by omega) k00 XX _ _ _ hz)
    refine ⟨fs1, o1, d1, P1, E1, m1, n1', c1, c2, c3, fun w h1 hp => ?_⟩
    obtain ⟨a1, fs2, o2, d2, P2, E2, m2, n2', g1, g2, g3, g4⟩ := c4 w h1 hp
    refine ⟨a1, fs2, o2, d2, P2, E2, m2, n2', g1, g2, g3, fun w h2 hp2 => ?_⟩
    have := g4 w h2 hp2
    simpa using this
end REY
