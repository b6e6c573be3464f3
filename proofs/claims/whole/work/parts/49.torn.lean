/-! GUESS: the tears; torn, look -/
section G2
variable {g : GG} {h0 h : Hp} {s : CoreV} {x : ScrV} {d : Nat}
def bitJ (v : Int32) : Int64 := (1 : Int64) <<< (Int32.toInt64 v &&& 63)
def mkG (f : AF) (i : Nat) (p : JF × JF) : JF × JF := if 64 ≤ f i then (p.1, vp_updL p.2 i (p.2 i ||| bitJ (f i - 64))) else (vp_updL p.1 i (p.1 i ||| bitJ (f i)), p.2)
def JE (p q : JF × JF) : Prop := ∀ k, k < 12 → p.1 k = q.1 k ∧ p.2 k = q.2 k
theorem updLs {f : JF} {k : Nat} {v : Int64} : vp_updL f k v k = v := if_pos rfl
theorem updLn {f : JF} {k j : Nat} {v : Int64} (q : j ≠ k) : vp_updL f k v j = f j := if_neg q
theorem updLE {f f2 : JF} (q : ∀ k, k < 12 → f k = f2 k) (j : Nat) {v y : Int64} (e : v = y) {k : Nat} (hk : k < 12) : vp_updL f j v k = vp_updL f2 j y k := by
  by_cases hj : k = j
  · subst hj; rw [updLs, updLs, e]
  · rw [updLn hj, updLn hj, q k hk]
theorem JE.refl (p : JF × JF) : JE p p := fun _ _ => ⟨rfl, rfl⟩
theorem JE.trans {p q r : JF × JF} (a : JE p q) (b : JE q r) : JE p r := fun k hk => ⟨(a k hk).1.trans (b k hk).1, (a k hk).2.trans (b k hk).2⟩
theorem JE.mk {p q : JF × JF} {f f2 : AF} {i : Nat} (e : JE p q) (hi : i < 12) (ef : f i = f2 i) : JE (mkG f i p) (mkG f2 i q) := by
  unfold mkG
  rw [ef]
  split
  · exact fun k hk => ⟨(e k hk).1, updLE (fun k hk => (e k hk).2) i (by rw [(e i hi).2]) hk⟩
  · exact fun k hk => ⟨updLE (fun k hk => (e k hk).1) i (by rw [(e i hi).1]) hk, (e k hk).2⟩
theorem JE.fold {n : Nat} {f f2 : AF} (hn : n ≤ 12) (ef : ∀ k, k < n → f k = f2 k) : ∀ (j i : Nat) {p q : JF × JF}, i + j ≤ n → JE p q → JE (foldN (mkG f) j i p) (foldN (mkG f2) j i q) := by
  intro j
  induction j with
  | zero => intro i p q _ e; exact e
  | succ j ih => intro i p q hi e; exact ih (i + 1) (by omega) (e.mk (by omega) (ef i (by omega)))
theorem c_mark (hg : GOK g) (hd : 8 ≤ d) (hC : CA h0 h s x) (hI : IS s) : CT g d yX0_mark (wsC yX0_mark cX0_mark 3 none) [.ref 68, .ref (tb s)] h 0 0 (fun v h2 => v = none ∧ ∃ x', CA h0 h2 s x' ∧ xG x' = xG x ∧ (xLo x', xHi x') = foldN (mkG (xLk x)) (sN s) 0 (xLo x, xHi x)) noT := by
  have o2 := hI.1.1.2.1
  refine CT_ofB (by decide +kernel) (Nat.le_of_ble_eq_true rfl) rfl fun K X => ?_
  refine b_X0_mark_0 hg (by omega) k00 X _ _ _ ?_
  have loop : ∀ (j i : Nat) (h : Hp) (x1 : ScrV), i + j = tN_ (sT s) → CA h0 h s x1 → xG x1 = xG x → xLk x1 = xLk x → foldN (mkG (xLk x)) j i (xLo x1, xHi x1) = foldN (mkG (xLk x)) (sN s) 0 (xLo x, xHi x) → VB g K 3 d 0 0 (fun v h2 => v = none ∧ ∃ x', CA h0 h2 s x' ∧ xG x' = xG x ∧ (xLo x', xHi x') = foldN (mkG (xLk x)) (sN s) 0 (xLo x, xHi x)) noT 0 0 2 [some (.ref 68), some (.ref (tb s)), some (.int (nI i))] [] h := by
    intro j
    induction j with
    | zero =>
      intro i h x1 hi hC hG hL he
      refine b_X0_mark_2 hg (by omega) k00 X _ _ _ _ ⟨_, hC.t.g0, fun _ => ⟨rfl, x1, hC, hG, he⟩, fun q => absurd (nle_nI (by show tN_ (sT s) < _; omega) (by omega) q) (by show ¬ _ < tN_ (sT s); omega)⟩
    | succ j ih =>
      intro i h x1 hi hC hG hL he
      refine b_X0_mark_2 hg (by omega) k00 X _ _ _ _ ⟨_, hC.t.g0, fun q => absurd (le_nI (by show tN_ (sT s) < _; omega) (by omega) q) (by show ¬ tN_ (sT s) ≤ _; omega), fun _ => ⟨_, gu_3 hC, _, lk_r hC (by omega), fun y => ⟨_, gu_5 hC, _, hi_r hC (by omega), _, gu_3 hC, _, lk_r hC (by omega), _, hi_w hC (by omega), ?_⟩, fun y => ⟨_, gu_4 hC, _, lo_r hC (by omega), _, gu_3 hC, _, lk_r hC (by omega), _, lo_w hC (by omega), ?_⟩⟩⟩
      · refine b_X0_mark_61 hg (by omega) k00 X _ _ _ _ ?_
        rw [nI_s]
        rw [hL] at y
        refine ih (i + 1) _ _ (by omega) (hC.u_hi _) hG hL ?_
        rw [← he, foldN, mkG, if_pos y, hL]
        rfl
      · refine b_X0_mark_61 hg (by omega) k00 X _ _ _ _ ?_
        rw [nI_s]
        rw [hL] at y
        refine ih (i + 1) _ _ (by omega) (hC.u_lo _) hG hL ?_
        rw [← he, foldN, mkG, if_neg y, hL]
        rfl
  exact loop (sN s) 0 h x (by show 0 + tN_ (sT s) = _; omega) hC rfl rfl rfl
/-- what the tears weigh: how many, the least; the seams seen -/
abbrev WgV : Type := (Int32 × Int32) × JF × JF
def unN (L : LandV) (i : Nat) : Nat := if 50 < cl (lSm L i) then 50 else cl (lSm L i)
def tgW (s : CoreV) (l i m : Nat) (p : WgV) : WgV := if isF (sT s) (sS s) (lastN (sS s) l) 0 (tearL (sN s) (sL s) i (nI m)) then ((p.1.1 + (if m = unN (sL s) i then 50 - nI (unN (sL s) i) + 1 else 1), if p.1.1 = 0 then 100 * nI i + nI m else p.1.2), foldN (mkG (lSm (daysT (sT s) l (tearL (sN s) (sL s) i (nI m))))) (sN s) 0 p.2) else p
def wgF (s : CoreV) (l : Nat) : WgV := foldN (fun i p => foldN (tgW s l i) (unN (sL s) i) 1 p) (sN s) 0 ((0, -1), (fun _ => 0), (fun _ => 0))
def WE (p q : WgV) : Prop := p.1 = q.1 ∧ JE p.2 q.2
def xW (x : ScrV) : WgV := (xG x, xLo x, xHi x)
theorem WE.tg {l i m : Nat} {p q : WgV} (hn : sN s ≤ 12) (e : WE p q) : WE (tgW s l i m p) (tgW s l i m q) := by
  unfold tgW
  split
  · exact ⟨by rw [e.1], JE.fold hn (fun _ _ => rfl) (sN s) 0 (by omega) e.2⟩
  · exact e
theorem WE.tgs {l i : Nat} (hn : sN s ≤ 12) : ∀ (j m : Nat) {p q : WgV}, WE p q → WE (foldN (tgW s l i) j m p) (foldN (tgW s l i) j m q) := by
  intro j
  induction j with
  | zero => intro m p q e; exact e
  | succ j ih => intro m p q e; exact ih (m + 1) (e.tg hn)
theorem WE.wgs {l : Nat} (hn : sN s ≤ 12) : ∀ (j i : Nat) {p q : WgV}, WE p q → WE (foldN (fun i p => foldN (tgW s l i) (unN (sL s) i) 1 p) j i p) (foldN (fun i p => foldN (tgW s l i) (unN (sL s) i) 1 p) j i q) := by
  intro j
  induction j with
  | zero => intro m p q e; exact e
  | succ j ih => intro m p q e; exact ih (m + 1) (e.tgs hn _ _)
theorem WE.refl (p : WgV) : WE p p := ⟨rfl, JE.refl _⟩
theorem WE.trans {p q r : WgV} (a : WE p q) (b : WE q r) : WE p r := ⟨a.1.trans b.1, a.2.trans b.2⟩
theorem c_weighTears {l : Nat} (hg : GOK g) (hd : 16 ≤ d) (hC : CA h0 h s x) (hI : IS s) (hS : SmOK (sN s) (sL s)) (hD : SeD (sS s)) (hl : l ≤ 20) : CT g d yX0_weighTears (wsC yX0_weighTears cX0_weighTears 8 none) [.ref 68, .ref (tb s), .ref 26, .int (nI l)] h 0 0 (fun v h2 => v = none ∧ ∃ x', CA h0 h2 s x' ∧ WE (xW x') (wgF s l)) noT := by
  have o1 := hI.1.1.1
  have o2 := hI.1.1.2.1
  refine CT_ofB (by decide +kernel) (Nat.le_of_ble_eq_true rfl) rfl fun K X => ?_
  generalize hR : wgF s l = R
  -- the tears, stretch by stretch
  have outer : ∀ (j i : Nat) (h : Hp) (x1 : ScrV), i + j = tN_ (sT s) → CA h0 h s x1 → WE (foldN (fun i p => foldN (tgW s l i) (unN (sL s) i) 1 p) j i (xW x1)) R → VB g K 8 d 0 0 (fun v h2 => v = none ∧ ∃ x', CA h0 h2 s x' ∧ WE (xW x') R) noT 0 0 45 [some (.ref 68), some (.ref (tb s)), some (.ref 26), some (.int (nI l)), some (.int (nI i)), none, none, none] [] h := by
    intro j
    induction j with
    | zero =>
      intro i h x1 hi hC he
      refine b_X0_weighTears_45 hg (by omega) k00 X _ _ _ _ _ _ ⟨_, hC.t.g0, fun _ => ⟨rfl, x1, hC, he⟩, fun q => absurd (nle_nI (by show tN_ (sT s) < _; omega) (by omega) q) (by show ¬ _ < tN_ (sT s); omega)⟩
    | succ j ihO =>
      intro i h x1 hi hC he
      have hin : i < tN_ (sT s) := by omega
      obtain ⟨qq, q1, q2⟩ := hS i hin
      have eu : (if (50 : Int32) < lSm (sL s) i then (50 : Int32) else lSm (sL s) i) = nI (unN (sL s) i) := by
        rw [unN, q2, show cl (nI qq) = qq from nI_clamp (by omega), show (50 : Int32) = nI 50 from rfl]
        by_cases e : 50 < qq
        · rw [if_pos e, if_pos ((nI_ltI (by omega) (by omega)).mpr e)]
        · rw [if_neg e, if_neg (fun z => e ((nI_ltI (by omega) (by omega)).mp z))]
      have hu : unN (sL s) i ≤ 50 := by
        rw [unN, q2, show cl (nI qq) = qq from nI_clamp (by omega)]
        split <;> omega
      refine b_X0_weighTears_45 hg (by omega) k00 X _ _ _ _ _ _ ⟨_, hC.t.g0, fun q => absurd (le_nI (by show tN_ (sT s) < _; omega) (by omega) q) (by show ¬ tN_ (sT s) ≤ _; omega), fun _ => ⟨_, hC.m0, _, hC.l.g2, _, hC.l.r2 (by omega), ?_⟩⟩
      rw [eu]
      have inner : ∀ (j2 m : Nat) (h : Hp) (x1 : ScrV), m + j2 = unN (sL s) i + 1 → CA h0 h s x1 → WE (foldN (fun i p => foldN (tgW s l i) (unN (sL s) i) 1 p) j (i + 1) (foldN (tgW s l i) j2 m (xW x1))) R → VB g K 8 d 0 0 (fun v h2 => v = none ∧ ∃ x', CA h0 h2 s x' ∧ WE (xW x') R) noT 0 0 74 [some (.ref 68), some (.ref (tb s)), some (.ref 26), some (.int (nI l)), some (.int (nI i)), some (.int (nI (unN (sL s) i))), some (.int (nI m)), none] [] h := by
        intro j2
        induction j2 with
        | zero =>
          intro m h x1 hm hC he
          refine b_X0_weighTears_74 hg (by omega) k00 X _ _ _ _ _ _ _ _ ⟨fun _ => ?_, fun q => absurd (nlt_nI (by omega) (by omega) q) (by omega)⟩
          rw [nI_s]
          exact ihO (i + 1) h x1 (by omega) hC he
        | succ j2 ih =>
          intro m h x1 hm hC he
          have nxt : ∀ (h : Hp) (x2 : ScrV), CA h0 h s x2 → WE (xW x2) (tgW s l i m (xW x1)) → VB g K 8 d 0 0 (fun v h2 => v = none ∧ ∃ x', CA h0 h2 s x' ∧ WE (xW x') R) noT 0 0 179 [some (.ref 68), some (.ref (tb s)), some (.ref 26), some (.int (nI l)), some (.int (nI i)), some (.int (nI (unN (sL s) i))), some (.int (nI m)), none] [] h := by
            intro h x2 c2 e2
            refine b_X0_weighTears_179 hg (by omega) k00 X _ _ _ _ _ _ _ _ ?_
            rw [nI_s]
            exact ih (m + 1) h x2 (by omega) c2 (WE.trans (WE.wgs (by show tN_ (sT s) ≤ 12; omega) _ _ (WE.tgs (by show tN_ (sT s) ≤ 12; omega) _ _ e2)) he)
          refine b_X0_weighTears_74 hg (by omega) k00 X _ _ _ _ _ _ _ _ ⟨fun q => absurd (lt_nI (by omega) (by omega) q) (by omega), fun _ => ⟨_, gu_2 hC, _, hC.m0, _, hC.gl.o, use_v (c_copyFrom (d := d - 1) hg (by omega) hC.gl hC.l (by omega)) (by omega) k00 ?_⟩⟩
          intro h2 e2
          rw [e2]
          have c2 := hC.u_gl (cpyL (xGL x1) (sL s))
          refine ⟨_, gu_2 c2, _, c2.gl.o, use_v (c_tearOff (d := d - 1) hg (by omega) c2.gl c2.t hI.1.1 (by have := tb_or s; omega) (k := i) hin (nI m)) (by omega) k00 ?_⟩
          intro h3 e3
          rw [e3]
          have c3 := c2.u_gl (tearL (sN s) (cpyL (xGL x1) (sL s)) i (nI m))
          have le3 : LEs s (tearL (sN s) (cpyL (xGL x1) (sL s)) i (nI m)) (tearL (sN s) (sL s) i (nI m)) := (LE.cpy _ _ _ _).tear hin _
          refine ⟨_, c3.m2, _, gu_o c3, use_iP (c_gIsSo (d := d - 1) hg (by omega) c3 hI hD le3 (AtOK_tear hI.2.1) hl) (by omega) k00 ?_⟩
          rintro r h4 ⟨er, x4, c4, g4, l4, i4, k4⟩
          rw [er]
          have b4 : xW x4 = xW x1 := by show (xG x4, xLo x4, xHi x4) = _; rw [g4, l4, i4]; rfl
          refine ⟨fun z => nxt h4 x4 c4 ?_, fun z => ?_⟩
          · have hb : isF (sT s) (sS s) (lastN (sS s) l) 0 (tearL (sN s) (sL s) i (nI m)) = false := by
              cases hb : isF (sT s) (sS s) (lastN (sS s) l) 0 (tearL (sN s) (sL s) i (nI m)) with
              | false => rfl
              | true => rw [hb] at z; exact absurd z (by decide)
            rw [tgW, hb, b4]
            exact WE.refl _
          · have hb : isF (sT s) (sS s) (lastN (sS s) l) 0 (tearL (sN s) (sL s) i (nI m)) = true := by
              cases hb : isF (sT s) (sS s) (lastN (sS s) l) 0 (tearL (sN s) (sL s) i (nI m)) with
              | true => rfl
              | false => rw [hb] at z; exact absurd rfl z
            have fin : ∀ al : Int32, al = (if m = unN (sL s) i then 50 - nI (unN (sL s) i) + 1 else 1) → VB g K 8 d 0 0 (fun v h2 => v = none ∧ ∃ x', CA h0 h2 s x' ∧ WE (xW x') R) noT 0 0 135 [some (.ref 68), some (.ref (tb s)), some (.ref 26), some (.int (nI l)), some (.int (nI i)), some (.int (nI (unN (sL s) i))), some (.int (nI m)), none] [.int al] h4 := by
              intro al ea
              have fin2 : ∀ le : Int32, le = (if (xG x4).1 = 0 then 100 * nI i + nI m else (xG x4).2) → VB g K 8 d 0 0 (fun v h2 => v = none ∧ ∃ x', CA h0 h2 s x' ∧ WE (xW x') R) noT 0 0 160 [some (.ref 68), some (.ref (tb s)), some (.ref 26), some (.int (nI l)), some (.int (nI i)), some (.int (nI (unN (sL s) i))), some (.int (nI m)), some (.int al)] [.int le, .ref 68] h4 := by
                intro le el
                have c5 := c4.u_gu ((xG x4).1, le)
                have c6 := c5.u_gu ((xG x4).1 + al, le)
                refine b_X0_weighTears_160 hg (by omega) k00 X _ _ _ _ _ _ _ _ _ _ _ ⟨_, gu_w1 c4 le, _, gu_0 c5, _, gu_w0 c5 _, _, gu_o c6, use_v (c_mark (d := d - 1) hg (by omega) c6 hI) (by omega) k00 ?_⟩
                rintro h7 ⟨x7, c7, g7, k7⟩
                refine nxt h7 x7 c7 ?_
                rw [tgW, hb]
                refine ⟨?_, ?_⟩
                · show xG x7 = _
                  rw [g7]
                  show ((xG x4).1 + al, le) = _
                  rw [ea, el, g4]
                  rfl
                · show JE (xLo x7, xHi x7) _
                  rw [k7]
                  refine JE.fold (n := sN s) (by show tN_ (sT s) ≤ 12; omega) (fun k hk => k4 hb k hk) (sN s) 0 (by omega) ?_
                  show JE (xLo x4, xHi x4) _
                  rw [l4, i4]
                  exact JE.refl _
              refine b_X0_weighTears_135 hg (by omega) k00 X _ _ _ _ _ _ _ _ _ ⟨_, gu_0 c4, fun y => ⟨_, gu_1 c4, fin2 _ (by rw [if_neg y])⟩, fun y => fin2 _ (by rw [if_pos y])⟩
            refine ⟨fun y => fin _ ?_, fun y => fin _ ?_⟩
            · rw [if_neg (fun e => y (by rw [e]))]
            · have : m = unN (sL s) i := by
                have := congrArg (fun v => cl v) y
                simp only [show cl (nI m) = m from nI_clamp (by omega), show cl (nI (unN (sL s) i)) = unN (sL s) i from nI_clamp (by omega)] at this
                exact this
              rw [if_pos this]
      exact inner (unN (sL s) i) 1 h x1 (by omega) hC he
  -- the seams seen are cleared
  have clr : ∀ (j i : Nat) (h : Hp) (x1 : ScrV), i + j = 12 → CA h0 h s x1 → xG x1 = (0, -1) → (∀ k, k < i → xLo x1 k = 0 ∧ xHi x1 k = 0) → VB g K 8 d 0 0 (fun v h2 => v = none ∧ ∃ x', CA h0 h2 s x' ∧ WE (xW x') R) noT 0 0 13 [some (.ref 68), some (.ref (tb s)), some (.ref 26), some (.int (nI l)), some (.int (nI i)), none, none, none] [] h := by
    intro j
    induction j with
    | zero =>
      intro i h x1 hi hC hG hz
      refine b_X0_weighTears_13 hg (by omega) k00 X _ _ _ _ _ _ ⟨fun _ => ?_, fun q => absurd (nle_nI (x := 12) (by omega) (by omega) q) (by omega)⟩
      refine outer (tN_ (sT s)) 0 h x1 (by omega) hC ?_
      rw [← hR]
      refine WE.wgs (by show tN_ (sT s) ≤ 12; omega) _ _ ⟨hG, fun k hk => hz k (by omega)⟩
    | succ j ih =>
      intro i h x1 hi hC hG hz
      have c2 := hC.u_lo (vp_updL (xLo x1) i 0)
      refine b_X0_weighTears_13 hg (by omega) k00 X _ _ _ _ _ _ ⟨fun q => absurd (le_nI (x := 12) (by omega) (by omega) q) (by omega), fun _ => ⟨_, gu_4 hC, _, lo_w hC (by omega), _, gu_5 c2, _, hi_w c2 (by omega), ?_⟩⟩
      rw [nI_s]
      refine ih (i + 1) _ _ (by omega) (c2.u_hi _) hG (fun k hk => ?_)
      show vp_updL (xLo x1) i 0 k = 0 ∧ vp_updL (xHi x1) i 0 k = 0
      by_cases e : k = i
      · subst e; exact ⟨updLs, updLs⟩
      · rw [updLn e, updLn e]; exact hz k (by omega)
  have c1 := hC.u_gu (0, (xG x).2)
  refine b_X0_weighTears_0 hg (by omega) k00 X _ _ _ _ _ ⟨_, gu_w0 hC 0, _, gu_w1 c1 (-1), ?_⟩
  exact clr 12 0 _ _ (by omega) (c1.u_gu (0, -1)) rfl (fun k hk => by omega)
theorem c_isSoWithout (hg : GOK g) (hd : 15 ≤ d) (hC : CA h0 h s x) (hI : IS s) (hD : SeD (sS s)) : CT g d yX0_isSoWithout (wsC yX0_isSoWithout cX0_isSoWithout 3 (some .boolean)) [.ref 68, .ref (tb s), .ref 26] h 0 0 (fun v h2 => ∃ r, v = some (.int r) ∧ r = (if isF (sT s) (sS s) (lastN (sS s) 0) 0 (sL s) then 1 else 0) ∧ ∃ x', CA h0 h2 s x') noT := by
  refine CT_ofB (by decide +kernel) (Nat.le_of_ble_eq_true rfl) rfl fun K X => ?_
  refine b_X0_isSoWithout_0 hg (by omega) k00 X _ _ _ _ ⟨_, gu_2 hC, _, hC.m0, _, hC.gl.o, use_v (c_copyFrom (d := d - 1) hg (by omega) hC.gl hC.l (by omega)) (by omega) k00 ?_⟩
  intro h2 e2
  rw [e2]
  have c2 := hC.u_gl (cpyL (xGL x) (sL s))
  refine ⟨_, c2.m2, _, gu_o c2, use_iP (c_gIsSo (l := 0) (d := d - 1) hg (by omega) c2 hI hD (LE.cpy _ _ _ _) hI.2.1 (by omega)) (by omega) k00 ?_⟩
  rintro r h4 ⟨er, x4, c4, _⟩
  refine ⟨by rw [er]; split <;> simp [isB], r, rfl, er, x4, c4⟩
def m_torn (s : CoreV) (v : Int32) : Res := if whB v 2 then .inl (if v = 2 then (if isF (sT s) (sS s) (lastN (sS s) 0) 0 (sL s) then 1 else 0) else if v = 0 then (wgF s 0).1.1 else (wgF s 0).1.2, s) else .inr true
theorem x_torn (hg : GOK g) (hd : 20 ≤ d) (hC : CA h0 h s x) (hI : IS s) (hS : SmOK (sN s) (sL s)) (hD : SeD (sS s)) (v : Int32) : CT g d yX11_torn (wsC yX11_torn cX11_torn 2 (some .int)) [.ref 0, .int v] h 8 64 (PrC h0 (m_torn s v)) (PtC h0 s (m_torn s v)) := by
  refine CT_ofB (by decide +kernel) (Nat.le_of_ble_eq_true rfl) rfl fun K X => ?_
  refine b_X11_torn_0 hg (by omega) (by omega) X _ _ _ (st_wh hg (by omega) (by omega) (fun q => ptC hC (by rw [m_torn, q]; rfl)) fun q1 => ⟨fun y => ⟨_, hC.g13, _, hC.g6, _, hC.g8, _, gu_o hC, use_v (c_weighTears (l := 0) (d := d - 1) hg (by omega) hC hI hS hD (by omega)) (by omega) (by omega) ?_⟩, fun y => ⟨_, hC.g13, _, hC.g6, _, hC.g8, _, gu_o hC, use_iP (c_isSoWithout (d := d - 1) hg (by omega) hC hI hD) (by omega) (by omega) ?_⟩⟩)
  · rintro h2 ⟨x2, c2, e2⟩
    have e3 : xG x2 = (wgF s 0).1 := e2.1
    refine ⟨fun z => ⟨_, c2.g13, _, gu_1 c2, prC c2 ?_⟩, fun z => ⟨_, c2.g13, _, gu_0 c2, prC c2 ?_⟩⟩
    · rw [m_torn, if_pos q1, if_neg y, if_neg z, e3]
    · rw [m_torn, if_pos q1, if_neg y, if_pos z, e3]
  · rintro r h2 ⟨er, x2, c2⟩
    refine ⟨fun z => prC c2 ?_, fun z => prC c2 ?_⟩
    · rw [m_torn, if_pos q1, if_pos y, ← er, z]
    · rw [m_torn, if_pos q1, if_pos y]
      rw [er] at z
      cases hb : isF (sT s) (sS s) (lastN (sS s) 0) 0 (sL s) with
      | true => rfl
      | false => rw [hb] at z; exact absurd rfl z
theorem c_unlike {i : Nat} (hg : GOK g) (hd : 9 ≤ d) (hC : CA h0 h s x) (hi : i < 12) : CT g d yX0_unlikeSeams (wsC yX0_unlikeSeams cX0_unlikeSeams 2 (some .int)) [.ref 68, .int (nI i)] h 0 0 (fun v h2 => v = some (.int (bjE (xLo x i) + bjE (xHi x i))) ∧ h2 = h) noT := by
  refine CT_ofB (by decide +kernel) (Nat.le_of_ble_eq_true rfl) rfl fun K X => ?_
  exact b_X0_unlikeSeams_0 hg (by omega) k00 X _ _ _ ⟨_, gu_4 hC, _, lo_r hC hi, use_i (c_bitCountJ (d := d - 1) hg (by omega) _) (by omega) k00 ⟨_, gu_5 hC, _, hi_r hC hi, use_i (c_bitCountJ (d := d - 1) hg (by omega) _) (by omega) k00 ⟨rfl, rfl⟩⟩⟩
def ulE (w : WgV) (i : Nat) : Int32 := bjE (w.2.1 i) + bjE (w.2.2 i)
def lkG (w : WgV) (i : Nat) (p : Int32 × Int32) : Int32 × Int32 := if ulE w i ≤ p.2 then p else (nI i, ulE w i)
def lkF (s : CoreV) : Int32 × Int32 := foldN (lkG (wgF s 5)) (sN s) 0 (-1, 0)
def m_look (s : CoreV) (v : Int32) : Res := if whB v 1 then .inl (if v = 0 then (lkF s).1 else (lkF s).2, s) else .inr true
theorem x_look (hg : GOK g) (hd : 20 ≤ d) (hC : CA h0 h s x) (hI : IS s) (hS : SmOK (sN s) (sL s)) (hD : SeD (sS s)) (v : Int32) : CT g d yX11_look (wsC yX11_look cX11_look 6 (some .int)) [.ref 0, .int v] h 8 64 (PrC h0 (m_look s v)) (PtC h0 s (m_look s v)) := by
  have o1 := hI.1.1.1
  have o2 := hI.1.1.2.1
  refine CT_ofB (by decide +kernel) (Nat.le_of_ble_eq_true rfl) rfl fun K X => ?_
  refine b_X11_look_0 hg (by omega) (by omega) X _ _ _ (st_wh hg (by omega) (by omega) (fun q => ptC hC (by rw [m_look, q]; rfl)) fun q1 => ⟨_, hC.g13, _, hC.g6, _, hC.g8, _, gu_o hC, use_v (c_weighTears (l := 5) (d := d - 1) hg (by omega) hC hI hS hD (by omega)) (by omega) (by omega) ?_⟩)
  rintro h2 ⟨x2, c2, e2⟩
  have loop : ∀ (j i : Nat) (p : Int32 × Int32), i + j = tN_ (sT s) → foldN (lkG (wgF s 5)) j i p = lkF s → VB g K 6 d 8 64 (PrC h0 (m_look s v)) (PtC h0 s (m_look s v)) (0 + 1 + 0) (0 + 6 + 0) 28 [some (.ref 0), some (.int v), some (.int p.1), some (.int p.2), some (.int (nI i)), none] [] h2 := by
    intro j
    induction j with
    | zero =>
      intro i p hi he
      refine b_X11_look_28 hg (by omega) (by omega) X _ _ _ _ _ _ ⟨_, c2.g6, _, c2.t.g0, fun _ => ⟨fun z => prC c2 ?_, fun z => prC c2 ?_⟩, fun q => absurd (nle_nI (by show tN_ (sT s) < _; omega) (by omega) q) (by show ¬ _ < tN_ (sT s); omega)⟩
      · rw [m_look, if_pos q1, if_neg z, ← he]; rfl
      · rw [m_look, if_pos q1, if_pos z, ← he]; rfl
    | succ j ih =>
      intro i p hi he
      have eu : bjE (xLo x2 i) + bjE (xHi x2 i) = ulE (wgF s 5) i := by
        have := e2.2 i (by omega)
        rw [ulE, ← this.1, ← this.2]; rfl
      refine b_X11_look_28 hg (by omega) (by omega) X _ _ _ _ _ _ ⟨_, c2.g6, _, c2.t.g0, fun q => absurd (le_nI (by show tN_ (sT s) < _; omega) (by omega) q) (by show ¬ tN_ (sT s) ≤ _; omega), fun _ => ⟨_, c2.g13, _, gu_o c2, use_i (c_unlike (d := d - 1) hg (by omega) c2 (i := i) (by omega)) (by omega) (by omega) ⟨fun z => ?_, fun z => ?_⟩⟩⟩
      · refine b_X11_look_63 hg (by omega) (by omega) X _ _ _ _ _ _ ?_
        rw [nI_s]
        rw [eu] at z
        refine ih (i + 1) p (by omega) ?_
        rw [← he, foldN, lkG, if_pos z]
      · refine b_X11_look_63 hg (by omega) (by omega) X _ _ _ _ _ _ ?_
        rw [nI_s]
        rw [eu] at z ⊢
        refine ih (i + 1) (nI i, ulE (wgF s 5) i) (by omega) ?_
        rw [← he, foldN, lkG, if_neg z]
  exact loop (tN_ (sT s)) 0 (-1, 0) (by omega) rfl
end G2
