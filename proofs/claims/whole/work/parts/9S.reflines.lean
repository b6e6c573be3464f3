/-! THE REFERENCE: numbers, lines' parts -/
def nkB (k : Nat) : Bool := [13, 14, 17, 18, 19, 20, 21, 22, 24, 25, 26, 27, 28, 29, 30, 31, 32].contains k
/-- all as before but for the token, the fault, what is new -/
def NF (R0 R : RefV) : Prop := (∀ k, nkB k = false → ri R k = ri R0 k) ∧ ∀ c, (c < 7 ∨ 13 < c) → ra R c = ra R0 c
theorem NF.refl (R : RefV) : NF R R := ⟨fun _ _ => rfl, fun _ _ => rfl⟩
theorem NF.trans {R0 R1 R2 : RefV} (a : NF R0 R1) (b : NF R1 R2) : NF R0 R2 := ⟨fun k hk => (b.1 k hk).trans (a.1 k hk), fun c h1 => (b.2 c h1).trans (a.2 c h1)⟩
theorem NF.i {R0 R : RefV} {k : Nat} {v : Int32} (a : NF R0 R) (hk : nkB k = true) : NF R0 (sI R k v) := ⟨fun j hj => by rw [ri_sIn (fun e => by rw [e, hk] at hj; exact absurd hj (by decide))]; exact a.1 j hj, a.2⟩
theorem NF.a {R0 R : RefV} {c : Nat} {g : AF} (a : NF R0 R) (h1 : 7 ≤ c) (h2 : c ≤ 13) : NF R0 (sA R c g) := ⟨a.1, fun j hj => by rw [ra_sAn (by omega)]; exact a.2 j hj⟩
theorem fk_nk {k : Nat} (h : nkB k = false) : fkB k = false := by
  cases e : fkB k with
  | false => rfl
  | true =>
    unfold fkB at e
    rw [List.contains_iff_mem] at e
    simp only [List.mem_cons, List.not_mem_nil, or_false] at e
    rcases e with rfl | rfl | rfl | rfl | rfl | rfl | rfl | rfl | rfl | rfl | rfl <;> exact absurd h (by decide)
theorem XF.nf {R0 R : RefV} (a : XF R0 R) : NF R0 R := ⟨fun k hk => a.1 k (fk_nk hk), fun c hc => a.2 c (by omega) (by omega) (by omega)⟩
/-- a fault -/
def FtL (R0 : RefV) (e : Int32 × Nat) (R : RefV) : Prop := NF R0 R ∧ ri R 13 = e.1 ∧ ¬ e.1 = 0 ∧ ri R 14 = nI e.2
theorem FtL.b {R0 R : RefV} {e : Int32 × Nat} (q : FtL R0 e R) : ¬ ri R 13 = 0 := by rw [q.2.1]; exact q.2.2.1
theorem FtL.a {R0 R : RefV} {e : Int32 × Nat} {c : Nat} {g : AF} (q : FtL R0 e R) (h1 : 7 ≤ c) (h2 : c ≤ 13) : FtL R0 e (sA R c g) := ⟨q.1.a h1 h2, q.2⟩
theorem FtL.i {R0 R : RefV} {e : Int32 × Nat} {k : Nat} {v : Int32} (q : FtL R0 e R) (hk : nkB k = true) (h1 : k ≠ 13) (h2 : k ≠ 14) : FtL R0 e (sI R k v) := ⟨q.1.i hk, by rw [ri_sIn (Ne.symm h1)]; exact q.2.1, q.2.2.1, by rw [ri_sIn (Ne.symm h2)]; exact q.2.2.2⟩
/-- good, at the token st -/
def DG (f : AF) (len : Nat) (R0 : RefV) (st : Nat) (R : RefV) : Prop := NF R0 R ∧ TpR f len R ∧ TkR f len st R ∧ ri R 13 = 0 ∧ ri R 14 = ri R0 14
theorem TpR.nf {f : AF} {len : Nat} {R R' : RefV} (q : TpR f len R) (a : NF R R') : TpR f len R' := ⟨q.1, by rw [a.1 16 rfl]; exact q.2.1, fun k hk => by rw [a.2 5 (by omega)]; exact q.2.2.1 k hk, q.2.2.2⟩
section DGs
variable {g : GG} {h : Hp} {B d D len st kc ks mc ms : Nat} {R R0 R' : RefV} {f : AF} {Pt : String → Hp → Prop}
theorem DG.go (q : DG f len R0 st R) (gf : GF R R') (tk : TkR f len (adv f len st) R') : DG f len R0 (adv f len st) R' := ⟨q.1.trans gf.xf.nf, q.2.1.gf gf, tk, by rw [gf.1 13 (by omega)]; exact q.2.2.2.1, by rw [gf.1 14 (by omega)]; exact q.2.2.2.2⟩
theorem DG.a {c : Nat} {g : AF} (q : DG f len R0 st R) (h1 : 7 ≤ c) (h2 : c ≤ 13) : DG f len R0 st (sA R c g) := ⟨q.1.a h1 h2, q.2.1.nf ((NF.refl R).a h1 h2), q.2.2.1, q.2.2.2⟩
theorem DG.i {k : Nat} {v : Int32} (q : DG f len R0 st R) (h1 : 24 ≤ k) (h2 : k ≤ 32) : DG f len R0 st (sI R k v) := by
  have hk : nkB k = true := by
    have : k = 24 ∨ k = 25 ∨ k = 26 ∨ k = 27 ∨ k = 28 ∨ k = 29 ∨ k = 30 ∨ k = 31 ∨ k = 32 := by omega
    rcases this with rfl | rfl | rfl | rfl | rfl | rfl | rfl | rfl | rfl <;> rfl
  exact ⟨q.1.i hk, q.2.1.nf ((NF.refl R).i hk), q.2.2.1.i (by omega), by rw [ri_sIn (by omega)]; exact q.2.2.2.1, by rw [ri_sIn (by omega)]; exact q.2.2.2.2⟩
theorem DG.fl (q : DG f len R0 st R) {e : Int32} (he : ¬ e = 0) : FtL R0 (e, st) (sI (sI R 13 e) 14 (ri R 19)) := ⟨(q.1.i rfl).i rfl, by rw [ri_sIn (by decide), ri_sI], he, by rw [ri_sI]; exact q.2.2.1.2.2.2.1⟩
theorem DG.gd (q : DG f len R0 st R) : ri R 13 = 0 := q.2.2.2.1
theorem DG.tk (q : DG f len R0 st R) : TkR f len st R := q.2.2.1
theorem DG.tp (q : DG f len R0 st R) : TpR f len R := q.2.1
theorem d_numberN (hg : GOK g) (hd : 9 ≤ d) (hR : RA h B R) (hb : ¬ ri R 13 = 0) (lo hi : Int32) : CT g d yX12_number (wsC yX12_number cX12_number 4 (some .int)) [.ref B, .int lo, .int hi] h 0 0 (fun v h2 => v = some (.int 0) ∧ h2 = h) noT := by
  refine CT_ofB (by decide +kernel) (Nat.le_of_ble_eq_true rfl) rfl fun K XX => ?_
  exact b_X12_number_0 hg (by omega) k00 XX _ _ _ _ ⟨_, hR.o, u_good hg hR (by omega) k00 (fun z => absurd z hb) (fun _ => ⟨fun z => absurd rfl z, fun _ => ⟨rfl, rfl⟩⟩)⟩
/-- a number is asked for -/
theorem u_num {Z : Nat → Nat → Int32 → Hp → Prop} (hg : GOK g) (hR : RA h B R0) (q : DG f len R0 st R) (lo hi : Int32) (hd : 12 ≤ D) (hk : kc ≤ mc ∧ ks ≤ ms)
    (yes : nbP f len lo hi st = 0 → ∀ R', GF R R' → DG f len R0 (adv f len st) R' → Z 0 0 (vaP f len st) (pR h B R'))
    (no : ¬ nbP f len lo hi st = 0 → ∀ x R', FtL R0 (nbP f len lo hi st, st) R' → XF R R' → Z 0 0 x (pR h B R')) :
    ∃ d1 P1 E1 m1 n1, CT g d1 yX12_number (wsC yX12_number cX12_number 4 (some .int)) [.ref B, .int lo, .int hi] (pR h B R) m1 n1 P1 E1 ∧ (d1 + 1 ≤ D ∧ kc + m1 ≤ mc ∧ ks + n1 ≤ ms) ∧ (∀ E h', E1 E h' → Pt E h') ∧ (∀ v h1, P1 v h1 → ∃ x, v = some (.int x) ∧ Z m1 n1 x h1) := by
  have r1 := hR.put R
  have hk2 := q.tk
  have l7 := q.tp.1
  have hn := nxF_le (f := f) hk2.1
  have hc : CT g (D - 1) yX12_number (wsC yX12_number cX12_number 4 (some .int)) [.ref B, .int lo, .int hi] (pR h B R) 0 0 (fun v h2 => ∃ x, v = some (.int x) ∧ Z 0 0 x h2) noT := by
    refine CT_ofB (by decide +kernel) (Nat.le_of_ble_eq_true rfl) rfl fun K XX => ?_
    -- the end, good
    have fin : nbP f len lo hi st = 0 → VB g K 4 (D - 1) 0 0 (fun v h2 => ∃ x, v = some (.int x) ∧ Z 0 0 x h2) noT 0 0 54 [some (.ref B), none, none, none] [] (pR h B R) := by
      intro e
      have e21 := hk2.2.2.2.2.2.1 (nb_ok e).1
      refine b_X12_number_54 hg (by omega) k00 XX _ _ ⟨_, by rw [r1.i21, e21], _, r1.o, u_good hg r1 (by omega) k00 (fun _ => ⟨fun z => absurd z (by decide), fun _ => ⟨_, r1.o, use_vR (d_go (d := D - 1 - 1) hg (by omega) r1 q.tp hk2) (by omega) k00 ?_⟩⟩) (fun z => absurd q.gd z)⟩
      rintro R2 ⟨gf, tk⟩
      rw [hR.pp]
      exact ⟨_, rfl, yes e R2 gf (q.go gf tk)⟩
    have bad : ∀ e : Int32, nbP f len lo hi st = e → ¬ e = 0 → VB g K 4 (D - 1) 0 0 (fun v h2 => ∃ x, v = some (.int x) ∧ Z 0 0 x h2) noT 0 0 54 [some (.ref B), none, none, none] [] (pR h B (sI (sI R 13 e) 14 (ri R 19))) := by
      intro e he hne
      have fl := q.fl hne
      have r2 := hR.put (sI (sI R 13 e) 14 (ri R 19))
      refine b_X12_number_54 hg (by omega) k00 XX _ _ ⟨_, r2.i21, _, r2.o, u_good hg r2 (by omega) k00 (fun z => absurd z fl.b) (fun _ => ⟨fun _ => ⟨_, rfl, no (by rw [he]; exact hne) _ _ (by rw [he]; exact fl) (((XF.refl R).i rfl).i rfl)⟩, fun z => absurd rfl z⟩)⟩
    have two : nbP f len lo hi st = 2 → VB g K 4 (D - 1) 0 0 (fun v h2 => ∃ x, v = some (.int x) ∧ Z 0 0 x h2) noT 0 0 49 [some (.ref B), none, none, none] [] (pR h B R) := by
      intro e
      refine b_X12_number_49 hg (by omega) k00 XX _ _ ⟨_, r1.o, use_v (d_wrong (d := D - 1 - 1) hg (by omega) r1 q.gd 2) (by omega) k00 ?_⟩
      intro h1 e1
      rw [e1, hR.pp]
      exact bad 2 e (by decide)
    refine b_X12_number_0 hg (by omega) k00 XX _ _ _ _ ⟨_, r1.o, u_good hg r1 (by omega) k00 (fun _ => ⟨fun _ => ⟨_, by rw [r1.i18, hk2.2.2.1], fun y => ?_, fun y => ⟨_, r1.o, use_v (d_wrong (d := D - 1 - 1) hg (by omega) r1 q.gd 1) (by omega) k00 ?_⟩⟩, fun z => absurd z (by decide)⟩) (fun z => absurd q.gd z)⟩
    · rw [srt (by decide)] at y
      have e21 := hk2.2.2.2.2.2.1 y
      have e21' : ri R 21 = vaP f len st := e21
      refine ⟨_, by rw [r1.i20, hk2.2.2.2.2.1], fun z => two ?_, fun z => ⟨_, by rw [r1.i21, e21'], fun z1 => two ?_, fun z1 => ⟨_, by rw [r1.i21, e21'], fun z2 => fin ?_, fun z2 => two ?_⟩⟩⟩
      · rw [nbP, if_pos y, if_pos (Or.inl (lt_nI (x := 4) (by omega) (by omega) z))]
      · rw [nbP, if_pos y, if_pos (Or.inr (Or.inl z1))]
      · have z' := nlt_nI (x := 4) (by omega) (by omega) z
        rw [nbP, if_pos y, if_neg (by rintro (e | e | e); omega; exact z1 e; exact e z2)]
      · rw [nbP, if_pos y, if_pos (Or.inr (Or.inr z2))]
    · intro h1 e1
      rw [e1, hR.pp]
      rw [srt (by decide)] at y
      exact bad 1 (by rw [nbP, if_neg y]) (by decide)
  exact ⟨D - 1, _, _, 0, 0, hc, ⟨by omega, hk.1, hk.2⟩, fun _ _ z => z.elim, fun v h1 p => p⟩
end DGs
/-! what is new, on both sides -/
def RuA (out : List Int32) (at_ : Int32) (x : RuX) : Prop := match x with
  | none => at_ = -1
  | some y => ∃ pre post : List Int32, at_ = nI pre.length ∧ out = post ++ (0 :: enR y.2 ++ pre)
theorem RuA.push {out : List Int32} {at_ : Int32} {x : RuX} (q : RuA out at_ x) (z : List Int32) : RuA (z ++ out) at_ x := by
  cases x with
  | none => exact q
  | some y =>
    obtain ⟨pre, post, a, b⟩ := q
    exact ⟨pre, z ++ post, a, by rw [b, List.append_assoc]⟩
def NwR (N W : Nat) (L : LandV) (g : AF) : Prop := g 0 = 0 ∧ (∀ s, s < N → g (1 + s) = lStr L s ∧ g (13 + s) = lSm L s ∧ g (25 + s) = lSt L s) ∧ (∀ s, N ≤ s → s < 12 → g (1 + s) = 0 ∧ g (25 + s) = 0) ∧ ∀ w, w < W → g (37 + w) = lAt L w ∧ g (43 + w) = lTh L w
def DB (T : ToldV) (L : LandV) (xF xP : RuX) (out : List Int32) (R : RefV) : Prop := (ri R 24 = nI (tN_ T) ∧ ri R 25 = nI (tW T) ∧ ri R 26 = (tK T).1 ∧ ri R 27 = (if tWg T = 0 then -1 else tWk T)) ∧ (RuA out (ri R 28) xF ∧ RuA out (ri R 29) xP) ∧ (ri R 30 = nI out.length ∧ Stk (ra R 11) out) ∧ (∀ w, w < tW T → ra R 7 w = tSk T w) ∧ (∀ k, k < mOf T → ra R 8 k = (tK T).2.1 k ∧ ra R 9 k = (tK T).2.2.1 k) ∧ NwR (tN_ T) (tW T) L (ra R 10)
theorem DB.of {T : ToldV} {L : LandV} {xF xP : RuX} {out : List Int32} {R R' : RefV} (q : DB T L xF xP out R) (h1 : ∀ k, 24 ≤ k → k ≤ 30 → ri R' k = ri R k) (h2 : ∀ c, 7 ≤ c → c ≤ 11 → ra R' c = ra R c) : DB T L xF xP out R' := by
  unfold DB
  rw [h1 24 (by omega) (by omega), h1 25 (by omega) (by omega), h1 26 (by omega) (by omega), h1 27 (by omega) (by omega), h1 28 (by omega) (by omega), h1 29 (by omega) (by omega), h1 30 (by omega) (by omega), h2 7 (by omega) (by omega), h2 8 (by omega) (by omega), h2 9 (by omega) (by omega), h2 10 (by omega) (by omega), h2 11 (by omega) (by omega)]
  exact q
theorem DB.gf {T : ToldV} {L : LandV} {xF xP : RuX} {out : List Int32} {R R' : RefV} (q : DB T L xF xP out R) (a : GF R R') : DB T L xF xP out R' := q.of (fun k h1 _ => a.1 k (by omega)) (fun c _ _ => a.2 c)
/-- the whole relation at a line's begin, or ahead of its last sign -/
def DR (f : AF) (len : Nat) (R0 : RefV) (st : Nat) (T : ToldV) (L : LandV) (xF xP : RuX) (out : List Int32) (R : RefV) : Prop := DI len st T L xF xP ∧ DG f len R0 st R ∧ DB T L xF xP out R ∧ out.length ≤ 2 * st
/-- .. or a fault -/
def DX (f : AF) (len : Nat) (R0 : RefV) (p : LR) (R : RefV) : Prop := match p with
  | .inl z => ∃ xF xP out, DR f len R0 z.1 z.2.1 z.2.2 xF xP out R
  | .inr e => FtL R0 e R
def LnR (f : AF) (len : Nat) (R0 : RefV) (p : LR) (h : Hp) (B : Nat) (v : Option Value) (h2 : Hp) : Prop := v = none ∧ ∃ R', h2 = pR h B R' ∧ DX f len R0 p R'
def smB (f : AF) (len : Nat) (p : LR) : LR := match p with
  | .inr e => .inr e
  | .inl z => smK f len z.1 z.2.1 z.2.2
theorem nbK_sm {f : AF} {len st : Nat} {lo hi : Int32} {k : LR} : smB f len (nbK f len lo hi st k) = nbK f len lo hi st (smB f len k) := by
  unfold nbK
  split <;> rfl
def rsS (f : AF) (len a : Nat) (T : ToldV) (L : LandV) : LR := nbK f len 0 99 a (nbK f len 0 99 (ad1 f len a) (nbK f len 0 2 (ad2 f len a) (.inl (ad3 f len a, zN_ T (tN_ T + 1), sSt (sSm (sStr L (tN_ T) (vaP f len a)) (tN_ T) (vaP f len (ad1 f len a))) (tN_ T) (vaP f len (ad2 f len a))))))
theorem lnS_sm {f : AF} {len st : Nat} {T : ToldV} {L : LandV} : lnS f len st T L = if tN_ T < 12 then smB f len (rsS f len (adv f len st) T L) else .inr (2, st) := by
  unfold lnS rsS
  rw [nbK_sm, nbK_sm, nbK_sm]
  rfl
def rsW (f : AF) (len a : Nat) (T : ToldV) (L : LandV) : LR := nbK f len 0 9 a (nbK f len 0 9999 (ad1 f len a) (if vaP f len (ad1 f len a) < nI (tN_ T) then (nbK f len 0 99 (ad2 f len a) (.inl (ad3 f len a, zW (zSk T (upd (tSk T) (tW T) (vaP f len a))) (tW T + 1), sTh (sAt L (tW T) (vaP f len (ad1 f len a))) (tW T) (vaP f len (ad2 f len a))))) else .inr (3, ad1 f len a)))
theorem lnW_sm {f : AF} {len st : Nat} {T : ToldV} {L : LandV} : lnW f len st T L = if tW T < 6 then smB f len (rsW f len (adv f len st) T L) else .inr (2, st) := by
  unfold lnW rsW
  rw [nbK_sm, nbK_sm]
  by_cases y : tW T < 6
  · rw [if_pos y, if_pos y]
    by_cases z : vaP f len (ad2 f len st) < nI (tN_ T)
    · have z' : vaP f len (ad1 f len (adv f len st)) < nI (tN_ T) := z
      rw [if_pos z, if_pos z', nbK_sm]
      rfl
    · have z' : ¬ vaP f len (ad1 f len (adv f len st)) < nI (tN_ T) := z
      rw [if_neg z, if_neg z']
      rfl
  · rw [if_neg y, if_neg y]
theorem ad3_ge {f : AF} {len st : Nat} (h : st ≤ len) : st ≤ ad3 f len st ∧ ad3 f len st ≤ len := by
  have g1 := adv_ge (f := f) h
  have g2 := adv_ge (f := f) (adv_le (f := f) h)
  have g3 := adv_ge (f := f) (adv_le (f := f) (adv_le (f := f) h))
  have l3 := adv_le (f := f) (adv_le (f := f) (adv_le (f := f) h))
  show st ≤ adv f len (adv f len (adv f len st)) ∧ adv f len (adv f len (adv f len st)) ≤ len
  omega
section RLN
variable {g : GG} {h : Hp} {B d len st : Nat} {R R0 : RefV} {f : AF} {T : ToldV} {L : LandV} {xF xP : RuX} {out : List Int32}
theorem one_nI (n : Nat) : (1 : Int32) + nI n = nI (1 + n) := by rw [show (1 : Int32) = nI 1 from rfl, nI_add]
theorem l13_nI (n : Nat) : (13 : Int32) + nI n = nI (13 + n) := by rw [show (13 : Int32) = nI 13 from rfl, nI_add]
theorem l25_nI (n : Nat) : (25 : Int32) + nI n = nI (25 + n) := by rw [show (25 : Int32) = nI 25 from rfl, nI_add]
theorem l37_nI (n : Nat) : (37 : Int32) + nI n = nI (37 + n) := by rw [show (37 : Int32) = nI 37 from rfl, nI_add]
theorem l43_nI (n : Nat) : (43 : Int32) + nI n = nI (43 + n) := by rw [show (43 : Int32) = nI 43 from rfl, nI_add]
theorem d_readsStretch (hg : GOK g) (hd : 14 ≤ d) (hR : RA h B R0) (hN : tN_ T < 12) (q : DR f len R0 st T L xF xP out R) : CT g d yX12_readsStretch (wsC yX12_readsStretch cX12_readsStretch 2 none) [.ref B] (pR h B R) 0 0 (LnR f len R0 (rsS f len st T L) h B) noT := by
  obtain ⟨di, dg, db, ol⟩ := q
  refine CT_ofB (by decide +kernel) (Nat.le_of_ble_eq_true rfl) rfl fun K XX => ?_
  have r1 := hR.put R
  have e24 : ri R 24 = nI (tN_ T) := db.1.1
  unfold rsS
  refine b_X12_readsStretch_0 hg (by omega) k00 XX _ _ ⟨_, by rw [r1.i24, e24], _, r1.n36, _, r1.o, u_num hg hR dg 0 99 (by omega) k00 (fun y1 R2 gf2 dg2 => ?_) (fun y1 x R2 fl2 xf2 => ?_)⟩
  · rw [nbK, if_pos y1, one_nI]
    have r2 := hR.put R2
    have e24b : ri R2 24 = nI (tN_ T) := by rw [gf2.1 24 (by omega), e24]
    refine ⟨_, r2.u10 (by omega), ?_⟩
    rw [hR.pp]
    have dg3 := dg2.a (c := 10) (g := upd (ra R2 10) (1 + tN_ T) (vaP f len st)) (by omega) (by omega)
    have r3 := hR.put (sA R2 10 (upd (ra R2 10) (1 + tN_ T) (vaP f len st)))
    refine ⟨_, r3.n36, _, r3.o, u_num hg hR dg3 0 99 (by omega) k00 (fun y2 R4 gf4 dg4 => ?_) (fun y2 x R4 fl4 xf4 => ?_)⟩
    · rw [nbK, if_pos y2, l13_nI]
      have r4 := hR.put R4
      refine ⟨_, r4.u10 (by omega), ?_⟩
      rw [hR.pp]
      have dg5 := dg4.a (c := 10) (g := upd (ra R4 10) (13 + tN_ T) (vaP f len (adv f len st))) (by omega) (by omega)
      have r5 := hR.put (sA R4 10 (upd (ra R4 10) (13 + tN_ T) (vaP f len (adv f len st))))
      refine ⟨_, r5.n36, _, r5.o, u_num hg hR dg5 0 2 (by omega) k00 (fun y3 R6 gf6 dg6 => ?_) (fun y3 x R6 fl6 xf6 => ?_)⟩
      · rw [nbK, if_pos y3, l25_nI]
        have r6 := hR.put R6
        refine ⟨_, r6.u10 (by omega), ?_⟩
        rw [hR.pp]
        have dg7 := dg6.a (c := 10) (g := upd (ra R6 10) (25 + tN_ T) (vaP f len (ad2 f len st))) (by omega) (by omega)
        have r7 := hR.put (sA R6 10 (upd (ra R6 10) (25 + tN_ T) (vaP f len (ad2 f len st))))
        have e24d : ri (sA R6 10 (upd (ra R6 10) (25 + tN_ T) (vaP f len (ad2 f len st)))) 24 = nI (tN_ T) := by
          show ri R6 24 = _
          rw [gf6.1 24 (by omega)]
          show ri R4 24 = _
          rw [gf4.1 24 (by omega)]
          exact e24b
        refine ⟨_, r7.o, u_good hg r7 (by omega) k00 (fun _ => ⟨fun z => absurd z (by decide), fun _ => ⟨_, by rw [r7.i24, e24d], ?_⟩⟩) (fun z => absurd dg7.gd z)⟩
        rw [nI_s]
        refine ⟨_, r7.w24 _, rfl, _, hR.pp _ _, xF, xP, out, ?_, dg7.i (by omega) (by omega), ?_, ?_⟩
        · have h3 := nb_v (a := 0) (b := 99) y1 rfl rfl (by omega) (by omega)
          have h4 := nb_v (a := 0) (b := 99) y2 rfl rfl (by omega) (by omega)
          have h5 := nb_v (a := 0) (b := 2) y3 rfl rfl (by omega) (by omega)
          refine (di.go (ad3_ge (f := f) dg.tk.1).1 (ad3_ge (f := f) dg.tk.1).2).stretch hN ?_ ?_ ?_
          · obtain ⟨c, c1, c2, c3⟩ := h3; exact ⟨c, c2, c3⟩
          · obtain ⟨c, c1, c2, c3⟩ := h4; exact ⟨c, c2, c3⟩
          · obtain ⟨c, c1, c2, c3⟩ := h5; exact ⟨c, c2, c3⟩
        · -- the new rows
          obtain ⟨⟨b1, b2, b3, b4⟩, b5, ⟨b6, b7⟩, b8, b9, n0, n1, n2, n3⟩ := db
          have f10 : ∀ j, ra R6 10 j = upd (upd (ra R 10) (1 + tN_ T) (vaP f len st)) (13 + tN_ T) (vaP f len (adv f len st)) j := by
            intro j
            rw [gf6.2, ra_sA, gf4.2, ra_sA, gf2.2]
          have fi : ∀ k, (k < 17 ∨ 22 < k) → ri R6 k = ri R k := fun k hk => by
            rw [gf6.1 k hk]
            show ri R4 k = _
            rw [gf4.1 k hk]
            show ri R2 k = _
            rw [gf2.1 k hk]
          have fa : ∀ c, c ≠ 10 → ra R6 c = ra R c := fun c hc => by
            rw [gf6.2, ra_sAn hc, gf4.2, ra_sAn hc, gf2.2]
          refine ⟨⟨ri_sI, ?_, ?_, ?_⟩, ?_, ⟨?_, ?_⟩, fun w hw => ?_, fun k hk => ?_, ?_⟩
          · rw [ri_sIn (by decide)]; show ri R6 25 = _; rw [fi 25 (by omega)]; exact b2
          · rw [ri_sIn (by decide)]; show ri R6 26 = _; rw [fi 26 (by omega)]; exact b3
          · rw [ri_sIn (by decide)]; show ri R6 27 = _; rw [fi 27 (by omega)]; exact b4
          · rw [ri_sIn (by decide), ri_sIn (by decide)]
            show RuA out (ri R6 28) xF ∧ RuA out (ri R6 29) xP
            rw [fi 28 (by omega), fi 29 (by omega)]; exact b5
          · rw [ri_sIn (by decide)]; show ri R6 30 = _; rw [fi 30 (by omega)]; exact b6
          · show Stk (ra (sA R6 10 _) 11) out; rw [ra_sAn (by decide), fa 11 (by decide)]; exact b7
          · show ra (sA R6 10 _) 7 w = _; rw [ra_sAn (by decide), fa 7 (by decide)]; exact b8 w hw
          · show ra (sA R6 10 _) 8 k = _ ∧ ra (sA R6 10 _) 9 k = _
            rw [ra_sAn (by decide), ra_sAn (by decide), fa 8 (by decide), fa 9 (by decide)]; exact b9 k hk
          · show NwR (tN_ T + 1) (tW T) _ (ra (sA R6 10 (upd (ra R6 10) (25 + tN_ T) (vaP f len (ad2 f len st)))) 10)
            have w6 : tW T ≤ 6 := di.1.2.1
            rw [ra_sA]
            have un : ∀ j, j ≠ 1 + tN_ T → j ≠ 13 + tN_ T → j ≠ 25 + tN_ T → upd (ra R6 10) (25 + tN_ T) (vaP f len (ad2 f len st)) j = ra R 10 j := fun j j1 j2 j3 => by
              rw [pk_un j3, f10, pk_un j2, pk_un j1]
            refine ⟨by rw [un 0 (by omega) (by omega) (by omega)]; exact n0, fun s hs => ?_, fun s s1 s2 => ?_, fun w hw => ?_⟩
            · show _ = upd (lStr L) (tN_ T) (vaP f len st) s ∧ _ = upd (lSm L) (tN_ T) (vaP f len (ad1 f len st)) s ∧ _ = upd (lSt L) (tN_ T) (vaP f len (ad2 f len st)) s
              by_cases e : s = tN_ T
              · rw [e, pk_us, pk_us, pk_us, pk_un (show 1 + tN_ T ≠ 25 + tN_ T by omega), f10, pk_un (show 1 + tN_ T ≠ 13 + tN_ T by omega), pk_us, pk_un (show 13 + tN_ T ≠ 25 + tN_ T by omega), f10, pk_us, pk_us]
                exact ⟨rfl, rfl, rfl⟩
              · rw [pk_un e, pk_un e, pk_un e, un (1 + s) (by omega) (by omega) (by omega), un (13 + s) (by omega) (by omega) (by omega), un (25 + s) (by omega) (by omega) (by omega)]
                exact n1 s (by omega)
            · rw [un (1 + s) (by omega) (by omega) (by omega), un (25 + s) (by omega) (by omega) (by omega)]
              exact n2 s (by omega) s2
            · rw [un (37 + w) (by omega) (by omega) (by omega), un (43 + w) (by omega) (by omega) (by omega)]
              exact n3 w hw
        · have g1 := (ad3_ge (f := f) dg.tk.1).1
          show out.length ≤ 2 * ad3 f len st
          omega
      · rw [nbK, if_neg y3, l25_nI]
        have r6 := hR.put R6
        refine ⟨_, r6.u10 (by omega), ?_⟩
        rw [hR.pp]
        have fl7 := fl6.a (c := 10) (g := upd (ra R6 10) (25 + tN_ T) x) (by omega) (by omega)
        have r7 := hR.put (sA R6 10 (upd (ra R6 10) (25 + tN_ T) x))
        exact ⟨_, r7.o, u_good hg r7 (by omega) k00 (fun z => absurd z fl7.b) (fun _ => ⟨fun _ => ⟨rfl, _, rfl, fl7⟩, fun z => absurd rfl z⟩)⟩
    · rw [nbK, if_neg y2, l13_nI]
      have r4 := hR.put R4
      refine ⟨_, r4.u10 (by omega), ?_⟩
      rw [hR.pp]
      have fl5 := fl4.a (c := 10) (g := upd (ra R4 10) (13 + tN_ T) x) (by omega) (by omega)
      have r5 := hR.put (sA R4 10 (upd (ra R4 10) (13 + tN_ T) x))
      refine ⟨_, r5.n36, _, r5.o, use_i (d_numberN (d := d - 1) hg (by omega) r5 fl5.b 0 2) (by omega) k00 ?_⟩
      rw [l25_nI]
      refine ⟨_, r5.u10 (by omega), ?_⟩
      rw [hR.pp]
      have fl7 := fl5.a (c := 10) (g := upd (ra (sA R4 10 (upd (ra R4 10) (13 + tN_ T) x)) 10) (25 + tN_ T) 0) (by omega) (by omega)
      generalize sA (sA R4 10 (upd (ra R4 10) (13 + tN_ T) x)) 10 (upd (ra (sA R4 10 (upd (ra R4 10) (13 + tN_ T) x)) 10) (25 + tN_ T) 0) = R7 at *
      have r7 := hR.put R7
      exact ⟨_, r7.o, u_good hg r7 (by omega) k00 (fun z => absurd z fl7.b) (fun _ => ⟨fun _ => ⟨rfl, _, rfl, fl7⟩, fun z => absurd rfl z⟩)⟩
  · rw [nbK, if_neg y1, one_nI]
    have r2 := hR.put R2
    refine ⟨_, r2.u10 (by omega), ?_⟩
    rw [hR.pp]
    have fl3 := fl2.a (c := 10) (g := upd (ra R2 10) (1 + tN_ T) x) (by omega) (by omega)
    generalize sA R2 10 (upd (ra R2 10) (1 + tN_ T) x) = R3 at *
    have r3 := hR.put R3
    refine ⟨_, r3.n36, _, r3.o, use_i (d_numberN (d := d - 1) hg (by omega) r3 fl3.b 0 99) (by omega) k00 ?_⟩
    rw [l13_nI]
    refine ⟨_, r3.u10 (by omega), ?_⟩
    rw [hR.pp]
    have fl5 := fl3.a (c := 10) (g := upd (ra R3 10) (13 + tN_ T) 0) (by omega) (by omega)
    generalize sA R3 10 (upd (ra R3 10) (13 + tN_ T) 0) = R5 at *
    have r5 := hR.put R5
    refine ⟨_, r5.n36, _, r5.o, use_i (d_numberN (d := d - 1) hg (by omega) r5 fl5.b 0 2) (by omega) k00 ?_⟩
    rw [l25_nI]
    refine ⟨_, r5.u10 (by omega), ?_⟩
    rw [hR.pp]
    have fl7 := fl5.a (c := 10) (g := upd (ra R5 10) (25 + tN_ T) 0) (by omega) (by omega)
    generalize sA R5 10 (upd (ra R5 10) (25 + tN_ T) 0) = R7 at *
    have r7 := hR.put R7
    exact ⟨_, r7.o, u_good hg r7 (by omega) k00 (fun z => absurd z fl7.b) (fun _ => ⟨fun _ => ⟨rfl, _, rfl, fl7⟩, fun z => absurd rfl z⟩)⟩
end RLN
