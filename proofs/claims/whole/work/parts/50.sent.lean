/-! SENDING: who goes where -/
def pcN (k : Nat) : Nat := k % 2 + k / 2 % 2 + k / 4 % 2 + k / 8 % 2 + k / 16 % 2 + k / 32 % 2 + k / 64 % 2 + k / 128 % 2 + k / 256 % 2 + k / 512 % 2 + k / 1024 % 2 + k / 2048 % 2
theorem bc_pcA : ∀ a, a < 64 → ∀ b, b < 64 → bcE (nI (64 * a + b)) = nI (pcN (64 * a + b)) := by decide +kernel
theorem bc_pc {k : Nat} (hk : k < 4096) : bcE (nI k) = nI (pcN k) := by
  have := bc_pcA (k / 64) (by omega) (k % 64) (by omega)
  rw [show 64 * (k / 64) + k % 64 = k by omega] at this
  exact this
theorem pcN_le (k : Nat) : pcN k ≤ 12 := by unfold pcN; omega
theorem gn_bit : ∀ a, a < 64 → ∀ w, w < 6 → bitE (nI a) w = if a.testBit w then 1 else 0 := by decide +kernel
theorem gn_or : ∀ a, a < 64 → ∀ w, w < 6 → nI a ||| ((1 : Int32) <<< (nI w &&& 31)) = nI (a ||| 2 ^ w) := by decide +kernel
theorem gn_pc : ∀ a, a < 64 → ∀ w, w < 6 → a.testBit w = false → pcN (a ||| 2 ^ w) = pcN a + 1 ∧ a < a ||| 2 ^ w := by decide +kernel
theorem gn_lt {a w W : Nat} (ha : a < 2 ^ W) (hw : w < W) : a ||| 2 ^ w < 2 ^ W := Nat.or_lt_two_pow ha (Nat.pow_lt_pow_right (by omega) hw)
def goG (v : Int32) (i : Nat) (p : Nat × AF) : Nat × AF := if bitE v i = 1 then (if 6 ≤ p.1 then p else (p.1 + 1, upd p.2 p.1 (nI i))) else p
theorem goG_le {v : Int32} {i : Nat} {p : Nat × AF} (q : p.1 ≤ 6) : (goG v i p).1 ≤ 6 := by
  unfold goG
  split
  · split
    · exact q
    · show p.1 + 1 ≤ 6; omega
  · exact q
theorem goG_les {v : Int32} : ∀ (j i : Nat) {p : Nat × AF}, p.1 ≤ 6 → (foldN (goG v) j i p).1 ≤ 6 := by
  intro j
  induction j with
  | zero => intro i p q; exact q
  | succ j ih => intro i p q; exact ih (i + 1) (goG_le q)
/-- the least over the women who have not gone -/
def mnG (gone : Nat) (c : Nat → Int32) (w : Nat) (b : Int32) : Int32 := if gone.testBit w then b else if c w < b then c w else b
def mnF (K : Int32) (W gone : Nat) (c : Nat → Int32) : Int32 := foldN (mnG gone c) W 0 K
theorem foldN_congr {σ : Type} {f f2 : Nat → σ → σ} {n : Nat} (e : ∀ k, k < n → ∀ p, f k p = f2 k p) : ∀ (j i : Nat) (p : σ), i + j ≤ n → foldN f j i p = foldN f2 j i p := by
  intro j
  induction j with
  | zero => intro i p _; rfl
  | succ j ih => intro i p hi; rw [foldN, foldN, e i (by omega), ih (i + 1) _ (by omega)]
/-- steps for the goals from i on, by those who have not gone -/
def vS (n W : Nat) (K : Int32) (at_ go : AF) : Nat → Nat → Nat → Int32
  | 0, _, _ => 0
  | j + 1, i, gone => mnF K W gone (fun w => stpE n (at_ w) (go i) + vS n W K at_ go j (i + 1) (gone ||| 2 ^ w))
def tbS (n W : Nat) (K : Int32) (at_ go : AF) (m gone : Nat) : Int32 := vS n W K at_ go (m - pcN gone) (pcN gone) gone
/-- by her, if she is the next -/
def byS (n W : Nat) (K : Int32) (at_ go : AF) (m gone w : Nat) : Int32 := if pcN gone < m then stpE n (at_ w) (go (pcN gone)) + tbS n W K at_ go m (gone ||| 2 ^ w) else 0
def nxS (n W : Nat) (K : Int32) (at_ go : AF) (m gone : Nat) : Nat → Nat → Int32
  | 0, _ => -1
  | j + 1, w => if gone.testBit w then nxS n W K at_ go m gone j (w + 1) else if byS n W K at_ go m gone w = tbS n W K at_ go m gone then nI w else nxS n W K at_ go m gone j (w + 1)
def whS (n W : Nat) (K : Int32) (at_ go : AF) (m : Nat) (v : Int32) : Nat → Nat → Nat → Int32
  | 0, _, _ => -1
  | j + 1, i, gone => if go i = v then nxS n W K at_ go m gone W 0 else whS n W K at_ go m v j (i + 1) (if nxS n W K at_ go m gone W 0 < 0 then gone else gone ||| 2 ^ (cl (nxS n W K at_ go m gone W 0)))
theorem tbS_eq {n W m gone : Nat} {K : Int32} {at_ go : AF} (hW : W ≤ 6) (h64 : gone < 64) (hp : pcN gone < m) : tbS n W K at_ go m gone = foldN (mnG gone (byS n W K at_ go m gone)) W 0 K := by
  rw [tbS, show m - pcN gone = (m - pcN gone - 1) + 1 by omega, vS, mnF]
  refine foldN_congr (n := W) (fun w hw p => ?_) _ _ _ (by omega)
  unfold mnG
  by_cases hb : gone.testBit w = true
  · rw [if_pos hb, if_pos hb]
  · have := (gn_pc gone h64 w (by omega) (by simpa using hb)).1
    rw [if_neg hb, if_neg hb]
    simp only [byS, if_pos hp, tbS, this, show m - (pcN gone + 1) = m - pcN gone - 1 by omega]
section SE
variable {g : GG} {h0 h : Hp} {s : CoreV} {x : ScrV} {d : Nat}
theorem se_o (hC : CA h0 h s x) : oF h 79 8 = some [.ref 80, .ref 81, .int (xSe x).2.2] := oF_of (hC.se 0 _ rfl)
theorem se_0 (hC : CA h0 h s x) : gN h 79 8 0 = some 80 := by unfold gN; rw [se_o hC]; rfl
theorem se_1 (hC : CA h0 h s x) : gN h 79 8 1 = some 81 := by unfold gN; rw [se_o hC]; rfl
theorem se_2 (hC : CA h0 h s x) : gI h 79 8 2 = some (xSe x).2.2 := by unfold gI; rw [se_o hC]; rfl
theorem se_l (hC : CA h0 h s x) : lenA h 81 = some (nI 6) := by unfold lenA; rw [show h[81]? = _ from hC.se 2 _ rfl]; rfl
theorem se_w2 (hC : CA h0 h s x) (v : Int32) : pF h 79 8 2 (.int v) = some (putC h 79 (senC ((xSe x).1, (xSe x).2.1, v))) := by
  unfold pF
  rw [se_o hC]
  simp only [List.length_cons, List.length_nil, Nat.zero_add, Nat.reduceAdd, Nat.reduceLT, if_true]
  rw [show h.set 79 = h.set (79 + 0) from rfl, hC.se.set (j := 0) (by simp [senC])]
  rfl
theorem se_fw {k : Nat} {v : Int32} (hC : CA h0 h s x) (hk : k < 64) : uI h 0 80 (nI k) v = some (putC h 79 (senC (upd (xSe x).1 k v, (xSe x).2))) := by
  rw [uI_of (aF_of (hC.se 1 _ rfl)) hk (by omega), show h.set 80 = h.set (79 + 1) from rfl, hC.se.set (j := 1) (by simp [senC])]
  rfl
theorem se_gw {k : Nat} {v : Int32} (hC : CA h0 h s x) (hk : k < 6) : uI h 0 81 (nI k) v = some (putC h 79 (senC ((xSe x).1, upd (xSe x).2.1 k v, (xSe x).2.2))) := by
  rw [uI_of (aF_of (hC.se 2 _ rfl)) hk (by omega), show h.set 81 = h.set (79 + 2) from rfl, hC.se.set (j := 2) (by simp [senC])]
  rfl
theorem se_fr {k : Nat} (hC : CA h0 h s x) (hk : k < 64) : aI h 0 80 (nI k) = some ((xSe x).1 k) := aI_of (aF_of (hC.se 1 _ rfl)) hk (by omega)
theorem se_gr {k : Nat} (hC : CA h0 h s x) (hk : k < 6) : aI h 0 81 (nI k) = some ((xSe x).2.1 k) := aI_of (aF_of (hC.se 2 _ rfl)) hk (by omega)
/-- the table holds, at those above t -/
def TbOK (s : CoreV) (x : ScrV) (go : AF) (m t : Nat) : Prop := (xSe x).2.1 = go ∧ (xSe x).2.2 = nI m ∧ ∀ k, t ≤ k → k < 2 ^ sW s → (xSe x).1 k = tbS (sN s) (sW s) 1000 (lAt (sL s)) go m k
theorem c_stepsBy {gone w m : Nat} {go : AF} (hg : GOK g) (hd : 9 ≤ d) (hC : CA h0 h s x) (hI : IS s) (hm : m ≤ 6) (hG : gone < 2 ^ sW s) (hw : w < sW s) (hb : gone.testBit w = false) (hT : TbOK s x go m (gone + 1)) : CT g d yX8_stepsBy (wsC yX8_stepsBy cX8_stepsBy 6 (some .int)) [.ref 79, .ref (tb s), .ref 27, .int (nI gone), .int (nI w)] h 0 0 (fun v h2 => v = some (.int (byS (sN s) (sW s) 1000 (lAt (sL s)) go m gone w)) ∧ h2 = h) noT := by
  have o3 : sW s ≤ 6 := hI.1.1.2.2
  have h64 : gone < 64 := by have : 2 ^ sW s ≤ 2 ^ 6 := Nat.pow_le_pow_right (by omega) o3; omega
  obtain ⟨t1, t2, t3⟩ := hT
  obtain ⟨p1, p2⟩ := gn_pc gone h64 w (by omega) hb
  have p3 := gn_lt hG hw
  have p4 : gone ||| 2 ^ w < 64 := by have : 2 ^ sW s ≤ 2 ^ 6 := Nat.pow_le_pow_right (by omega) o3; omega
  refine CT_ofB (by decide +kernel) (Nat.le_of_ble_eq_true rfl) rfl fun K X => ?_
  refine b_X8_stepsBy_0 hg (by omega) k00 X _ _ _ _ _ _ (use_i (c_bitCount (d := d - 1) hg (by omega) _) (by omega) k00 ⟨_, se_2 hC, fun q => ⟨_, hC.l.g4, _, hC.l.r4 (by omega), _, se_1 hC, ?_⟩, fun q => ?_⟩)
  · rw [bc_pc (by omega), t2] at q
    have q' : pcN gone < m := lt_nI (by have := pcN_le gone; omega) (by omega) q
    rw [bc_pc (by omega), gn_or gone h64 w (by omega)]
    refine ⟨_, se_gr hC (by omega), _, hC.t.o, use_i (c_steps (d := d - 1) hg (by omega) hC.t _ _) (by omega) k00 ⟨_, se_0 hC, _, se_fr hC p4, ?_, rfl⟩⟩
    rw [byS, if_pos q', t3 _ (by omega) p3, t1]
    rfl
  · rw [bc_pc (by omega), t2] at q
    have q' : ¬ pcN gone < m := fun e => q ((nI_ltI (by have := pcN_le gone; omega) (by omega)).mpr e)
    exact ⟨by rw [byS, if_neg q'], rfl⟩
theorem c_fewestBehind {gone m : Nat} {go : AF} (hg : GOK g) (hd : 10 ≤ d) (hC : CA h0 h s x) (hI : IS s) (hm : m ≤ 6) (hG : gone < 2 ^ sW s) (hp : pcN gone < m) (hT : TbOK s x go m (gone + 1)) : CT g d yX8_fewestBehind (wsC yX8_fewestBehind cX8_fewestBehind 6 (some .int)) [.ref 79, .ref (tb s), .ref 27, .int (nI gone)] h 0 0 (fun v h2 => v = some (.int (tbS (sN s) (sW s) 1000 (lAt (sL s)) go m gone)) ∧ h2 = h) noT := by
  have o3 : sW s ≤ 6 := hI.1.1.2.2
  have h64 : gone < 64 := by have : 2 ^ sW s ≤ 2 ^ 6 := Nat.pow_le_pow_right (by omega) o3; omega
  have eT : tbS (sN s) (sW s) 1000 (lAt (sL s)) go m gone = foldN (mnG gone (byS (sN s) (sW s) 1000 (lAt (sL s)) go m gone)) (sW s) 0 1000 := tbS_eq o3 h64 hp
  rw [eT]
  refine CT_ofB (by decide +kernel) (Nat.le_of_ble_eq_true rfl) rfl fun K X => ?_
  refine b_X8_fewestBehind_0 hg (by omega) k00 X _ _ _ _ _ ?_
  have loop : ∀ (j w : Nat) (b : Int32), w + j = tW (sT s) → foldN (mnG gone (byS (sN s) (sW s) 1000 (lAt (sL s)) go m gone)) j w b = foldN (mnG gone (byS (sN s) (sW s) 1000 (lAt (sL s)) go m gone)) (sW s) 0 1000 → VB g K 6 d 0 0 (fun v h2 => v = some (.int (foldN (mnG gone (byS (sN s) (sW s) 1000 (lAt (sL s)) go m gone)) (sW s) 0 1000)) ∧ h2 = h) noT 0 0 8 [some (.ref 79), some (.ref (tb s)), some (.ref 27), some (.int (nI gone)), some (.int b), some (.int (nI w))] [] h := by
    have o3' : tW (sT s) ≤ 6 := o3
    intro j
    induction j with
    | zero =>
      intro w b hw he
      refine b_X8_fewestBehind_8 hg (by omega) k00 X _ _ _ _ _ _ _ ⟨_, hC.t.g1, fun _ => ⟨by rw [← he]; rfl, rfl⟩, fun q => absurd (nle_nI (by show tW (sT s) < _; omega) (by omega) q) (by show ¬ _ < tW (sT s); omega)⟩
    | succ j ih =>
      intro w b hw he
      refine b_X8_fewestBehind_8 hg (by omega) k00 X _ _ _ _ _ _ _ ⟨_, hC.t.g1, fun q => absurd (le_nI (by show tW (sT s) < _; omega) (by omega) q) (by show ¬ tW (sT s) ≤ _; omega), fun _ => ⟨fun q => ?_, fun q => ?_⟩⟩
      · have hb : gone.testBit w = true := by
          have e := gn_bit gone h64 w (by omega)
          cases hb : gone.testBit w with
          | true => rfl
          | false => rw [hb] at e; exact absurd e q
        refine b_X8_fewestBehind_42 hg (by omega) k00 X _ _ _ _ _ _ _ ?_
        rw [nI_s]
        refine ih (w + 1) b (by omega) ?_
        rw [← he, foldN, mnG, if_pos hb]
      · have hb : gone.testBit w = false := by
          have e := gn_bit gone h64 w (by omega)
          cases hb : gone.testBit w with
          | false => rfl
          | true => rw [hb] at e; rw [show (nI gone >>> (nI w &&& 31)) &&& 1 = bitE (nI gone) w from rfl, e] at q; exact absurd q (by decide)
        refine ⟨_, se_o hC, use_i (c_stepsBy (d := d - 1) hg (by omega) hC hI hm hG (by show w < tW (sT s); omega) hb hT) (by omega) k00 ?_⟩
        refine b_X8_fewestBehind_42 hg (by omega) k00 X _ _ _ _ _ _ _ ?_
        rw [nI_s]
        refine ih (w + 1) _ (by omega) ?_
        have hb' : ¬ gone.testBit w = true := by rw [hb]; decide
        rw [← he, foldN, mnG, if_neg hb']
  exact loop (tW (sT s)) 0 1000 (by omega) rfl
/-- the goals of some -/
def gls (s : CoreV) (v : Int32) (f : AF) : Nat × AF := foldN (goG v) (sN s) 0 (0, f)
theorem c_weigh {v : Int32} (hg : GOK g) (hd : 12 ≤ d) (hC : CA h0 h s x) (hI : IS s) : CT g d yX8_weigh (wsC yX8_weigh cX8_weigh 5 none) [.ref 79, .ref (tb s), .ref 27, .int v] h 0 0 (fun r h2 => r = none ∧ ∃ x', CA h0 h2 s x' ∧ TbOK s x' (gls s v (xSe x).2.1).2 (gls s v (xSe x).2.1).1 0) noT := by
  have o2 : tN_ (sT s) ≤ 12 := hI.1.1.2.1
  have o3 : tW (sT s) ≤ 6 := hI.1.1.2.2
  have o3' : 2 ^ tW (sT s) ≤ 2 ^ 6 := Nat.pow_le_pow_right (by omega) o3
  refine CT_ofB (by decide +kernel) (Nat.le_of_ble_eq_true rfl) rfl fun K X => ?_
  generalize hR : gls s v (xSe x).2.1 = R
  have hR6 : R.1 ≤ 6 := by rw [← hR]; exact goG_les _ _ (Nat.zero_le _)
  have two : ∀ (t : Nat) (h : Hp) (x1 : ScrV), t ≤ 2 ^ tW (sT s) → CA h0 h s x1 → TbOK s x1 R.2 R.1 t → VB g K 5 d 0 0 (fun r h2 => r = none ∧ ∃ x', CA h0 h2 s x' ∧ TbOK s x' R.2 R.1 0) noT 0 0 76 [some (.ref 79), some (.ref (tb s)), some (.ref 27), none, some (.int (nI t - 1))] [] h := by
    intro t
    induction t with
    | zero =>
      intro h x1 _ hC hT
      exact b_X8_weigh_76 hg (by omega) k00 X _ _ _ _ _ ⟨fun _ => ⟨rfl, x1, hC, hT⟩, fun q => absurd (by decide) q⟩
    | succ t ih =>
      intro h x1 ht hC hT
      obtain ⟨t1, t2, t3⟩ := id hT
      have e1 : nI (t + 1) - 1 = nI t := by rw [nI_o, pk_sub (by omega)]; rfl
      rw [e1]
      have fin : ∀ r : Int32, r = tbS (sN s) (sW s) 1000 (lAt (sL s)) R.2 R.1 t → VB g K 5 d 0 0 (fun r h2 => r = none ∧ ∃ x', CA h0 h2 s x' ∧ TbOK s x' R.2 R.1 0) noT 0 0 111 [some (.ref 79), some (.ref (tb s)), some (.ref 27), none, some (.int (nI t))] [.int r, .int (nI t), .ref 80] h := by
        intro r er
        refine b_X8_weigh_111 hg (by omega) k00 X _ _ _ _ _ _ _ _ ⟨_, se_fw hC (by omega), ?_⟩
        have := ih _ _ (by omega) (hC.u_se (upd (xSe x1).1 t r, (xSe x1).2)) ⟨t1, t2, fun k hk hk2 => by
          show upd (xSe x1).1 t r k = _
          by_cases e : k = t
          · subst e; rw [pk_us, er]
          · rw [pk_un e]; exact t3 k (by omega) hk2⟩
        rw [show nI t + -1 = nI t - 1 from by rw [Int32.sub_eq_add_neg]]
        exact this
      refine b_X8_weigh_76 hg (by omega) k00 X _ _ _ _ _ ⟨fun q => absurd q (nI_pos (by omega)), fun _ => ⟨_, se_0 hC, use_i (c_bitCount (d := d - 1) hg (by omega) _) (by omega) k00 ⟨_, se_2 hC, fun q => ⟨_, se_o hC, ?_⟩, fun q => ?_⟩⟩⟩
      · rw [bc_pc (by omega), t2] at q
        have q' := lt_nI (by have := pcN_le t; omega) (by omega) q
        exact use_i (c_fewestBehind (d := d - 1) hg (by omega) hC hI hR6 (by show t < 2 ^ tW (sT s); omega) q' hT) (by omega) k00 (fin _ rfl)
      · rw [bc_pc (by omega), t2] at q
        have q' : R.1 ≤ pcN t := nlt_nI (by have := pcN_le t; omega) (by omega) q
        exact fin 0 (by rw [tbS, show R.1 - pcN t = 0 by omega]; rfl)
  have one : ∀ (j i : Nat) (h : Hp) (x1 : ScrV) (p : Nat × AF), i + j = tN_ (sT s) → CA h0 h s x1 → p.1 ≤ 6 → (xSe x1).2 = (p.2, nI p.1) → foldN (goG v) j i p = R → VB g K 5 d 0 0 (fun r h2 => r = none ∧ ∃ x', CA h0 h2 s x' ∧ TbOK s x' R.2 R.1 0) noT 0 0 8 [some (.ref 79), some (.ref (tb s)), some (.ref 27), some (.int v), some (.int (nI i))] [] h := by
    intro j
    induction j with
    | zero =>
      intro i h x1 p hi hC hp hx he
      have he' : p = R := he
      refine b_X8_weigh_8 hg (by omega) k00 X _ _ _ _ _ _ ⟨_, hC.t.g0, fun _ => ⟨_, hC.t.g1, ?_⟩, fun q => absurd (nle_nI (by show tN_ (sT s) < _; omega) (by omega) q) (by show ¬ _ < tN_ (sT s); omega)⟩
      have := two (2 ^ tW (sT s)) h x1 (Nat.le_refl _) hC ⟨by rw [hx, he'], by rw [hx, he'], fun k h1 h2 => absurd h2 (by show ¬ k < 2 ^ tW (sT s); omega)⟩
      rw [← shl_nI (by omega)] at this
      exact this
    | succ j ih =>
      intro i h x1 p hi hC hp hx he
      have nxt : ∀ (h : Hp) (x2 : ScrV), CA h0 h s x2 → (xSe x2).2 = ((goG v i p).2, nI (goG v i p).1) → VB g K 5 d 0 0 (fun r h2 => r = none ∧ ∃ x', CA h0 h2 s x' ∧ TbOK s x' R.2 R.1 0) noT 0 0 60 [some (.ref 79), some (.ref (tb s)), some (.ref 27), some (.int v), some (.int (nI i))] [] h := by
        intro h x2 c2 e2
        refine b_X8_weigh_60 hg (by omega) k00 X _ _ _ _ _ _ ?_
        rw [nI_s]
        exact ih (i + 1) h x2 _ (by omega) c2 (goG_le hp) e2 he
      have hx1 : (xSe x1).2.1 = p.2 := by rw [hx]
      have hx2 : (xSe x1).2.2 = nI p.1 := by rw [hx]
      refine b_X8_weigh_8 hg (by omega) k00 X _ _ _ _ _ _ ⟨_, hC.t.g0, fun q => absurd (le_nI (by show tN_ (sT s) < _; omega) (by omega) q) (by show ¬ tN_ (sT s) ≤ _; omega), fun _ => ⟨fun q => nxt h x1 hC ?_, fun q => ⟨_, se_2 hC, _, se_1 hC, _, se_l hC, fun y => nxt h x1 hC ?_, fun y => ⟨_, se_1 hC, _, se_2 hC, ?_⟩⟩⟩⟩
      · have q' : ¬ bitE v i = 1 := q
        rw [goG, if_neg q']; exact hx
      · rw [hx2] at y
        have y' := le_nI (by omega) (by omega) y
        rw [goG, show bitE v i = 1 from q, if_pos rfl, if_pos y']; exact hx
      · rw [hx2] at y ⊢
        have y' : p.1 < 6 := nle_nI (x := 6) (by omega) (by omega) y
        have c2 := hC.u_se ((xSe x1).1, upd (xSe x1).2.1 p.1 (nI i), (xSe x1).2.2)
        refine ⟨_, se_gw hC y', _, se_2 c2, _, se_w2 c2 _, nxt _ _ (c2.u_se ((xSe x1).1, upd (xSe x1).2.1 p.1 (nI i), (xSe x1).2.2 + 1)) ?_⟩
        show (upd (xSe x1).2.1 p.1 (nI i), (xSe x1).2.2 + 1) = _
        rw [goG, show bitE v i = 1 from q, if_pos rfl, if_neg (by omega), hx1, hx2, nI_s]
  refine b_X8_weigh_0 hg (by omega) k00 X _ _ _ _ _ ⟨_, se_w2 hC 0, ?_⟩
  exact one (tN_ (sT s)) 0 _ _ (0, (xSe x).2.1) (by omega) (hC.u_se ((xSe x).1, (xSe x).2.1, 0)) (Nat.zero_le _) rfl hR
theorem c_whoIsNext {gone m : Nat} {go : AF} (hg : GOK g) (hd : 10 ≤ d) (hC : CA h0 h s x) (hI : IS s) (hm : m ≤ 6) (hG : gone < 2 ^ sW s) (hT : TbOK s x go m 0) : CT g d yX8_whoIsNext (wsC yX8_whoIsNext cX8_whoIsNext 5 (some .int)) [.ref 79, .ref (tb s), .ref 27, .int (nI gone)] h 0 0 (fun v h2 => v = some (.int (nxS (sN s) (sW s) 1000 (lAt (sL s)) go m gone (sW s) 0)) ∧ h2 = h) noT := by
  have o3 : tW (sT s) ≤ 6 := hI.1.1.2.2
  have o3' : 2 ^ tW (sT s) ≤ 2 ^ 6 := Nat.pow_le_pow_right (by omega) o3
  have hG' : gone < 2 ^ tW (sT s) := hG
  have h64 : gone < 64 := by omega
  obtain ⟨t1, t2, t3⟩ := id hT
  refine CT_ofB (by decide +kernel) (Nat.le_of_ble_eq_true rfl) rfl fun K X => ?_
  refine b_X8_whoIsNext_0 hg (by omega) k00 X _ _ _ _ _ ?_
  have loop : ∀ (j w : Nat), w + j = tW (sT s) → nxS (sN s) (sW s) 1000 (lAt (sL s)) go m gone j w = nxS (sN s) (sW s) 1000 (lAt (sL s)) go m gone (sW s) 0 → VB g K 5 d 0 0 (fun v h2 => v = some (.int (nxS (sN s) (sW s) 1000 (lAt (sL s)) go m gone (sW s) 0)) ∧ h2 = h) noT 0 0 3 [some (.ref 79), some (.ref (tb s)), some (.ref 27), some (.int (nI gone)), some (.int (nI w))] [] h := by
    intro j
    induction j with
    | zero =>
      intro w hw he
      refine b_X8_whoIsNext_3 hg (by omega) k00 X _ _ _ _ _ _ ⟨_, hC.t.g1, fun _ => ⟨by rw [← he]; rfl, rfl⟩, fun q => absurd (nle_nI (by show tW (sT s) < _; omega) (by omega) q) (by show ¬ _ < tW (sT s); omega)⟩
    | succ j ih =>
      intro w hw he
      have e := gn_bit gone h64 w (by omega)
      refine b_X8_whoIsNext_3 hg (by omega) k00 X _ _ _ _ _ _ ⟨_, hC.t.g1, fun q => absurd (le_nI (by show tW (sT s) < _; omega) (by omega) q) (by show ¬ tW (sT s) ≤ _; omega), fun _ => ⟨fun q => ?_, fun q => ?_⟩⟩
      · have hb : gone.testBit w = true := by
          cases hb : gone.testBit w with
          | true => rfl
          | false => rw [hb] at e; exact absurd e q
        refine b_X8_whoIsNext_42 hg (by omega) k00 X _ _ _ _ _ _ ?_
        rw [nI_s]
        refine ih (w + 1) (by omega) ?_
        rw [← he, nxS, hb]
        rfl
      · have hb : gone.testBit w = false := by
          cases hb : gone.testBit w with
          | false => rfl
          | true => rw [hb] at e; rw [show (nI gone >>> (nI w &&& 31)) &&& 1 = bitE (nI gone) w from rfl, e] at q; exact absurd q (by decide)
        refine ⟨_, se_o hC, use_i (c_stepsBy (d := d - 1) hg (by omega) hC hI hm hG (by show w < tW (sT s); omega) hb ⟨t1, t2, fun k _ h2 => t3 k (by omega) h2⟩) (by omega) k00 ⟨_, se_0 hC, _, se_fr hC h64, fun y => ?_, fun y => ⟨?_, rfl⟩⟩⟩
        · rw [t3 gone (by omega) hG] at y
          refine b_X8_whoIsNext_42 hg (by omega) k00 X _ _ _ _ _ _ ?_
          rw [nI_s]
          refine ih (w + 1) (by omega) ?_
          rw [← he, nxS, hb, if_neg (by decide), if_neg y]
        · rw [t3 gone (by omega) hG] at y
          rw [← he, nxS, hb, if_neg (by decide), if_pos y]
  exact loop (tW (sT s)) 0 (by omega) rfl
theorem nxS_r {n W m gone : Nat} {K : Int32} {at_ go : AF} (hW : W ≤ 6) : ∀ (j w : Nat), w + j = W → nxS n W K at_ go m gone j w = -1 ∨ ∃ u, u < W ∧ nxS n W K at_ go m gone j w = nI u := by
  intro j
  induction j with
  | zero => intro w _; exact Or.inl rfl
  | succ j ih =>
    intro w hw
    unfold nxS
    split
    · exact ih (w + 1) (by omega)
    · split
      · exact Or.inr ⟨w, by omega, rfl⟩
      · exact ih (w + 1) (by omega)
theorem c_whoGoesTo {m : Nat} {go : AF} {v : Int32} (hg : GOK g) (hd : 12 ≤ d) (hC : CA h0 h s x) (hI : IS s) (hm : m ≤ 6) (hT : TbOK s x go m 0) : CT g d yX8_whoGoesTo (wsC yX8_whoGoesTo cX8_whoGoesTo 7 (some .int)) [.ref 79, .ref (tb s), .ref 27, .int v] h 0 0 (fun r h2 => r = some (.int (whS (sN s) (sW s) 1000 (lAt (sL s)) go m v m 0 0)) ∧ h2 = h) noT := by
  have o3 : tW (sT s) ≤ 6 := hI.1.1.2.2
  have o3' : 2 ^ tW (sT s) ≤ 2 ^ 6 := Nat.pow_le_pow_right (by omega) o3
  obtain ⟨t1, t2, t3⟩ := id hT
  refine CT_ofB (by decide +kernel) (Nat.le_of_ble_eq_true rfl) rfl fun K X => ?_
  refine b_X8_whoGoesTo_0 hg (by omega) k00 X _ _ _ _ _ ?_
  have loop : ∀ (j i gone : Nat), i + j = m → gone < 2 ^ tW (sT s) → whS (sN s) (sW s) 1000 (lAt (sL s)) go m v j i gone = whS (sN s) (sW s) 1000 (lAt (sL s)) go m v m 0 0 → VB g K 7 d 0 0 (fun r h2 => r = some (.int (whS (sN s) (sW s) 1000 (lAt (sL s)) go m v m 0 0)) ∧ h2 = h) noT 0 0 6 [some (.ref 79), some (.ref (tb s)), some (.ref 27), some (.int v), some (.int (nI gone)), some (.int (nI i)), none] [] h := by
    intro j
    induction j with
    | zero =>
      intro i gone hi hG he
      refine b_X8_whoGoesTo_6 hg (by omega) k00 X _ _ _ _ _ _ _ ⟨_, (by rw [se_2 hC, t2]), fun _ => ⟨by rw [← he]; rfl, rfl⟩, fun q => absurd (nle_nI (by omega) (by omega) q) (by omega)⟩
    | succ j ih =>
      intro i gone hi hG he
      refine b_X8_whoGoesTo_6 hg (by omega) k00 X _ _ _ _ _ _ _ ⟨_, (by rw [se_2 hC, t2]), fun q => absurd (le_nI (by omega) (by omega) q) (by omega), fun _ => ⟨_, se_o hC, use_i (c_whoIsNext (d := d - 1) hg (by omega) hC hI hm hG hT) (by omega) k00 ⟨_, se_1 hC, _, se_gr hC (by omega), fun y => ⟨fun z => ?_, fun z => ?_⟩, fun y => ⟨?_, rfl⟩⟩⟩⟩
      · rw [t1] at y
        rcases nxS_r (n := sN s) (m := m) (gone := gone) (K := 1000) (at_ := lAt (sL s)) (go := go) (show sW s ≤ 6 from o3) (sW s) 0 (by omega) with e | ⟨u, hu, e⟩
        · rw [e] at z; exact absurd z (by decide)
        · have hu' : u < tW (sT s) := hu
          rw [e]
          refine b_X8_whoGoesTo_54 hg (by omega) k00 X _ _ _ _ _ _ _ _ ?_
          rw [nI_s, gn_or gone (by omega) u (by omega)]
          refine ih (i + 1) _ (by omega) (gn_lt hG hu) ?_
          rw [← he]
          rw [whS, if_neg y, e, if_neg (nI_pos (by omega)), show cl (nI u) = u from nI_clamp (by omega)]
      · rw [t1] at y
        have z' : nxS (sN s) (sW s) 1000 (lAt (sL s)) go m gone (sW s) 0 < 0 := Int32.not_le.mp z
        refine b_X8_whoGoesTo_54 hg (by omega) k00 X _ _ _ _ _ _ _ _ ?_
        rw [nI_s, show nI gone ||| 0 = nI gone from by rw [Int32.or_zero]]
        refine ih (i + 1) _ (by omega) hG ?_
        rw [← he, whS, if_neg y, if_pos z']
      · rw [t1] at y
        rw [← he, whS, if_pos y]
  exact loop m 0 0 (by omega) (Nat.two_pow_pos _) rfl
/-- what SENT answers, once asked rightly -/
def snV (s : CoreV) (a b : Int32) (f : AF) : Int32 := if b = -1 then tbS (sN s) (sW s) 1000 (lAt (sL s)) (gls s a f).2 (gls s a f).1 0 else whS (sN s) (sW s) 1000 (lAt (sL s)) (gls s a f).2 (gls s a f).1 b (gls s a f).1 0 0
def m_sent (s : CoreV) (x : ScrV) (a b : Int32) : Res := if a < 0 then .inr false else if nI (2 ^ sN s) ≤ a then .inr false else if bcE a ≤ 6 then (if b = -1 ∨ (inB (sN s) b = true ∧ ¬ (a >>> (b &&& 31)) &&& 1 = 0) then (if bcE a ≤ nI (sW s) then .inl (snV s a b (xSe x).2.1, s) else .inl (-2, s)) else .inr true) else .inr false
theorem x_sent (hg : GOK g) (hd : 20 ≤ d) (hC : CA h0 h s x) (hI : IS s) (a b : Int32) : CT g d yX11_sent (wsC yX11_sent cX11_sent 3 (some .int)) [.ref 0, .int a, .int b] h 8 64 (PrC h0 (m_sent s x a b)) (PtC h0 s (m_sent s x a b)) := by
  have o2 : tN_ (sT s) ≤ 12 := hI.1.1.2.1
  refine CT_ofB (by decide +kernel) (Nat.le_of_ble_eq_true rfl) rfl fun K X => ?_
  have n1 : ∀ {kc ks}, kc = 0 → ks = 0 → m_sent s x a b = .inr false → VB g K 3 d 8 64 (PrC h0 (m_sent s x a b)) (PtC h0 s (m_sent s x a b)) kc ks 26 [none, none, none] [] h := fun e1 e2 e => b_X11_sent_26 hg (by omega) (by omega) X _ ⟨by omega, ptI hC e⟩
  have n2 : ∀ {kc ks}, kc = 0 → ks = 0 → m_sent s x a b = .inr true → VB g K 3 d 8 64 (PrC h0 (m_sent s x a b)) (PtC h0 s (m_sent s x a b)) kc ks 58 [none, none, none] [] h := fun e1 e2 e => b_X11_sent_58 hg (by omega) (by omega) X _ ⟨by omega, ptN hC e⟩
  have e12 : (1 : Int32) <<< (nI (sN s) &&& 31) = nI (2 ^ sN s) := shl_nI (by show tN_ (sT s) ≤ 30; omega)
  refine b_X11_sent_0 hg (by omega) (by omega) X _ _ _ _ ⟨fun q1 => n1 rfl rfl (by rw [m_sent, if_pos q1]), fun q1 => ⟨_, hC.g6, _, hC.t.g0, fun q2 => ?_, fun q2 => ?_⟩⟩
  · rw [show (1 : Int32) <<< (nI (tN_ (tO s x)) &&& 31) = nI (2 ^ sN s) from e12] at q2
    exact n1 rfl rfl (by rw [m_sent, if_neg q1, if_pos q2])
  · rw [show (1 : Int32) <<< (nI (tN_ (tO s x)) &&& 31) = nI (2 ^ sN s) from e12] at q2
    have go : ∀ {kc ks}, kc = 0 → ks = 0 → bcE a ≤ 6 → (b = -1 ∨ (inB (sN s) b = true ∧ ¬ (a >>> (b &&& 31)) &&& 1 = 0)) → VB g K 3 d 8 64 (PrC h0 (m_sent s x a b)) (PtC h0 s (m_sent s x a b)) kc ks 69 [some (.ref 0), some (.int a), some (.int b)] [] h := by
      intro kc ks e1 e2 q3 q4
      have em : m_sent s x a b = if bcE a ≤ nI (sW s) then .inl (snV s a b (xSe x).2.1, s) else .inl (-2, s) := by rw [m_sent, if_neg q1, if_neg q2, if_pos q3, if_pos q4]
      refine b_X11_sent_69 hg (by omega) (by omega) X _ _ _ _ (use_i (c_bitCount (d := d - 1) hg (by omega) _) (by omega) (by omega) ⟨_, hC.g6, _, hC.t.g1, fun y => ⟨_, hC.g15, _, hC.g6, _, hC.g8, _, hC.m0, _, se_o hC, use_v (c_weigh (v := a) (d := d - 1) hg (by omega) hC hI) (by omega) (by omega) ?_⟩, fun y => prC hC ?_⟩)
      · rintro h2 ⟨x2, c2, t2⟩
        have h6 : (gls s a (xSe x).2.1).1 ≤ 6 := goG_les _ _ (Nat.zero_le _)
        refine ⟨fun z => ⟨_, c2.g15, _, c2.g6, _, c2.g8, _, c2.m0, _, se_o c2, use_i (c_whoGoesTo (v := b) (d := d - 1) hg (by omega) c2 hI h6 t2) (by omega) (by omega) (prC c2 ?_)⟩, fun z => ⟨_, c2.g15, _, se_o c2, use_i (r := tbS (sN s) (sW s) 1000 (lAt (sL s)) (gls s a (xSe x).2.1).2 (gls s a (xSe x).2.1).1 0) (h' := h2) (d := d - 1) ?_ (by omega) (by omega) (prC c2 ?_)⟩⟩
        · have y' : bcE a ≤ nI (sW s) := y
          rw [em, if_pos y', snV, if_neg z]
        · refine CT_ofB (by decide +kernel) (Nat.le_of_ble_eq_true rfl) rfl fun K X => ?_
          refine b_X8_stepsOfAll_0 hg (by omega) k00 X _ _ ⟨_, se_0 c2, _, se_fr (k := 0) c2 (by omega), ?_, rfl⟩
          rw [t2.2.2 0 (Nat.le_refl _) (Nat.two_pow_pos _)]
        · have y' : bcE a ≤ nI (sW s) := y
          rw [em, if_pos y', snV, if_pos z]
      · have y' : ¬ bcE a ≤ nI (sW s) := y
        rw [em, if_neg y']
    refine use_i (c_bitCount (d := d - 1) hg (by omega) _) (by omega) (by omega) ⟨fun q3 => ⟨fun q4 => go rfl rfl q3 (Or.inl q4), fun q4 => ⟨_, hC.o, use_i (c_isStretch (d := d - 1) hg (by omega) hC b) (by omega) (by omega) ⟨fun q5 => n2 rfl rfl ?_, fun q5 => ⟨fun q6 => go rfl rfl q3 (Or.inr ⟨?_, q6⟩), fun q6 => n2 rfl rfl ?_⟩⟩⟩⟩, fun q3 => n1 rfl rfl (by rw [m_sent, if_neg q1, if_neg q2, if_neg q3])⟩
    · rw [m_sent, if_neg q1, if_neg q2, if_pos q3, if_neg]
      rintro (e | e)
      · exact q4 e
      · rw [e.1] at q5; exact absurd q5 (by decide)
    · cases hz : inB (sN s) b with
      | true => rfl
      | false => rw [hz] at q5; exact absurd rfl q5
    · rw [m_sent, if_neg q1, if_neg q2, if_pos q3, if_neg]
      rintro (e | e)
      · exact q4 e
      · exact e.2 q6
end SE
