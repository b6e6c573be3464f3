/-! KNOTS: has, tie, untie; readings -/
def hasB (K : KnV) (m : Nat) (v l : Int32) : Bool := (List.range m).any (fun k => K.2.1 k == v && K.2.2.1 k == l)
theorem hasB_yes {K : KnV} {m k : Nat} {v l : Int32} (hk : k < m) (h1 : K.2.1 k = v) (h2 : K.2.2.1 k = l) : hasB K m v l = true := List.any_eq_true.mpr ⟨k, List.mem_range.mpr hk, by simp [h1, h2]⟩
theorem hasB_no {K : KnV} {m : Nat} {v l : Int32} (q : ∀ k, k < m → ¬ (K.2.1 k = v ∧ K.2.2.1 k = l)) : hasB K m v l = false := by
  cases hb : hasB K m v l with
  | false => rfl
  | true =>
    obtain ⟨k, h1, h2⟩ := List.any_eq_true.mp hb
    simp only [Bool.and_eq_true, beq_iff_eq] at h2
    exact absurd h2 (q k (List.mem_range.mp h1))
def spL : Nat → Nat → Nat → Nat
  | 0, n, _ => n
  | j + 1, n, r => if r = 0 then n else spL j (n + 1) (r / 10)
theorem spL_r : ∀ (j n r : Nat), n ≤ spL j n r ∧ spL j n r ≤ n + j := by
  intro j
  induction j with
  | zero => intro n r; exact ⟨Nat.le_refl _, Nat.le_refl _⟩
  | succ j ih =>
    intro n r
    unfold spL
    split
    · omega
    · have := ih (n + 1) (r / 10); omega
def dgL (k : Nat) : Nat := spL 8 1 (k / 10)
theorem dgL_r (k : Nat) : 1 ≤ dgL k ∧ dgL k ≤ 9 := by have := spL_r 8 1 (k / 10); unfold dgL; omega
/-- the digits of r at the places below n -/
def fgF : Nat → Nat → AF → AF
  | 0, _, f => f
  | n + 1, r, f => fgF n (r / 10) (upd f n (nI (r % 10)))
def fwE (a w : Int32) : Int32 := if a = -1 then w else if w < a then w else a
def ufV (fg : AF) (e : Nat) (v : Int32) : Int32 := 10 * v + fg (e - 1)
def ufG (K : KnV) (m : Nat) (fg : AF) (pl e : Nat) (p : Int32 × AF × AF) : Int32 × AF × AF := (ufV fg e p.1, if p.2.1 e ≤ 0 then p.2 else if hasB K m (ufV fg e p.1) (nI (e - pl)) then (upd p.2.1 pl (p.2.1 pl + p.2.1 e), upd p.2.2 pl (fwE (p.2.2 pl) (p.2.2 e + 1))) else p.2)
def unL (n pl : Nat) : Nat := if pl + 4 ≤ n then 4 else n - pl
def unF (K : KnV) (m : Nat) (fg : AF) (n pl : Nat) (p : AF × AF) : AF × AF := (foldN (ufG K m fg pl) (unL n pl) (pl + 1) (0, upd p.1 pl 0, upd p.2 pl (-1))).2
def utF (K : KnV) (m : Nat) (k : Nat) (z : AF × AF × AF) : AF × AF × AF := (fgF (dgL k) k z.1, foldD (unF K m (fgF (dgL k) k z.1) (dgL k)) (dgL k) (upd z.2.1 (dgL k) 1, upd z.2.2 (dgL k) 0))
def KnOK (T : ToldV) (m : Nat) : Prop := m ≤ 8 ∧ (tK T).1 = nI m
section KN
variable {g : GG} {h0 h : Hp} {s : CoreV} {x : ScrV} {d b m : Nat} {T : ToldV} {z : KScr}
theorem TA.k1 (q : TA h b T) : gN h (b + 2) 1 1 = some (b + 3) := by unfold gN; rw [q.o2]; rfl
theorem TA.k2 (q : TA h b T) : gN h (b + 2) 1 2 = some (b + 4) := by unfold gN; rw [q.o2]; rfl
theorem TA.k3 (q : TA h b T) : gN h (b + 2) 1 3 = some (b + 5) := by unfold gN; rw [q.o2]; rfl
theorem TA.k4 (q : TA h b T) : gN h (b + 2) 1 4 = some (b + 6) := by unfold gN; rw [q.o2]; rfl
theorem TA.k5 (q : TA h b T) : gN h (b + 2) 1 5 = some (b + 7) := by unfold gN; rw [q.o2]; rfl
theorem TA.f3 (q : TA h b T) : aF h 0 (b + 3) = some (8, (tK T).2.1) := aF_of (q 3 _ rfl)
theorem TA.f4 (q : TA h b T) : aF h 0 (b + 4) = some (8, (tK T).2.2.1) := aF_of (q 4 _ rfl)
theorem TA.f5 (q : TA h b T) : aF h 0 (b + 5) = some (9, (tK T).2.2.2.1) := aF_of (q 5 _ rfl)
theorem TA.f6 (q : TA h b T) : aF h 0 (b + 6) = some (10, (tK T).2.2.2.2.1) := aF_of (q 6 _ rfl)
theorem TA.f7 (q : TA h b T) : aF h 0 (b + 7) = some (10, (tK T).2.2.2.2.2) := aF_of (q 7 _ rfl)
theorem TA.l5 (q : TA h b T) : lenA h (b + 5) = some (nI 9) := by unfold lenA; rw [show h[b + 5]? = _ from q 5 _ rfl]; rfl
theorem TA.r3 (q : TA h b T) {k : Nat} (hk : k < 8) : aI h 0 (b + 3) (nI k) = some ((tK T).2.1 k) := aI_of q.f3 hk (by omega)
theorem TA.r4 (q : TA h b T) {k : Nat} (hk : k < 8) : aI h 0 (b + 4) (nI k) = some ((tK T).2.2.1 k) := aI_of q.f4 hk (by omega)
theorem TA.r5 (q : TA h b T) {k : Nat} (hk : k < 9) : aI h 0 (b + 5) (nI k) = some ((tK T).2.2.2.1 k) := aI_of q.f5 hk (by omega)
theorem TA.r6 (q : TA h b T) {k : Nat} (hk : k < 10) : aI h 0 (b + 6) (nI k) = some ((tK T).2.2.2.2.1 k) := aI_of q.f6 hk (by omega)
theorem TA.r7 (q : TA h b T) {k : Nat} (hk : k < 10) : aI h 0 (b + 7) (nI k) = some ((tK T).2.2.2.2.2 k) := aI_of q.f7 hk (by omega)
theorem TA.w5 (q : TA h b (tK4 T z)) {k : Nat} {v : Int32} (hk : k < 9) : uI h 0 (b + 5) (nI k) v = some (pT h b (tK4 T (z.1, upd z.2.1 k v, z.2.2))) := by
  rw [uI_of q.f5 hk (by omega), q.set (j := 5) (by simp [toldC])]; rfl
theorem TA.w6 (q : TA h b (tK4 T z)) {k : Nat} {v : Int32} (hk : k < 10) : uI h 0 (b + 6) (nI k) v = some (pT h b (tK4 T (z.1, z.2.1, upd z.2.2.1 k v, z.2.2.2))) := by
  rw [uI_of q.f6 hk (by omega), q.set (j := 6) (by simp [toldC])]; rfl
theorem TA.w7 (q : TA h b (tK4 T z)) {k : Nat} {v : Int32} (hk : k < 10) : uI h 0 (b + 7) (nI k) v = some (pT h b (tK4 T (z.1, z.2.1, z.2.2.1, upd z.2.2.2 k v))) := by
  rw [uI_of q.f7 hk (by omega), q.set (j := 7) (by simp [toldC])]; rfl
theorem c_has {v l : Int32} (hg : GOK g) (hd : 8 ≤ d) (hT : TA h b T) (hK : KnOK T m) : CT g d yX1_has (wsC yX1_has cX1_has 4 (some .boolean)) [.ref (b + 2), .int v, .int l] h 0 0 (fun r h2 => r = some (.int (if hasB (tK T) m v l then 1 else 0)) ∧ h2 = h) noT := by
  obtain ⟨k1, k2⟩ := hK
  refine CT_ofB (by decide +kernel) (Nat.le_of_ble_eq_true rfl) rfl fun K X => ?_
  refine b_X1_has_0 hg hd k00 X _ _ _ _ ?_
  have loop : ∀ (j i : Nat), i + j = m → (∀ k, k < i → ¬ ((tK T).2.1 k = v ∧ (tK T).2.2.1 k = l)) → VB g K 4 d 0 0 (fun r h2 => r = some (.int (if hasB (tK T) m v l then 1 else 0)) ∧ h2 = h) noT 0 0 2 [some (.ref (b + 2)), some (.int v), some (.int l), some (.int (nI i))] [] h := by
    intro j
    induction j with
    | zero =>
      intro i hi hp
      exact b_X1_has_2 hg hd k00 X _ _ _ _ _ ⟨_, by rw [hT.k0, k2], fun _ => ⟨Or.inl rfl, by rw [hasB_no (fun k hk => hp k (by omega))]; rfl, rfl⟩, fun q => absurd (nle_nI (by omega) (by omega) q) (by omega)⟩
    | succ j ih =>
      intro i hi hp
      have nxt : ¬ ((tK T).2.1 i = v ∧ (tK T).2.2.1 i = l) → VB g K 4 d 0 0 (fun r h2 => r = some (.int (if hasB (tK T) m v l then 1 else 0)) ∧ h2 = h) noT 0 0 32 [some (.ref (b + 2)), some (.int v), some (.int l), some (.int (nI i))] [] h := by
        intro hn
        refine b_X1_has_32 hg hd k00 X _ _ _ _ _ ?_
        rw [nI_s]
        exact ih (i + 1) (by omega) (fun k hk => by
          by_cases e : k = i
          · subst e; exact hn
          · exact hp k (by omega))
      exact b_X1_has_2 hg hd k00 X _ _ _ _ _ ⟨_, by rw [hT.k0, k2], fun q => absurd (le_nI (by omega) (by omega) q) (by omega), fun _ => ⟨_, hT.k1, _, hT.r3 (by omega), fun y => nxt (fun e => y e.1), fun y => ⟨_, hT.k2, _, hT.r4 (by omega), fun u => nxt (fun e => u e.2), fun u => ⟨Or.inr rfl, by rw [hasB_yes (show i < m by omega) y u]; rfl, rfl⟩⟩⟩⟩
  exact loop m 0 (by omega) (fun k hk => by omega)
theorem c_spell {k : Nat} (hg : GOK g) (hd : 8 ≤ d) (hT : TA h b (tK4 T z)) (hk : k ≤ 999999999) : CT g d yX1_spell (wsC yX1_spell cX1_spell 5 (some .int)) [.ref (b + 2), .int (nI k)] h 0 0 (fun r h2 => r = some (.int (nI (dgL k))) ∧ h2 = pT h b (tK4 T (z.1, fgF (dgL k) k z.2.1, z.2.2))) noT := by
  obtain ⟨d1, d2⟩ := dgL_r k
  refine CT_ofB (by decide +kernel) (Nat.le_of_ble_eq_true rfl) rfl fun K X => ?_
  have two : ∀ (j r : Nat) (f : AF), j ≤ 9 → r ≤ 999999999 → fgF j r f = fgF (dgL k) k z.2.1 → VB g K 5 d 0 0 (fun r h2 => r = some (.int (nI (dgL k))) ∧ h2 = pT h b (tK4 T (z.1, fgF (dgL k) k z.2.1, z.2.2))) noT 0 0 38 [some (.ref (b + 2)), none, some (.int (nI (dgL k))), some (.int (nI r)), some (.int (nI j - 1))] [] (pT h b (tK4 T (z.1, f, z.2.2))) := by
    intro j
    induction j with
    | zero =>
      intro r f _ hr he
      refine b_X1_spell_38 hg hd k00 X _ _ _ _ _ ⟨fun _ => ⟨rfl, ?_⟩, fun q => absurd (by decide) q⟩
      rw [← he]; rfl
    | succ j ih =>
      intro r f hj hr he
      have t1 := hT.put (tK4 T (z.1, f, z.2.2))
      rw [show nI (j + 1) - 1 = nI j from nI_pred j]
      refine b_X1_spell_38 hg hd k00 X _ _ _ _ _ ⟨fun q => absurd q (nI_pos (by omega)), fun _ => ⟨_, t1.k3, _, t1.w5 (by omega), ?_⟩⟩
      rw [hT.pp, show (10 : Int32) = nI 10 from rfl, nI_rem (by omega) (by omega) (by omega), pk_div (by omega) (by omega) (by omega), show nI j + -1 = nI j - 1 from by rw [Int32.sub_eq_add_neg]]
      exact ih (r / 10) _ (by omega) (by omega) he
  have one : ∀ (j n r : Nat), n + j = 9 → r ≤ 999999999 → spL j n r = dgL k → VB g K 5 d 0 0 (fun r h2 => r = some (.int (nI (dgL k))) ∧ h2 = pT h b (tK4 T (z.1, fgF (dgL k) k z.2.1, z.2.2))) noT 0 0 7 [some (.ref (b + 2)), some (.int (nI k)), some (.int (nI n)), some (.int (nI r)), none] [] h := by
    have fin : ∀ n, n = dgL k → VB g K 5 d 0 0 (fun r h2 => r = some (.int (nI (dgL k))) ∧ h2 = pT h b (tK4 T (z.1, fgF (dgL k) k z.2.1, z.2.2))) noT 0 0 31 [some (.ref (b + 2)), some (.int (nI k)), some (.int (nI n)), none, none] [] h := by
      intro n hn
      refine b_X1_spell_31 hg hd k00 X _ _ _ _ ?_
      rw [hn]
      have := two (dgL k) k z.2.1 d2 hk rfl
      rw [show pT h b (tK4 T (z.1, z.2.1, z.2.2)) = h from hT.id] at this
      exact this
    intro j
    induction j with
    | zero =>
      intro n r hn hr he
      refine b_X1_spell_7 hg hd k00 X _ _ _ _ _ ⟨fun _ => fin n he, fun _ => ⟨_, hT.k3, _, hT.l5, fun _ => fin n he, fun q => absurd (nle_nI (x := 9) (by omega) (by omega) q) (by omega)⟩⟩
    | succ j ih =>
      intro n r hn hr he
      refine b_X1_spell_7 hg hd k00 X _ _ _ _ _ ⟨fun q => fin n ?_, fun q => ⟨_, hT.k3, _, hT.l5, fun q => absurd (le_nI (x := 9) (by omega) (by omega) q) (by omega), fun _ => ?_⟩⟩
      · rw [nI_z, nI_leI (by omega) (by omega)] at q
        rw [spL, if_pos (by omega)] at he
        exact he
      · rw [nI_z, nI_leI (by omega) (by omega)] at q
        rw [nI_s, show (10 : Int32) = nI 10 from rfl, pk_div (by omega) (by omega) (by omega)]
        refine ih (n + 1) (r / 10) (by omega) (by omega) ?_
        rw [spL, if_neg (by omega)] at he
        exact he
  refine b_X1_spell_0 hg hd k00 X _ _ _ ?_
  rw [show (10 : Int32) = nI 10 from rfl, pk_div (by omega) (by omega) (by omega)]
  exact one 8 1 (k / 10) (by omega) (by omega) rfl
theorem c_untieFrom {n pl : Nat} (hg : GOK g) (hd : 9 ≤ d) (hT : TA h b (tK4 T z)) (hK : KnOK T m) (hn : n ≤ 9) (hp : pl < n) : CT g d yX1_untieFrom (wsC yX1_untieFrom cX1_untieFrom 6 none) [.ref (b + 2), .int (nI pl), .int (nI n)] h 0 0 (fun r h2 => r = none ∧ h2 = pT h b (tK4 T (z.1, z.2.1, unF (tK T) m z.2.1 n pl z.2.2))) noT := by
  refine CT_ofB (by decide +kernel) (Nat.le_of_ble_eq_true rfl) rfl fun K X => ?_
  have hK' : ∀ y, KnOK (tK4 T y) m := fun _ => hK
  have hu : unL n pl ≤ 4 := by unfold unL; split <;> omega
  have hu2 : pl + unL n pl ≤ n := by unfold unL; split <;> omega
  have hu3 : pl + unL n pl = n ∨ unL n pl = 4 := by unfold unL; split <;> omega
  generalize hU : unL n pl = U at *
  have loop : ∀ (j e : Nat) (p : Int32 × AF × AF), e + j = pl + 1 + U → pl < e → (foldN (ufG (tK T) m z.2.1 pl) j e p).2 = unF (tK T) m z.2.1 n pl z.2.2 → VB g K 6 d 0 0 (fun r h2 => r = none ∧ h2 = pT h b (tK4 T (z.1, z.2.1, unF (tK T) m z.2.1 n pl z.2.2))) noT 0 0 21 [some (.ref (b + 2)), some (.int (nI pl)), some (.int (nI n)), some (.int p.1), some (.int (nI e)), none] [] (pT h b (tK4 T (z.1, z.2.1, p.2))) := by
    intro j
    induction j with
    | zero =>
      intro e p he hpe hf
      have hf' : p.2 = unF (tK T) m z.2.1 n pl z.2.2 := hf
      refine b_X1_untieFrom_21 hg (by omega) k00 X _ _ _ _ _ _ ⟨fun _ => ⟨rfl, by rw [hf']⟩, fun q => ⟨fun _ => ⟨rfl, by rw [hf']⟩, fun q2 => ?_⟩⟩
      have q1 := nlt_nI (by omega) (by omega) q
      rw [show (4 : Int32) = nI 4 from rfl, nI_add] at q2
      have q3 := nlt_nI (by omega) (by omega) q2
      omega
    | succ j ih =>
      intro e p he hpe hf
      have t1 := hT.put (tK4 T (z.1, z.2.1, p.2))
      have hm : ∀ (h' : Hp) (w : AF × AF), h' = pT h b (tK4 T (z.1, z.2.1, w)) → (ufG (tK T) m z.2.1 pl e p).2 = w → VB g K 6 d 0 0 (fun r h2 => r = none ∧ h2 = pT h b (tK4 T (z.1, z.2.1, unF (tK T) m z.2.1 n pl z.2.2))) noT 0 0 131 [some (.ref (b + 2)), some (.int (nI pl)), some (.int (nI n)), some (.int (10 * p.1 + z.2.1 (e - 1))), some (.int (nI e)), none] [] h' := by
        intro h' w hh hw
        rw [hh]
        refine b_X1_untieFrom_131 hg (by omega) k00 X _ _ _ _ _ _ ?_
        rw [nI_s]
        have := ih (e + 1) (ufG (tK T) m z.2.1 pl e p) (by omega) (by omega) hf
        rw [hw] at this
        exact this
      have ev : nI e - 1 = nI (e - 1) := by rw [nI_o, pk_sub (by omega)]
      refine b_X1_untieFrom_21 hg (by omega) k00 X _ _ _ _ _ _ ⟨fun q => absurd (lt_nI (by omega) (by omega) q) (by omega), fun _ => ⟨fun q => ?_, fun _ => ⟨_, t1.k3, ?_⟩⟩⟩
      · rw [show (4 : Int32) = nI 4 from rfl, nI_add] at q
        exact absurd (lt_nI (by omega) (by omega) q) (by omega)
      rw [ev, pk_sub (show pl ≤ e by omega)]
      refine ⟨_, t1.r5 (by omega), _, t1.k4, _, t1.r6 (by omega), fun q => hm _ p.2 rfl ?_, fun q => ⟨_, t1.o2, use_i (c_has (d := d - 1) hg (by omega) t1 (hK' _)) (by omega) k00 ⟨fun y => hm _ p.2 rfl ?_, fun y => ⟨_, t1.k4, _, t1.r6 (by omega), _, t1.k4, _, t1.r6 (by omega), _, t1.w6 (by omega), ?_⟩⟩⟩⟩
      · have q' : p.2.1 e ≤ 0 := q
        rw [ufG, if_pos q']
      · have q' : ¬ p.2.1 e ≤ 0 := q
        have y' : hasB (tK T) m (ufV z.2.1 e p.1) (nI (e - pl)) = false := by
          cases hb : hasB (tK T) m (ufV z.2.1 e p.1) (nI (e - pl)) with
          | false => rfl
          | true =>
            have hb' : hasB (tK (tK4 T (z.1, z.2.1, p.2))) m (10 * p.1 + z.2.1 (e - 1)) (nI (e - pl)) = true := hb
            have y2 : (if hasB (tK (tK4 T (z.1, z.2.1, p.2))) m (10 * p.1 + z.2.1 (e - 1)) (nI (e - pl)) then (1 : Int32) else 0) = 0 := y
            rw [hb'] at y2; exact absurd y2 (by decide)
        rw [ufG, if_neg q', y']
        rfl
      · have q' : ¬ p.2.1 e ≤ 0 := q
        have y' : hasB (tK T) m (ufV z.2.1 e p.1) (nI (e - pl)) = true := by
          cases hb : hasB (tK T) m (ufV z.2.1 e p.1) (nI (e - pl)) with
          | true => rfl
          | false =>
            have hb' : hasB (tK (tK4 T (z.1, z.2.1, p.2))) m (10 * p.1 + z.2.1 (e - 1)) (nI (e - pl)) = false := hb
            have y2 : ¬ (if hasB (tK (tK4 T (z.1, z.2.1, p.2))) m (10 * p.1 + z.2.1 (e - 1)) (nI (e - pl)) then (1 : Int32) else 0) = 0 := y
            rw [hb'] at y2; exact absurd rfl y2
        rw [hT.pp]
        have t2 := hT.put (tK4 T (z.1, z.2.1, upd p.2.1 pl (p.2.1 pl + p.2.1 e), p.2.2))
        have fin : ∀ w : Int32, w = fwE (p.2.2 pl) (p.2.2 e + 1) → VB g K 6 d 0 0 (fun r h2 => r = none ∧ h2 = pT h b (tK4 T (z.1, z.2.1, unF (tK T) m z.2.1 n pl z.2.2))) noT 0 0 130 [some (.ref (b + 2)), some (.int (nI pl)), some (.int (nI n)), some (.int (10 * p.1 + z.2.1 (e - 1))), some (.int (nI e)), none] [.int w, .int (nI pl), .ref (b + 7)] (pT h b (tK4 T (z.1, z.2.1, upd p.2.1 pl (p.2.1 pl + p.2.1 e), p.2.2))) := by
          intro w hw
          refine b_X1_untieFrom_130 hg (by omega) k00 X _ _ _ _ _ _ _ _ _ ⟨_, t2.w7 (by omega), hm _ (upd p.2.1 pl (p.2.1 pl + p.2.1 e), upd p.2.2 pl w) ?_ ?_⟩
          · rw [hT.pp]
          · rw [ufG, if_neg q', y', hw]
            rfl
        refine ⟨_, t2.k5, _, t2.r7 (by omega), _, t2.k5, _, t2.k5, _, t2.r7 (by omega), fun u => ⟨_, t2.k5, _, t2.r7 (by omega), fin _ ?_⟩, fun u => fin _ ?_⟩
        · have u' : ¬ p.2.2 pl = -1 := u
          rw [fwE, if_neg u']
          rfl
        · have u' : p.2.2 pl = -1 := u
          rw [fwE, if_pos u']
          rfl
  have t1 := hT.put (tK4 T (z.1, z.2.1, upd z.2.2.1 pl 0, z.2.2.2))
  have w2 := t1.w7 (k := pl) (v := -1) (by omega)
  rw [hT.pp] at w2
  refine b_X1_untieFrom_0 hg (by omega) k00 X _ _ _ _ ⟨_, hT.k4, _, hT.w6 (by omega), _, t1.k5, _, w2, ?_⟩
  rw [nI_s]
  refine loop U (pl + 1) (0, upd z.2.2.1 pl 0, upd z.2.2.2 pl (-1)) (by omega) (by omega) ?_
  rw [unF, hU]
theorem c_untie {k : Nat} (hg : GOK g) (hd : 10 ≤ d) (hT : TA h b (tK4 T z)) (hK : KnOK T m) (hk : k ≤ 999999999) : CT g d yX1_untie (wsC yX1_untie cX1_untie 4 none) [.ref (b + 2), .int (nI k)] h 0 0 (fun r h2 => r = none ∧ h2 = pT h b (tK4 T (z.1, utF (tK T) m k z.2))) noT := by
  obtain ⟨d1, d2⟩ := dgL_r k
  refine CT_ofB (by decide +kernel) (Nat.le_of_ble_eq_true rfl) rfl fun K X => ?_
  refine b_X1_untie_0 hg (by omega) k00 X _ _ _ ⟨_, hT.o2, use_i (c_spell (d := d - 1) hg (by omega) hT hk) (by omega) k00 ?_⟩
  have t1 := hT.put (tK4 T (z.1, fgF (dgL k) k z.2.1, z.2.2))
  have t2 := hT.put (tK4 T (z.1, fgF (dgL k) k z.2.1, upd z.2.2.1 (dgL k) 1, z.2.2.2))
  have w1 := t1.w6 (k := dgL k) (v := 1) (by omega)
  have w2 := t2.w7 (k := dgL k) (v := 0) (by omega)
  rw [hT.pp] at w1 w2
  refine ⟨_, t1.k4, _, w1, _, t2.k5, _, w2, ?_⟩
  have loop : ∀ (j : Nat) (p : AF × AF), j ≤ dgL k → (fgF (dgL k) k z.2.1, foldD (unF (tK T) m (fgF (dgL k) k z.2.1) (dgL k)) j p) = utF (tK T) m k z.2 → VB g K 4 d 0 0 (fun r h2 => r = none ∧ h2 = pT h b (tK4 T (z.1, utF (tK T) m k z.2))) noT 0 0 24 [some (.ref (b + 2)), none, some (.int (nI (dgL k))), some (.int (nI j - 1))] [] (pT h b (tK4 T (z.1, fgF (dgL k) k z.2.1, p))) := by
    intro j
    induction j with
    | zero =>
      intro p _ he
      refine b_X1_untie_24 hg (by omega) k00 X _ _ _ _ ⟨fun _ => ⟨rfl, by rw [← he]; rfl⟩, fun q => absurd (by decide) q⟩
    | succ j ih =>
      intro p hj he
      have t3 := hT.put (tK4 T (z.1, fgF (dgL k) k z.2.1, p))
      rw [show nI (j + 1) - 1 = nI j from nI_pred j]
      refine b_X1_untie_24 hg (by omega) k00 X _ _ _ _ ⟨fun q => absurd q (nI_pos (by omega)), fun _ => ⟨_, t3.o2, use_v (c_untieFrom (d := d - 1) hg (by omega) t3 hK d2 (pl := j) (by omega)) (by omega) k00 ?_⟩⟩
      intro h3 hh
      rw [hh, hT.pp, show nI j + -1 = nI j - 1 from by rw [Int32.sub_eq_add_neg]]
      exact ih _ (by omega) he
  exact loop (dgL k) (upd z.2.2.1 (dgL k) 1, upd z.2.2.2 (dgL k) 0) (Nat.le_refl _) rfl
def m_readings (s : CoreV) (x : ScrV) (m : Nat) (a v : Int32) : Res := if whB v 1 then (if a < 0 then .inr false else if a ≤ 999999999 then .inl (if v = 0 then (utF (tK (sT s)) m (cl a) (xK x).2).2.1 0 else (utF (tK (sT s)) m (cl a) (xK x).2).2.2 0, s) else .inr false) else .inr true
theorem x_readings (hg : GOK g) (hd : 20 ≤ d) (hC : CA h0 h s x) (hK : KnOK (sT s) m) (a v : Int32) : CT g d yX11_readings (wsC yX11_readings cX11_readings 3 (some .int)) [.ref 0, .int a, .int v] h 8 64 (PrC h0 (m_readings s x m a v)) (PtC h0 s (m_readings s x m a v)) := by
  refine CT_ofB (by decide +kernel) (Nat.le_of_ble_eq_true rfl) rfl fun K X => ?_
  have no : ∀ {kc ks}, kc + 1 ≤ 8 → ks + 6 ≤ 64 → m_readings s x m a v = .inr false → VB g K 3 d 8 64 (PrC h0 (m_readings s x m a v)) (PtC h0 s (m_readings s x m a v)) kc ks 16 [none, none, none] [] h := fun e1 e2 e => b_X11_readings_16 hg (by omega) (by omega) X _ ⟨by omega, ptI hC e⟩
  refine b_X11_readings_0 hg (by omega) (by omega) X _ _ _ _ (st_wh hg (by omega) (by omega) (fun q => ptC hC (by rw [m_readings, q]; rfl)) fun q1 => ⟨fun y => no (by omega) (by omega) (by rw [m_readings, if_pos q1, if_pos y]), fun y => ⟨fun z => ?_, fun z => no (by omega) (by omega) (by rw [m_readings, if_pos q1, if_neg y, if_neg z])⟩⟩)
  have em : m_readings s x m a v = .inl (if v = 0 then (utF (tK (sT s)) m (cl a) (xK x).2).2.1 0 else (utF (tK (sT s)) m (cl a) (xK x).2).2.2 0, s) := by rw [m_readings, if_pos q1, if_neg y, if_pos z]
  rw [em]
  have ea := nI_cl y
  have hk : cl a ≤ 999999999 := by
    rw [ea, show (999999999 : Int32) = nI 999999999 from rfl] at z
    exact le_nI (cl_lt a) (by omega) z
  generalize hka : cl a = k at *
  rw [ea]
  refine ⟨_, hC.g6, _, hC.t.g6, _, hC.t.o2, use_v (c_untie (T := sT s) (z := xK x) (d := d - 1) hg (by omega) hC.t hK hk) (by omega) (by omega) ?_⟩
  intro h2 hh
  rw [hh]
  have c2 := hC.u_t ((xK x).1, utF (tK (sT s)) m k (xK x).2)
  refine ⟨fun u => ⟨_, c2.g6, _, c2.t.g6, _, c2.t.k5, _, c2.t.r7 (k := 0) (by omega), prC c2 ?_⟩, fun u => ⟨_, c2.g6, _, c2.t.g6, _, c2.t.k4, _, c2.t.r6 (k := 0) (by omega), prC c2 ?_⟩⟩
  · rw [if_neg u]; rfl
  · rw [if_pos u]; rfl
end KN
