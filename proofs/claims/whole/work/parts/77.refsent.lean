/-! THE REFERENCE: SENT -/
theorem gn_exA : ∀ W, W < 7 → ∀ a, a < 64 → a < 2 ^ W → pcN a < W → (List.range W).any (fun u => !a.testBit u) = true := by decide +kernel
theorem gn_free {W a : Nat} (hW : W ≤ 6) (ha : a < 2 ^ W) (hp : pcN a < W) : ∃ u, u < W ∧ a.testBit u = false := by
  have h64 : a < 64 := by have : 2 ^ W ≤ 2 ^ 6 := Nat.pow_le_pow_right (by omega) hW; omega
  have := gn_exA W (by omega) a h64 ha hp
  obtain ⟨u, u1, u2⟩ := List.any_eq_true.mp this
  exact ⟨u, List.mem_range.mp u1, by simpa using u2⟩
section MN
variable {gone M W : Nat} {c : Nat → Int32} {K K2 : Int32}
theorem mn_in (hM : M < 2 ^ 31) (hc : ∀ w, w < W → gone.testBit w = false → ∃ q, q ≤ M ∧ c w = nI q) : ∀ (j w b : Nat), w + j ≤ W → b ≤ M → ∃ q, q ≤ M ∧ foldN (mnG gone c) j w (nI b) = nI q := by
  intro j
  induction j with
  | zero => intro w b _ hb; exact ⟨b, hb, rfl⟩
  | succ j ih =>
    intro w b hw hb
    rw [foldN, mnG]
    cases hg : gone.testBit w with
    | true => rw [if_pos rfl]; exact ih (w + 1) b (by omega) hb
    | false =>
      rw [if_neg (by decide)]
      obtain ⟨q, q1, q2⟩ := hc w (by omega) hg
      by_cases y : c w < nI b
      · rw [if_pos y, q2]; exact ih (w + 1) q (by omega) q1
      · rw [if_neg y]; exact ih (w + 1) b (by omega) hb
theorem mn_two (hM : M < 2 ^ 31) (hc : ∀ w, w < W → gone.testBit w = false → ∃ q, q ≤ M ∧ c w = nI q) (hK : ∀ q, q ≤ M → nI q < K) (hK2 : ∀ q, q ≤ M → nI q < K2) : ∀ (j w : Nat), w + j ≤ W → (∃ u, w ≤ u ∧ u < w + j ∧ gone.testBit u = false) → ∃ q, q ≤ M ∧ foldN (mnG gone c) j w K = nI q ∧ foldN (mnG gone c) j w K2 = nI q := by
  intro j
  induction j with
  | zero => rintro w _ ⟨u, u1, u2, _⟩; omega
  | succ j ih =>
    rintro w hw ⟨u, u1, u2, u3⟩
    rw [foldN, foldN, mnG, mnG]
    cases hg : gone.testBit w with
    | true =>
      rw [if_pos rfl, if_pos rfl]
      have : u ≠ w := fun e => by rw [e, hg] at u3; exact absurd u3 (by decide)
      exact ih (w + 1) (by omega) ⟨u, by omega, by omega, u3⟩
    | false =>
      obtain ⟨q, q1, q2⟩ := hc w (by omega) hg
      simp only [q2, if_pos (hK q q1), if_pos (hK2 q q1), Bool.false_eq_true, if_false]
      obtain ⟨r, r1, r2⟩ := mn_in hM hc j (w + 1) q (by omega) q1
      exact ⟨r, r1, r2, r2⟩
theorem mn_at : ∀ (j w : Nat) (b : Int32), w + j ≤ W → foldN (mnG gone c) j w b = b ∨ ∃ u, u < W ∧ gone.testBit u = false ∧ c u = foldN (mnG gone c) j w b := by
  intro j
  induction j with
  | zero => intro w b _; exact Or.inl rfl
  | succ j ih =>
    intro w b hw
    rw [foldN, mnG]
    cases hg : gone.testBit w with
    | true => rw [if_pos rfl]; exact ih (w + 1) b (by omega)
    | false =>
      rw [if_neg (by decide)]
      by_cases y : c w < b
      · rw [if_pos y]
        rcases ih (w + 1) (c w) (by omega) with e | e
        · exact Or.inr ⟨w, by omega, hg, e.symm⟩
        · exact Or.inr e
      · rw [if_neg y]; exact ih (w + 1) b (by omega)
end MN
theorem k_1000 {q : Nat} (h : q ≤ 36) : nI q < 1000 := by
  rw [show (1000 : Int32) = nI 1000 from by decide +kernel]
  exact (nI_ltI (by omega) (by omega)).mpr (by omega)
theorem k_far {q : Nat} (h : q ≤ 36) : nI q < 99999 := by
  rw [show (99999 : Int32) = nI 99999 from by decide +kernel]
  exact (nI_ltI (by omega) (by omega)).mpr (by omega)
section VS
variable {n W m : Nat} {at_ go : AF}
theorem vS_s {K : Int32} {j i gone : Nat} : vS n W K at_ go (j + 1) i gone = foldN (mnG gone (fun w => stpE n (at_ w) (go i) + vS n W K at_ go j (i + 1) (gone ||| 2 ^ w))) W 0 K := by rw [vS, mnF]
theorem vS_K1 {K K2 : Int32} {j i gone : Nat} (hK : ∀ q, q ≤ 36 → nI q < K) (hK2 : ∀ q, q ≤ 36 → nI q < K2) (hW : W ≤ 6) (hG : gone < 2 ^ W) (hp : j + 1 + pcN gone ≤ W) (hc : ∀ w, w < W → gone.testBit w = false → ∃ q, q ≤ 6 * (j + 1) ∧ stpE n (at_ w) (go i) + vS n W K at_ go j (i + 1) (gone ||| 2 ^ w) = nI q ∧ stpE n (at_ w) (go i) + vS n W K2 at_ go j (i + 1) (gone ||| 2 ^ w) = nI q) : ∃ q, q ≤ 6 * (j + 1) ∧ vS n W K at_ go (j + 1) i gone = nI q ∧ vS n W K2 at_ go (j + 1) i gone = nI q := by
  obtain ⟨u, u1, u2⟩ := gn_free hW hG (by omega)
  obtain ⟨q, q1, q2, q3⟩ := mn_two (M := 6 * (j + 1)) (K := K) (K2 := K2) (by omega) (c := fun w => stpE n (at_ w) (go i) + vS n W K at_ go j (i + 1) (gone ||| 2 ^ w)) (fun w hw hb => by obtain ⟨q, q1, q2, _⟩ := hc w hw hb; exact ⟨q, q1, q2⟩) (fun q h => hK q (by omega)) (fun q h => hK2 q (by omega)) W 0 (by omega) ⟨u, by omega, by omega, u2⟩
  refine ⟨q, q1, vS_s.trans q2, ?_⟩
  rw [← q3, vS_s]
  refine foldN_congr (n := W) (fun w hw p => ?_) _ _ _ (by omega)
  unfold mnG
  cases hb : gone.testBit w with
  | true => rw [if_pos rfl, if_pos rfl]
  | false =>
    obtain ⟨r, _, r2, r3⟩ := hc w hw hb
    simp only [r2, r3]
theorem vS_K {K K2 : Int32} (hK : ∀ q, q ≤ 36 → nI q < K) (hK2 : ∀ q, q ≤ 36 → nI q < K2) (hn : n ≤ 12) (hW : W ≤ 6) (ha : ∀ w, w < W → ∃ j, j < n ∧ at_ w = nI j) : ∀ (j i gone : Nat), gone < 2 ^ W → j + pcN gone ≤ W → (∀ k, i ≤ k → k < i + j → ∃ q, q < n ∧ go k = nI q) → ∃ q, q ≤ 6 * j ∧ vS n W K at_ go j i gone = nI q ∧ vS n W K2 at_ go j i gone = nI q := by
  intro j
  induction j with
  | zero => intro i gone _ _ _; exact ⟨0, by omega, rfl, rfl⟩
  | succ j ih =>
    intro i gone hG hp hgo
    have h64 : gone < 64 := by have : 2 ^ W ≤ 2 ^ 6 := Nat.pow_le_pow_right (by omega) hW; omega
    refine vS_K1 hK hK2 hW hG hp ?_
    intro w hw hb
    obtain ⟨a, a1, a2⟩ := ha w hw
    obtain ⟨b, b1, b2⟩ := hgo i (by omega) (by omega)
    obtain ⟨t, t1, t2⟩ := stpE_r hn a1 b1
    obtain ⟨q, q1, q2, q3⟩ := ih (i + 1) (gone ||| 2 ^ w) (gn_lt hG hw) (by have := (gn_pc gone h64 w (by omega) hb).1; omega) (fun k h1 h2 => hgo k (by omega) (by omega))
    exact ⟨t + q, by omega, by rw [a2, b2, t2, q2, nI_add], by rw [a2, b2, t2, q3, nI_add]⟩
theorem vS_two (hn : n ≤ 12) (hW : W ≤ 6) (ha : ∀ w, w < W → ∃ j, j < n ∧ at_ w = nI j) (j i gone : Nat) (h1 : gone < 2 ^ W) (h2 : j + pcN gone ≤ W) (h3 : ∀ k, i ≤ k → k < i + j → ∃ q, q < n ∧ go k = nI q) : ∃ q, q ≤ 6 * j ∧ vS n W 1000 at_ go j i gone = nI q ∧ vS n W 99999 at_ go j i gone = nI q := vS_K (fun _ => k_1000) (fun _ => k_far) hn hW ha j i gone h1 h2 h3
/-- by her, in the reference's words -/
def bwS (n W m : Nat) (K : Int32) (at_ go : AF) (i gone w : Nat) : Int32 := stpE n (at_ w) (go i) + vS n W K at_ go (m - (i + 1)) (i + 1) (gone ||| 2 ^ w)
theorem bwS_two {i gone w : Nat} (hn : n ≤ 12) (hW : W ≤ 6) (ha : ∀ w, w < W → ∃ j, j < n ∧ at_ w = nI j) (hgo : ∀ k, k < m → ∃ q, q < n ∧ go k = nI q) (hm : m ≤ W) (hG : gone < 2 ^ W) (hp : pcN gone = i) (hi : i < m) (hw : w < W) (hb : gone.testBit w = false) : byS n W 1000 at_ go m gone w = bwS n W m 99999 at_ go i gone w := by
  have h64 : gone < 64 := by have : 2 ^ W ≤ 2 ^ 6 := Nat.pow_le_pow_right (by omega) hW; omega
  have e := (gn_pc gone h64 w (by omega) hb).1
  obtain ⟨q, _, q2, q3⟩ := vS_two hn hW ha (m - (i + 1)) (i + 1) (gone ||| 2 ^ w) (gn_lt hG hw) (by omega) (fun k h1 h2 => hgo k (by omega))
  rw [byS, if_pos (by omega), tbS, e, hp, bwS, q2, q3]
theorem tbS_two {i gone : Nat} (hn : n ≤ 12) (hW : W ≤ 6) (ha : ∀ w, w < W → ∃ j, j < n ∧ at_ w = nI j) (hgo : ∀ k, k < m → ∃ q, q < n ∧ go k = nI q) (hm : m ≤ W) (hG : gone < 2 ^ W) (hp : pcN gone = i) (hi : i ≤ m) : tbS n W 1000 at_ go m gone = vS n W 99999 at_ go (m - i) i gone := by
  obtain ⟨q, _, q2, q3⟩ := vS_two hn hW ha (m - i) i gone hG (by omega) (fun k h1 h2 => hgo k (by omega))
  rw [tbS, hp, q2, q3]
/-- she is a next one -/
def nxB (n W : Nat) (K : Int32) (at_ go : AF) (m gone w : Nat) : Bool := !gone.testBit w && (byS n W K at_ go m gone w == tbS n W K at_ go m gone)
theorem nx_least {gone u : Nat} {K : Int32} (h1 : nxB n W K at_ go m gone u = true) (h2 : ∀ k, k < u → nxB n W K at_ go m gone k = false) : ∀ (j w : Nat), w ≤ u → u < w + j → nxS n W K at_ go m gone j w = nI u := by
  intro j
  induction j with
  | zero => intro w a b; omega
  | succ j ih =>
    intro w a b
    rw [nxS]
    by_cases e : w = u
    · subst e
      unfold nxB at h1
      simp only [Bool.and_eq_true, Bool.not_eq_true', beq_iff_eq] at h1
      rw [h1.1, if_neg (by decide), if_pos h1.2]
    · have h3 := h2 w (by omega)
      unfold nxB at h3
      simp only [Bool.and_eq_false_iff, Bool.not_eq_false', beq_eq_false_iff_ne] at h3
      have r := ih (w + 1) (by omega) (by omega)
      rcases h3 with h3 | h3
      · rw [h3, if_pos rfl, r]
      · rw [if_neg h3, r]
        split <;> rfl
def dnS (P : Nat → Bool) : Nat → Int32 → Int32
  | 0, v => v
  | w + 1, v => dnS P w (if P w then nI w else v)
theorem dn_id {P : Nat → Bool} : ∀ (w : Nat) (v : Int32), (∀ k, k < w → P k = false) → dnS P w v = v := by
  intro w
  induction w with
  | zero => intro v _; rfl
  | succ w ih =>
    intro v h
    rw [dnS, h w (by omega), if_neg (by decide)]
    exact ih v (fun k hk => h k (by omega))
theorem dn_least {P : Nat → Bool} {u : Nat} (h1 : P u = true) (h2 : ∀ k, k < u → P k = false) : ∀ (w : Nat) (v : Int32), u < w → dnS P w v = nI u := by
  intro w
  induction w with
  | zero => intro v h; omega
  | succ w ih =>
    intro v h
    rw [dnS]
    by_cases e : w = u
    · subst e
      rw [h1, if_pos rfl]
      exact dn_id w _ h2
    · exact ih _ (by omega)
theorem leastB {P : Nat → Bool} : ∀ (u : Nat), P u = true → ∃ k, k ≤ u ∧ P k = true ∧ ∀ i, i < k → P i = false := by
  intro u
  induction u using Nat.strongRecOn with
  | ind u ih =>
    intro hu
    by_cases e : ∃ i, i < u ∧ P i = true
    · obtain ⟨i, i1, i2⟩ := e
      obtain ⟨k, k1, k2, k3⟩ := ih i i1 i2
      exact ⟨k, by omega, k2, k3⟩
    · refine ⟨u, Nat.le_refl _, hu, fun i hi => ?_⟩
      cases hp : P i with
      | false => rfl
      | true => exact absurd ⟨i, hi, hp⟩ e
/-- there is a next one -/
theorem nx_ex {i gone : Nat} (hn : n ≤ 12) (hW : W ≤ 6) (ha : ∀ w, w < W → ∃ j, j < n ∧ at_ w = nI j) (hgo : ∀ k, k < m → ∃ q, q < n ∧ go k = nI q) (hm : m ≤ W) (hG : gone < 2 ^ W) (hp : pcN gone = i) (hi : i < m) : ∃ u, u < W ∧ nxB n W 1000 at_ go m gone u = true ∧ ∀ k, k < u → nxB n W 1000 at_ go m gone k = false := by
  have h64 : gone < 64 := by have : 2 ^ W ≤ 2 ^ 6 := Nat.pow_le_pow_right (by omega) hW; omega
  have eT := tbS_eq (n := n) (K := 1000) (at_ := at_) (go := go) hW h64 (show pcN gone < m by omega)
  obtain ⟨q, q1, q2, _⟩ := vS_two hn hW ha (m - i) i gone hG (by omega) (fun k h1 h2 => hgo k (by omega))
  have e2 : tbS n W 1000 at_ go m gone = nI q := by rw [tbS, hp]; exact q2
  rcases mn_at (gone := gone) (c := byS n W 1000 at_ go m gone) W 0 1000 (W := W) (by omega) with e | ⟨u, u1, u2, u3⟩
  · rw [← eT, e2] at e
    have := k_1000 (q := q) (by omega)
    rw [e] at this
    exact absurd this (by decide)
  · have hu : nxB n W 1000 at_ go m gone u = true := by
      unfold nxB
      rw [u2, u3, ← eT]
      simp
    obtain ⟨k, k1, k2, k3⟩ := leastB (P := nxB n W 1000 at_ go m gone) u hu
    exact ⟨k, by omega, k2, k3⟩
end VS
/-- how many bits below i -/
def gpN (v : Int32) : Nat → Nat
  | 0 => 0
  | i + 1 => gpN v i + (if bitE v i = 1 then 1 else 0)
theorem gpN_mono (v : Int32) {i : Nat} : ∀ j, i ≤ j → gpN v i ≤ gpN v j := by
  intro j
  induction j with
  | zero => intro h; rw [show i = 0 by omega]; omega
  | succ j ih =>
    intro h
    by_cases e : i = j + 1
    · subst e; omega
    · have := ih (by omega)
      rw [gpN]; omega
theorem bitE_k {k i : Nat} (hk : k < 2 ^ 31) (hi : i < 32) : bitE (nI k) i = if k.testBit i then 1 else 0 := by
  rw [bitE_bt _ hi]
  have : bt (nI k) i = k.testBit i := by
    show (nI k).toBitVec.getLsbD i = _
    rw [BitVec.getLsbD, show (nI k).toBitVec.toNat = k from pk_tn (by omega)]
  rw [this]
theorem gpN_bt (v : Int32) : ∀ i, i ≤ 12 → btF v i = nI (gpN v i) := by
  intro i
  induction i with
  | zero => intro _; rfl
  | succ i ih =>
    intro h
    rw [btF, ih (by omega), gpN, bitE_bt v (by omega)]
    cases bt v i with
    | true => rw [if_pos rfl, if_pos rfl, nI_s]
    | false => rw [if_neg (by decide), if_neg (by decide), Int32.add_zero, Nat.add_zero]
theorem gpN_pc {k n : Nat} (hn : n ≤ 12) (hk : k < 2 ^ n) : gpN (nI k) n = pcN k := by
  have h12 : 2 ^ n ≤ 2 ^ 12 := Nat.pow_le_pow_right (by omega) hn
  have e : ∀ j, n + j ≤ 12 → gpN (nI k) (n + j) = gpN (nI k) n := by
    intro j
    induction j with
    | zero => intro _; rfl
    | succ j ih =>
      intro h
      have h2 : 2 ^ n ≤ 2 ^ (n + j) := Nat.pow_le_pow_right (by omega) (by omega)
      rw [show n + (j + 1) = (n + j) + 1 by omega, gpN, ih (by omega), bitE_k (by omega) (by omega), Nat.testBit_lt_two_pow (by omega), if_neg (by decide)]
      rfl
  have e1 := e (12 - n) (by omega)
  rw [show n + (12 - n) = 12 by omega] at e1
  have e2 := gpN_bt (nI k) 12 (by omega)
  rw [btF_pc (by omega), e1] at e2
  have b : gpN (nI k) n ≤ n := by
    clear e e1 e2
    induction n with
    | zero => exact Nat.le_refl _
    | succ n _ =>
      have : ∀ j, gpN (nI k) j ≤ j := by
        intro j
        induction j with
        | zero => exact Nat.le_refl _
        | succ j ih => rw [gpN]; split <;> omega
      exact this _
  have c := congrArg Int32.toInt e2
  rw [nI_toInt (by have := pcN_le k; omega), nI_toInt (by omega)] at c
  omega
/-- the goals counted -/
theorem gls_c {v : Int32} {n : Nat} : ∀ (j i : Nat) (p : Nat × AF), i + j = n → p.1 = gpN v i → gpN v n ≤ 6 → (foldN (goG v) j i p).1 = gpN v n := by
  intro j
  induction j with
  | zero => intro i p h1 h2 _; rw [foldN, h2]; congr 1
  | succ j ih =>
    intro i p h1 h2 h3
    rw [foldN]
    refine ih (i + 1) _ (by omega) ?_ h3
    have := gpN_mono v (i := i + 1) n (by omega)
    rw [gpN] at this ⊢
    rw [goG]
    by_cases y : bitE v i = 1
    · rw [if_pos y] at this
      rw [if_pos y, if_pos y, if_neg (by omega), h2]
    · rw [if_neg y, if_neg y, h2, Nat.add_zero]
