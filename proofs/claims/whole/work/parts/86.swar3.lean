/-! bits counted: the long's count -/
theorem xN_lit (n : Nat) (h : n < 2 ^ 64) : xN (Int64.ofNat n) = n := by
  have e : (Int64.ofNat n).toBitVec = BitVec.ofNat 64 n := rfl
  rw [xN, e, BitVec.toNat_ofNat, Nat.mod_eq_of_lt h]
theorem mB8 (k a b c d e f g h : Nat) : mB k [a, b, c, d, e, f, g, h] = k * 72340172838076673 := by
  simp only [mB]
  omega
theorem kx {n k : Nat} (h : n < 2 ^ 64) (e : n = k * 72340172838076673) (a b c d e' f g h' : Nat) : xN (Int64.ofNat n) = mB k [a, b, c, d, e', f, g, h'] := by rw [xN_lit n h, mB8, e]
theorem k55 (a b c d e f g h : Nat) : xN 6148914691236517205 = mB 0x55 [a, b, c, d, e, f, g, h] := kx (n := 6148914691236517205) (by decide) (by decide) a b c d e f g h
theorem k33 (a b c d e f g h : Nat) : xN 3689348814741910323 = mB 0x33 [a, b, c, d, e, f, g, h] := kx (n := 3689348814741910323) (by decide) (by decide) a b c d e f g h
theorem k0f (a b c d e f g h : Nat) : xN 1085102592571150095 = mB 0x0f [a, b, c, d, e, f, g, h] := kx (n := 1085102592571150095) (by decide) (by decide) a b c d e f g h
theorem bj_bytes (x : Int64) : ∃ a b c d e f g h : Nat, (a < 256 ∧ b < 256 ∧ c < 256 ∧ d < 256 ∧ e < 256 ∧ f < 256 ∧ g < 256 ∧ h < 256) ∧ xN x = vB [a, b, c, d, e, f, g, h] := by
  have hv := byL_v 8 (xN x) (Nat.lt_of_lt_of_eq (xN_lt x) (by decide))
  have hl := byL_lt 8 (xN x)
  refine ⟨_, _, _, _, _, _, _, _, ⟨?_, ?_, ?_, ?_, ?_, ?_, ?_, ?_⟩, hv.symm⟩
  all_goals exact Nat.mod_lt _ (by decide)
theorem xN_b1 (x : Int64) {l : List Nat} (h : xN x = vB l) (hl : ∀ c, c ∈ l → c < 256) (hk : xN 6148914691236517205 = mB 0x55 l) : xN (bj1 x) = vB (l.map g1) := by
  obtain ⟨e1, e2⟩ := m1_le l hl
  unfold bj1
  have e : xN ((Int64.toUInt64 x >>> ((Int32.toInt64 (1 : Int32)).toUInt64 &&& Int64.toUInt64 63)).toInt64 &&& (6148914691236517205 : Int64)) = vB l / 2 &&& mB 0x55 l := by
    rw [xN_and, xN_shr x 1 _ (by decide), hk, h]
  rw [xN_sub (by rw [e, h]; exact e1), e, h, e2]
theorem xN_b2 (x : Int64) {l : List Nat} (h : xN x = vB l) (hl : ∀ c, c ∈ l → c < 256) (hk : xN 3689348814741910323 = mB 0x33 l) (hb : vB (l.map g2) < 2 ^ 64) : xN (bj2 x) = vB (l.map g2) := by
  unfold bj2
  rw [xN_add, xN_and, xN_and, xN_shr x 2 _ (by decide), hk, h]
  have := m2_eq l hl
  rw [show (2 : Nat) ^ 2 = 4 from rfl, this]
  exact Nat.mod_eq_of_lt hb
theorem xN_b3 (x : Int64) {l : List Nat} (h : xN x = vB l) (hl : ∀ c, c ∈ l → c < 69 ∧ c % 16 < 5) (hk : xN 1085102592571150095 = mB 0x0f l) (hb : vB l < 2 ^ 63) : xN (bj3 x) = vB (l.map g3) := by
  unfold bj3
  rw [xN_and, xN_add, xN_shr x 4 _ (by decide), hk, h, show (2 : Nat) ^ 4 = 16 from rfl]
  rw [Nat.mod_eq_of_lt (show vB l + vB l / 16 < 2 ^ 64 by omega)]
  exact m3_eq l hl
theorem xN_b4 (x : Int64) : xN (bj4 x) = (xN x + xN x / 256) % 2 ^ 64 := by
  unfold bj4
  rw [xN_add, xN_shr x 8 _ (by decide)]
theorem xN_b5 (x : Int64) : xN (bj5 x) = (xN x + xN x / 65536) % 2 ^ 64 := by
  unfold bj5
  rw [xN_add, xN_shr x 16 _ (by decide)]
theorem xN_b6 (x : Int64) : xN (bj6 x) = (xN x + xN x / 4294967296) % 2 ^ 64 := by
  unfold bj6
  rw [xN_add, xN_shr x 32 _ (by decide)]
theorem bj_end (x : Int64) {k : Nat} (h : xN x % 128 = k) : Int64.toInt32 x &&& 127 = nI k := by
  apply Int32.toBitVec_inj.mp
  apply BitVec.eq_of_toNat_eq
  have hk : k < 128 := by omega
  rw [show (nI k).toBitVec.toNat = k from pk_tn (by omega), Int32.toBitVec_and, BitVec.toNat_and]
  have e1 : (Int64.toInt32 x).toBitVec.toNat = xN x % 2 ^ 32 := by
    rw [Int64.toBitVec_toInt32, BitVec.signExtend_eq_setWidth_of_le _ (by decide), BitVec.toNat_setWidth]; rfl
  have e2 : (127 : Int32).toBitVec.toNat = 2 ^ 7 - 1 := by decide
  rw [e1, e2, Nat.and_two_pow_sub_one_eq_mod]
  omega
theorem bj_c (x : Int64) : bjE x = nI (cN (xN x) 64) := by
  obtain ⟨a, b, c, d, e, f, g, h, ⟨ha, hb, hc, hd, he, hf, hg, hh⟩, hv⟩ := bj_bytes x
  have hl : ∀ z, z ∈ [a, b, c, d, e, f, g, h] → z < 256 := by
    intro z hz
    simp only [List.mem_cons, List.not_mem_nil, or_false] at hz
    rcases hz with rfl | rfl | rfl | rfl | rfl | rfl | rfl | rfl <;> assumption
  have hs := sB_cN _ hl
  rw [← hv] at hs
  have e1 := xN_b1 x hv hl (k55 a b c d e f g h)
  have q : ∀ z, z < 256 → g1 z < 256 ∧ g2 (g1 z) < 69 ∧ g2 (g1 z) % 16 < 5 ∧ g3 (g2 (g1 z)) ≤ 8 := g12_b
  simp only [List.map_cons, List.map_nil] at e1 hs
  have hl1 : ∀ z, z ∈ [g1 a, g1 b, g1 c, g1 d, g1 e, g1 f, g1 g, g1 h] → z < 256 := by
    intro z hz
    simp only [List.mem_cons, List.not_mem_nil, or_false] at hz
    rcases hz with rfl | rfl | rfl | rfl | rfl | rfl | rfl | rfl
    all_goals exact (q _ (by assumption)).1
  have l2 : ∀ z, z < 256 → g2 (g1 z) < 256 := fun z hz => Nat.lt_of_lt_of_le (q z hz).2.1 (by decide)
  have e2 := xN_b2 (bj1 x) e1 hl1 (k33 _ _ _ _ _ _ _ _) (by
    simp only [List.map_cons, List.map_nil]
    exact vB_lt8 (l2 _ ha) (l2 _ hb) (l2 _ hc) (l2 _ hd) (l2 _ he) (l2 _ hf) (l2 _ hg) (l2 _ hh))
  simp only [List.map_cons, List.map_nil] at e2
  have hl2 : ∀ z, z ∈ [g2 (g1 a), g2 (g1 b), g2 (g1 c), g2 (g1 d), g2 (g1 e), g2 (g1 f), g2 (g1 g), g2 (g1 h)] → z < 69 ∧ z % 16 < 5 := by
    intro z hz
    simp only [List.mem_cons, List.not_mem_nil, or_false] at hz
    rcases hz with rfl | rfl | rfl | rfl | rfl | rfl | rfl | rfl
    all_goals exact ⟨(q _ (by assumption)).2.1, (q _ (by assumption)).2.2.1⟩
  have e3 := xN_b3 (bj2 (bj1 x)) e2 hl2 (k0f _ _ _ _ _ _ _ _) (by
    have h7 : vB [g2 (g1 h)] < 69 := by rw [vB, vB]; have := (q _ hh).2.1; omega
    exact Nat.lt_of_lt_of_le (vB_c (l2 _ ha) (vB_c (l2 _ hb) (vB_c (l2 _ hc) (vB_c (l2 _ hd) (vB_c (l2 _ he) (vB_c (l2 _ hf) (vB_c (l2 _ hg) h7))))))) (by decide))
  simp only [List.map_cons, List.map_nil] at e3
  have e4 := sw_sum (q _ ha).2.2.2 (q _ hb).2.2.2 (q _ hc).2.2.2 (q _ hd).2.2.2 (q _ he).2.2.2 (q _ hf).2.2.2 (q _ hg).2.2.2 (q _ hh).2.2.2 e3 (xN_b4 _) (xN_b5 _) (xN_b6 _)
  rw [hs] at e4
  unfold bjE
  exact bj_end _ e4
/-- a count by a test -/
def cP (P : Nat → Bool) : Nat → Nat
  | 0 => 0
  | n + 1 => cP P n + (if P n then 1 else 0)
theorem cP_congr {P Q : Nat → Bool} : ∀ n, (∀ v, v < n → P v = Q v) → cP P n = cP Q n := by
  intro n
  induction n with
  | zero => intro _; rfl
  | succ n ih => intro h; rw [cP, cP, ih (fun v hv => h v (by omega)), h n (by omega)]
theorem cP_one {P Q : Nat → Bool} {a : Nat} (h1 : P a = false) (h2 : Q a = true) : ∀ n, (∀ v, v < n → v ≠ a → Q v = P v) → a < n → cP Q n = cP P n + 1 := by
  intro n
  induction n with
  | zero => intro _ h; omega
  | succ n ih =>
    intro h ha
    rw [cP, cP]
    by_cases y : n = a
    · subst y
      rw [cP_congr n (fun v hv => h v (by omega) (by omega)), h1, h2, if_pos rfl, if_neg (by decide)]
    · rw [ih (fun v hv => h v (by omega)) (by omega), h n (by omega) y]
      omega
theorem cN_cP {x : Nat} {P : Nat → Bool} : ∀ n, (∀ v, v < n → x.testBit v = P v) → cN x n = cP P n := by
  intro n
  induction n with
  | zero => intro _; rfl
  | succ n ih => intro h; rw [cN, cP, ih (fun v hv => h v (by omega)), h n (by omega)]
/-- how many unlike ones -/
def dsJ (v : Nat → Int32) : Nat → Nat
  | 0 => 0
  | j + 1 => dsJ v j + (if (List.range j).any (fun i => v j == v i) then 0 else 1)
def anB (v : Nat → Int32) (c w : Nat) : Bool := (List.range c).any (fun i => v i == nI w)
theorem anB_s {v : Nat → Int32} {c w : Nat} : anB v (c + 1) w = (anB v c w || v c == nI w) := by
  unfold anB
  rw [List.range_succ, List.any_append]
  simp
theorem ds_cP {v : Nat → Int32} : ∀ c, (∀ i, i < c → ∃ a, a ≤ 99 ∧ v i = nI a) → dsJ v c = cP (anB v c) 64 + cP (fun w => anB v c (64 + w)) 64 := by
  intro c
  induction c with
  | zero =>
    intro _
    have : ∀ n, cP (anB v 0) n = 0 ∧ cP (fun w => anB v 0 (64 + w)) n = 0 := by
      intro n
      induction n with
      | zero => exact ⟨rfl, rfl⟩
      | succ n ih => rw [cP, cP, ih.1, ih.2]; exact ⟨rfl, rfl⟩
    rw [(this 64).1, (this 64).2]; rfl
  | succ c ih =>
    intro h
    obtain ⟨a, a1, a2⟩ := h c (by omega)
    rw [dsJ, ih (fun i hi => h i (by omega))]
    have eany : (List.range c).any (fun i => v c == v i) = anB v c a := by
      unfold anB
      rw [a2]
      congr 1
      funext i
      exact Bool.eq_iff_iff.mpr (by rw [beq_iff_eq, beq_iff_eq]; exact ⟨fun e => e.symm, fun e => e.symm⟩)
    rw [eany]
    have ne : ∀ w, w < 2 ^ 31 → w ≠ a → anB v (c + 1) w = anB v c w := by
      intro w hw hne
      rw [anB_s, a2, beq_eq_false_iff_ne.mpr (fun e => hne (nI_ij (by omega) hw e).symm), Bool.or_false]
    cases hb : anB v c a with
    | true =>
      rw [if_pos rfl, Nat.add_zero]
      have all : ∀ w, w < 2 ^ 31 → anB v (c + 1) w = anB v c w := by
        intro w hw
        by_cases y : w = a
        · subst y; rw [anB_s, hb]; rfl
        · exact ne w hw y
      rw [cP_congr (P := anB v (c + 1)) 64 (fun w hw => all w (by omega)), cP_congr (P := fun w => anB v (c + 1) (64 + w)) 64 (fun w hw => all (64 + w) (by omega))]
    | false =>
      rw [if_neg (by decide)]
      have ht : anB v (c + 1) a = true := by rw [anB_s, a2, beq_self_eq_true, Bool.or_true]
      by_cases y : a < 64
      · rw [cP_one hb ht 64 (fun w hw hne => ne w (by omega) hne) y, cP_congr (P := fun w => anB v (c + 1) (64 + w)) 64 (fun w hw => ne (64 + w) (by omega) (by omega))]
        omega
      · have e : 64 + (a - 64) = a := by omega
        rw [cP_congr (P := anB v (c + 1)) 64 (fun w hw => ne w (by omega) (by omega)), cP_one (P := fun w => anB v c (64 + w)) (Q := fun w => anB v (c + 1) (64 + w)) (a := a - 64) (by show anB v c (64 + (a - 64)) = false; rw [e]; exact hb) (by show anB v (c + 1) (64 + (a - 64)) = true; rw [e]; exact ht) 64 (fun w hw hne => ne (64 + w) (by omega) (by omega)) (by omega)]
        omega
