/-! bits counted -/
def xN (x : Int64) : Nat := x.toBitVec.toNat
theorem xN_lt (x : Int64) : xN x < 2 ^ 64 := x.toBitVec.isLt
theorem xN_and (x y : Int64) : xN (x &&& y) = xN x &&& xN y := by
  show (x &&& y).toBitVec.toNat = _
  rw [Int64.toBitVec_and, BitVec.toNat_and]; rfl
theorem xN_add (x y : Int64) : xN (x + y) = (xN x + xN y) % 2 ^ 64 := by
  show (x + y).toBitVec.toNat = _
  rw [Int64.toBitVec_add, BitVec.toNat_add]; rfl
theorem xN_sub {x y : Int64} (h : xN y ≤ xN x) : xN (x - y) = xN x - xN y := by
  show (x - y).toBitVec.toNat = _
  rw [Int64.toBitVec_sub, BitVec.toNat_sub]
  have h1 := xN_lt x
  have h2 := xN_lt y
  unfold xN at h h1 h2 ⊢
  omega
theorem xN_shr (x : Int64) (k : Nat) (y : UInt64) (hy : (y.toBitVec % 64).toNat = k) : xN (x.toUInt64 >>> y).toInt64 = xN x / 2 ^ k := by
  have e : (x.toUInt64 >>> y).toInt64.toBitVec = x.toBitVec >>> k := by
    rw [← hy]
    exact UInt64.toBitVec_shiftRight _ _
  show (x.toUInt64 >>> y).toInt64.toBitVec.toNat = _
  rw [e, BitVec.toNat_ushiftRight, Nat.shiftRight_eq_div_pow]; rfl
/-- bytes -/
def vB : List Nat → Nat
  | [] => 0
  | c :: l => c + 256 * vB l
def mB (k : Nat) : List Nat → Nat
  | [] => 0
  | _ :: l => k + 256 * mB k l
theorem and_by {a b c d : Nat} (ha : a < 256) (hc : c < 256) : (a + 256 * b) &&& (c + 256 * d) = (a &&& c) + 256 * (b &&& d) := by
  have hac : a &&& c < 2 ^ 8 := Nat.lt_of_le_of_lt Nat.and_le_left ha
  apply Nat.eq_of_testBit_eq
  intro i
  rw [Nat.add_comm a, Nat.add_comm c, Nat.add_comm (a &&& c), show (256 : Nat) = 2 ^ 8 from rfl, Nat.testBit_and, Nat.testBit_two_pow_mul_add b ha, Nat.testBit_two_pow_mul_add d hc, Nat.testBit_two_pow_mul_add (b &&& d) hac]
  split
  · rw [Nat.testBit_and]
  · rw [Nat.testBit_and]
def g1 (c : Nat) : Nat := c - (c / 2 &&& 0x55)
def g2 (c : Nat) : Nat := (c &&& 0x33) + (c / 4 &&& 0x33)
def g3 (c : Nat) : Nat := (c + c / 16) &&& 0x0f
theorem g1_b : ∀ a, a < 256 → ∀ e, e < 2 → (a / 2 + 128 * e) &&& 0x55 = a / 2 &&& 0x55 ∧ (a / 2 &&& 0x55) ≤ a := by decide +kernel
theorem g2_b : ∀ a, a < 256 → ∀ e, e < 4 → (a / 4 + 64 * e) &&& 0x33 = a / 4 &&& 0x33 := by decide +kernel
theorem g3_b : ∀ a, a < 69 → ∀ e, e < 5 → (a + a / 16 + 16 * e) &&& 0x0f = g3 a := by decide +kernel
theorem g12_b : ∀ a, a < 256 → g1 a < 256 ∧ g2 (g1 a) < 69 ∧ g2 (g1 a) % 16 < 5 ∧ g3 (g2 (g1 a)) ≤ 8 := by decide +kernel
theorem m1_le : ∀ (l : List Nat), (∀ c, c ∈ l → c < 256) → (vB l / 2 &&& mB 0x55 l) ≤ vB l ∧ vB l - (vB l / 2 &&& mB 0x55 l) = vB (l.map g1) := by
  intro l
  induction l with
  | nil => intro _; exact ⟨Nat.le_refl _, rfl⟩
  | cons c l ih =>
    intro h
    obtain ⟨i1, i2⟩ := ih (fun c hc => h c (List.mem_cons_of_mem _ hc))
    have hc := h c List.mem_cons_self
    obtain ⟨e1, e2⟩ := g1_b c hc (vB l % 2) (by omega)
    have e3 : (c + 256 * vB l) / 2 = (c / 2 + 128 * (vB l % 2)) + 256 * (vB l / 2) := by omega
    have e4 : (c + 256 * vB l) / 2 &&& (0x55 + 256 * mB 0x55 l) = (c / 2 &&& 0x55) + 256 * (vB l / 2 &&& mB 0x55 l) := by
      rw [e3, and_by (by omega) (by omega), e1]
    rw [List.map_cons, vB, vB, mB, e4, ← i2, g1]
    omega
theorem m2_eq : ∀ (l : List Nat), (∀ c, c ∈ l → c < 256) → (vB l &&& mB 0x33 l) + (vB l / 4 &&& mB 0x33 l) = vB (l.map g2) := by
  intro l
  induction l with
  | nil => intro _; rfl
  | cons c l ih =>
    intro h
    have i2 := ih (fun c hc => h c (List.mem_cons_of_mem _ hc))
    have hc := h c List.mem_cons_self
    have e1 := g2_b c hc (vB l % 4) (by omega)
    have e3 : (c + 256 * vB l) / 4 = (c / 4 + 64 * (vB l % 4)) + 256 * (vB l / 4) := by omega
    have e4 : (c + 256 * vB l) / 4 &&& (0x33 + 256 * mB 0x33 l) = (c / 4 &&& 0x33) + 256 * (vB l / 4 &&& mB 0x33 l) := by
      rw [e3, and_by (by omega) (by omega), e1]
    rw [List.map_cons, vB, vB, mB, e4, and_by hc (by omega), ← i2, g2]
    omega
theorem vB_16 : ∀ (l : List Nat), (∀ c, c ∈ l → c < 69 ∧ c % 16 < 5) → vB l % 16 < 5 := by
  intro l h
  cases l with
  | nil => exact (by decide : 0 % 16 < 5)
  | cons c l =>
    have := h c List.mem_cons_self
    rw [vB]
    omega
theorem m3_eq : ∀ (l : List Nat), (∀ c, c ∈ l → c < 69 ∧ c % 16 < 5) → (vB l + vB l / 16) &&& mB 0x0f l = vB (l.map g3) := by
  intro l
  induction l with
  | nil => intro _; rfl
  | cons c l ih =>
    intro h
    have hl := fun c hc => h c (List.mem_cons_of_mem _ hc)
    have i2 := ih hl
    have hc := h c List.mem_cons_self
    have h16 := vB_16 l hl
    have e3 : (c + 256 * vB l) + (c + 256 * vB l) / 16 = (c + c / 16 + 16 * (vB l % 16)) + 256 * (vB l + vB l / 16) := by omega
    rw [List.map_cons, vB, vB, mB, e3, and_by (by omega) (by omega), g3_b c hc.1 _ h16, i2]
def sB : List Nat → Nat
  | [] => 0
  | c :: l => c + sB l
