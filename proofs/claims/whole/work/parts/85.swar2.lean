/-! bits counted: the sum -/
theorem vB_c {a M : Nat} {l : List Nat} (ha : a < 256) (h : vB l < M) : vB (a :: l) < 256 * M := by rw [vB]; omega
theorem vB_d {a : Nat} {l : List Nat} (ha : a < 256) : vB (a :: l) / 256 = vB l := by rw [vB]; omega
theorem vB_0 : ∀ (l : List Nat), vB (l ++ [0]) = vB l := by
  intro l
  induction l with
  | nil => rfl
  | cons c l ih => rw [List.cons_append, vB, vB, ih]
theorem vB_add {a b : Nat} {l m k : List Nat} (h : vB l + vB m = vB k) : vB (a :: l) + vB (b :: m) = vB ((a + b) :: k) := by
  rw [vB, vB, vB, ← h]; omega
theorem vB_add8 (a0 a1 a2 a3 a4 a5 a6 a7 b0 b1 b2 b3 b4 b5 b6 b7 : Nat) : vB [a0, a1, a2, a3, a4, a5, a6, a7] + vB [b0, b1, b2, b3, b4, b5, b6, b7] = vB [a0 + b0, a1 + b1, a2 + b2, a3 + b3, a4 + b4, a5 + b5, a6 + b6, a7 + b7] :=
  vB_add (vB_add (vB_add (vB_add (vB_add (vB_add (vB_add (vB_add rfl)))))))
theorem vB_lt8 {a0 a1 a2 a3 a4 a5 a6 a7 : Nat} (h0 : a0 < 256) (h1 : a1 < 256) (h2 : a2 < 256) (h3 : a3 < 256) (h4 : a4 < 256) (h5 : a5 < 256) (h6 : a6 < 256) (h7 : a7 < 256) : vB [a0, a1, a2, a3, a4, a5, a6, a7] < 2 ^ 64 :=
  Nat.lt_of_lt_of_eq (vB_c h0 (vB_c h1 (vB_c h2 (vB_c h3 (vB_c h4 (vB_c h5 (vB_c h6 (vB_c h7 (show vB [] < 1 from Nat.one_pos))))))))) (by decide)
theorem sw1 {a0 a1 a2 a3 a4 a5 a6 a7 : Nat} (h0 : a0 < 128) (h1 : a1 < 128) (h2 : a2 < 128) (h3 : a3 < 128) (h4 : a4 < 128) (h5 : a5 < 128) (h6 : a6 < 128) (h7 : a7 < 128) : (vB [a0, a1, a2, a3, a4, a5, a6, a7] + vB [a0, a1, a2, a3, a4, a5, a6, a7] / 256) % 2 ^ 64 = vB [a0 + a1, a1 + a2, a2 + a3, a3 + a4, a4 + a5, a5 + a6, a6 + a7, a7 + 0] := by
  rw [vB_d (by omega), ← vB_0 [a1, a2, a3, a4, a5, a6, a7]]
  show (vB [a0, a1, a2, a3, a4, a5, a6, a7] + vB [a1, a2, a3, a4, a5, a6, a7, 0]) % 2 ^ 64 = _
  rw [vB_add8]
  exact Nat.mod_eq_of_lt (vB_lt8 (by omega) (by omega) (by omega) (by omega) (by omega) (by omega) (by omega) (by omega))
theorem dv2 (x : Nat) : x / 65536 = x / 256 / 256 := by rw [Nat.div_div_eq_div_mul]
theorem dv4 (x : Nat) : x / 4294967296 = x / 256 / 256 / 256 / 256 := by rw [Nat.div_div_eq_div_mul, Nat.div_div_eq_div_mul, Nat.div_div_eq_div_mul]
theorem sw2 {a0 a1 a2 a3 a4 a5 a6 a7 : Nat} (h0 : a0 < 128) (h1 : a1 < 128) (h2 : a2 < 128) (h3 : a3 < 128) (h4 : a4 < 128) (h5 : a5 < 128) (h6 : a6 < 128) (h7 : a7 < 128) : (vB [a0, a1, a2, a3, a4, a5, a6, a7] + vB [a0, a1, a2, a3, a4, a5, a6, a7] / 65536) % 2 ^ 64 = vB [a0 + a2, a1 + a3, a2 + a4, a3 + a5, a4 + a6, a5 + a7, a6 + 0, a7 + 0] := by
  rw [dv2, vB_d (by omega), vB_d (by omega), ← vB_0 [a2, a3, a4, a5, a6, a7], ← vB_0 ([a2, a3, a4, a5, a6, a7] ++ [0])]
  show (vB [a0, a1, a2, a3, a4, a5, a6, a7] + vB [a2, a3, a4, a5, a6, a7, 0, 0]) % 2 ^ 64 = _
  rw [vB_add8]
  exact Nat.mod_eq_of_lt (vB_lt8 (by omega) (by omega) (by omega) (by omega) (by omega) (by omega) (by omega) (by omega))
theorem sw3 {a0 a1 a2 a3 a4 a5 a6 a7 : Nat} (h0 : a0 < 128) (h1 : a1 < 128) (h2 : a2 < 128) (h3 : a3 < 128) (h4 : a4 < 128) (h5 : a5 < 128) (h6 : a6 < 128) (h7 : a7 < 128) : (vB [a0, a1, a2, a3, a4, a5, a6, a7] + vB [a0, a1, a2, a3, a4, a5, a6, a7] / 4294967296) % 2 ^ 64 = vB [a0 + a4, a1 + a5, a2 + a6, a3 + a7, a4 + 0, a5 + 0, a6 + 0, a7 + 0] := by
  rw [dv4, vB_d (by omega), vB_d (by omega), vB_d (by omega), vB_d (by omega), ← vB_0 [a4, a5, a6, a7], ← vB_0 ([a4, a5, a6, a7] ++ [0]), ← vB_0 ([a4, a5, a6, a7] ++ [0] ++ [0]), ← vB_0 ([a4, a5, a6, a7] ++ [0] ++ [0] ++ [0])]
  show (vB [a0, a1, a2, a3, a4, a5, a6, a7] + vB [a4, a5, a6, a7, 0, 0, 0, 0]) % 2 ^ 64 = _
  rw [vB_add8]
  exact Nat.mod_eq_of_lt (vB_lt8 (by omega) (by omega) (by omega) (by omega) (by omega) (by omega) (by omega) (by omega))
theorem vB_m {a : Nat} {l : List Nat} (ha : a < 128) : vB (a :: l) % 128 = a := by rw [vB]; omega
theorem sw_sum {p0 p1 p2 p3 p4 p5 p6 p7 : Nat} (h0 : p0 ≤ 8) (h1 : p1 ≤ 8) (h2 : p2 ≤ 8) (h3 : p3 ≤ 8) (h4 : p4 ≤ 8) (h5 : p5 ≤ 8) (h6 : p6 ≤ 8) (h7 : p7 ≤ 8) {y y4 y5 y6 : Nat} (e : y = vB [p0, p1, p2, p3, p4, p5, p6, p7]) (e4 : y4 = (y + y / 256) % 2 ^ 64) (e5 : y5 = (y4 + y4 / 65536) % 2 ^ 64) (e6 : y6 = (y5 + y5 / 4294967296) % 2 ^ 64) : y6 % 128 = sB [p0, p1, p2, p3, p4, p5, p6, p7] := by
  rw [e, sw1 (by omega) (by omega) (by omega) (by omega) (by omega) (by omega) (by omega) (by omega)] at e4
  rw [e4, sw2 (by omega) (by omega) (by omega) (by omega) (by omega) (by omega) (by omega) (by omega)] at e5
  rw [e5, sw3 (by omega) (by omega) (by omega) (by omega) (by omega) (by omega) (by omega) (by omega)] at e6
  rw [e6, vB_m (by omega)]
  simp only [sB]
  omega
def byL (x : Nat) : Nat → List Nat
  | 0 => []
  | n + 1 => x % 256 :: byL (x / 256) n
theorem byL_v : ∀ (n x : Nat), x < 256 ^ n → vB (byL x n) = x := by
  intro n
  induction n with
  | zero => intro x h; rw [byL, vB]; omega
  | succ n ih =>
    intro x h
    rw [byL, vB, ih (x / 256) (by rw [Nat.pow_succ] at h; omega)]
    omega
theorem byL_lt : ∀ (n x c : Nat), c ∈ byL x n → c < 256 := by
  intro n
  induction n with
  | zero => intro x c h; exact absurd h List.not_mem_nil
  | succ n ih =>
    intro x c h
    rcases List.mem_cons.mp h with e | e
    · omega
    · exact ih _ c e
/-- how many bits below n -/
def cN (x : Nat) : Nat → Nat
  | 0 => 0
  | n + 1 => cN x n + (if x.testBit n then 1 else 0)
theorem cN_8 : ∀ a, a < 256 → g3 (g2 (g1 a)) = cN a 8 := by decide +kernel
theorem cN_lo {c v : Nat} (hc : c < 256) : ∀ n, n ≤ 8 → cN (c + 256 * v) n = cN c n := by
  intro n
  induction n with
  | zero => intro _; rfl
  | succ n ih =>
    intro h
    have : (c + 256 * v).testBit n = c.testBit n := by
      rw [Nat.add_comm c, show (256 : Nat) = 2 ^ 8 from rfl, Nat.testBit_two_pow_mul_add v hc, if_pos (by omega)]
    rw [cN, cN, ih (by omega), this]
theorem cN_hi {c v : Nat} (hc : c < 256) : ∀ n, cN (c + 256 * v) (8 + n) = cN c 8 + cN v n := by
  intro n
  induction n with
  | zero => rw [Nat.add_zero, cN_lo hc 8 (by omega), cN.eq_1, Nat.add_zero]
  | succ n ih =>
    rw [show 8 + (n + 1) = (8 + n) + 1 by omega, cN, ih, cN.eq_2 v, Nat.add_assoc]
    have : (c + 256 * v).testBit (8 + n) = v.testBit n := by
      rw [Nat.add_comm c, show (256 : Nat) = 2 ^ 8 from rfl, Nat.testBit_two_pow_mul_add v hc, if_neg (by omega), show 8 + n - 8 = n by omega]
    rw [this]
theorem sB_cN : ∀ (l : List Nat), (∀ c, c ∈ l → c < 256) → sB (((l.map g1).map g2).map g3) = cN (vB l) (8 * l.length) := by
  intro l
  induction l with
  | nil => intro _; rfl
  | cons c l ih =>
    intro h
    have hc := h c List.mem_cons_self
    rw [List.map_cons, List.map_cons, List.map_cons, sB, ih (fun c hc => h c (List.mem_cons_of_mem _ hc)), vB, List.length_cons, show 8 * (l.length + 1) = 8 + 8 * l.length by omega, cN_hi hc, cN_8 c hc]
