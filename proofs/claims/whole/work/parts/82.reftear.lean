/-! THE REFERENCE: guesses of a tear, the pure part -/
def bJ (x : Int64) (i : Nat) : Bool := x.toBitVec.getLsbD i
theorem bJ_or (x y : Int64) (i : Nat) : bJ (x ||| y) i = (bJ x i || bJ y i) := by
  show (x ||| y).toBitVec.getLsbD i = _
  rw [Int64.toBitVec_or, BitVec.getLsbD_or]
  rfl
theorem bJ_bit : ∀ v, v < 64 → ∀ i, i < 64 → bJ (bitJ (nI v)) i = decide (i = v) := by decide +kernel
theorem bJ_0 (i : Nat) : bJ 0 i = false := by
  show (0 : Int64).toBitVec.getLsbD i = false
  rw [show (0 : Int64).toBitVec = 0#64 from rfl, BitVec.getLsbD_zero]
theorem max0_z {a m : Nat} (h : a ≤ m) (hm : m < 2 ^ 30) : max0 (nI a - nI m) = 0 := by
  unfold max0
  refine if_neg (fun e => ?_)
  have := Int32.lt_iff_toInt_lt.mp e
  rw [pk_sub_toInt (by omega) hm, show (0 : Int32).toInt = 0 from rfl] at this
  omega
theorem wear_same {n k a m : Nat} {L : LandV} (e : lSm L k = nI a) (h : a ≤ m) (hm : m < 2 ^ 30) : wearL n L k (nI m) = wearL n L k (nI a) := by
  unfold wearL
  rw [e, max0_z h hm, max0_z (Nat.le_refl a) (by omega)]
theorem tear_same {n k a m : Nat} {L : LandV} (e : lSm L k = nI a) (h : a ≤ m) (hm : m < 2 ^ 30) : tearL n L k (nI m) = tearL n L k (nI a) := by
  unfold tearL
  rw [wear_same e h hm]
/-- the seams by a guess, when looked at -/
def rowS (s : CoreV) (l i m : Nat) : AF := lSm (daysT (sT s) l (tearL (sN s) (sL s) i (nI m)))
def guB (s : CoreV) (i m : Nat) : Bool := !(lSm (sL s) i == 0) && isF (sT s) (sS s) 20 0 (tearL (sN s) (sL s) i (nI m))
abbrev RgV : Type := List AF × Int32
def adG (s : CoreV) (l i m : Nat) (q : RgV) : RgV := (rowS s l i m :: q.1, if q.2 = -1 then nI (100 * i + m) else q.2)
def rgG (s : CoreV) (l i m : Nat) (q : RgV) : RgV := if guB s i m then adG s l i m q else q
def rgF (s : CoreV) (l : Nat) : RgV := foldN (fun i q => foldN (rgG s l i) 50 1 q) (sN s) 0 ([], -1)
def MkR (n : Nat) (p : JF × JF) (rr : List AF) : Prop := ∀ k, k < n → ∀ v, v < 64 → (bJ (p.1 k) v = true ↔ ∃ f, f ∈ rr ∧ f k = nI v) ∧ (bJ (p.2 k) v = true ↔ ∃ f, f ∈ rr ∧ f k = nI (64 + v))
def RgR (n b : Nat) (p : WgV) (q : RgV) : Prop := q.1.length ≤ b ∧ p.1.1 = nI q.1.length ∧ p.1.2 = q.2 ∧ (q.1.length = 0 ↔ q.2 = -1) ∧ MkR n p.2 q.1
theorem foldN_a {σ : Type} {f : Nat → σ → σ} : ∀ (a b i : Nat) (p : σ), foldN f (a + b) i p = foldN f b (i + a) (foldN f a i p) := by
  intro a
  induction a with
  | zero => intro b i p; rw [Nat.zero_add, foldN, Nat.add_zero]
  | succ a ih => intro b i p; rw [show a + 1 + b = (a + b) + 1 by omega, foldN, foldN, ih, show i + 1 + a = i + (a + 1) by omega]
theorem foldN_id {σ : Type} {f : Nat → σ → σ} : ∀ (j i : Nat) (p : σ), (∀ k, i ≤ k → k < i + j → ∀ q, f k q = q) → foldN f j i p = p := by
  intro j
  induction j with
  | zero => intro i p _; rfl
  | succ j ih => intro i p h; rw [foldN, h i (by omega) (by omega), ih (i + 1) p (fun k h1 h2 => h k (by omega) (by omega))]
theorem mk_at {f : AF} {k : Nat} : ∀ (j i : Nat) (p : JF × JF), (foldN (mkG f) j i p).1 k = (if i ≤ k ∧ k < i + j then (if 64 ≤ f k then p.1 k else p.1 k ||| bitJ (f k)) else p.1 k) ∧ (foldN (mkG f) j i p).2 k = (if i ≤ k ∧ k < i + j then (if 64 ≤ f k then p.2 k ||| bitJ (f k - 64) else p.2 k) else p.2 k) := by
  intro j
  induction j with
  | zero => intro i p; rw [foldN, if_neg (by omega), if_neg (by omega)]; exact ⟨rfl, rfl⟩
  | succ j ih =>
    intro i p
    rw [foldN]
    obtain ⟨e1, e2⟩ := ih (i + 1) (mkG f i p)
    rw [e1, e2]
    by_cases y : k = i
    · subst y
      have c0 : ¬ (k + 1 ≤ k ∧ k < k + 1 + j) := by omega
      have c1 : k ≤ k ∧ k < k + (j + 1) := by omega
      simp only [if_neg c0, if_pos c1]
      unfold mkG
      by_cases z : 64 ≤ f k
      · simp only [if_pos z]; exact ⟨trivial, updLs⟩
      · simp only [if_neg z]; exact ⟨updLs, trivial⟩
    · have n1 : (mkG f i p).1 k = p.1 k := by
        unfold mkG; split
        · rfl
        · exact updLn y
      have n2 : (mkG f i p).2 k = p.2 k := by
        unfold mkG; split
        · exact updLn y
        · rfl
      rw [n1, n2]
      by_cases z : i + 1 ≤ k ∧ k < i + 1 + j
      · have c1 : i ≤ k ∧ k < i + (j + 1) := by omega
        simp only [if_pos z, if_pos c1]; exact ⟨trivial, trivial⟩
      · have c1 : ¬ (i ≤ k ∧ k < i + (j + 1)) := by omega
        simp only [if_neg z, if_neg c1]; exact ⟨trivial, trivial⟩
theorem nI_ij {a b : Nat} (ha : a < 2 ^ 31) (hb : b < 2 ^ 31) (e : nI a = nI b) : a = b := by
  have := congrArg Int32.toInt e
  rw [nI_toInt ha, nI_toInt hb] at this
  omega
theorem mk_fold {n : Nat} {p : JF × JF} {rr : List AF} {f : AF} (q : MkR n p rr) (hf : ∀ k, k < n → ∃ v, v ≤ 99 ∧ f k = nI v) : MkR n (foldN (mkG f) n 0 p) (f :: rr) := by
  intro k hk v hv
  obtain ⟨a, a1, a2⟩ := hf k hk
  obtain ⟨q1, q2⟩ := q k hk v hv
  obtain ⟨e1, e2⟩ := mk_at (f := f) (k := k) n 0 p
  rw [if_pos (by omega)] at e1 e2
  rw [e1, e2]
  have mem : ∀ w : Int32, (∃ g, g ∈ f :: rr ∧ g k = w) ↔ (nI a = w ∨ ∃ g, g ∈ rr ∧ g k = w) := by
    intro w
    constructor
    · rintro ⟨g, g1, g2⟩
      rcases List.mem_cons.mp g1 with e | e
      · subst e; exact Or.inl (by rw [← a2]; exact g2)
      · exact Or.inr ⟨g, e, g2⟩
    · rintro (e | ⟨g, g1, g2⟩)
      · exact ⟨f, List.mem_cons_self, by rw [a2]; exact e⟩
      · exact ⟨g, List.mem_cons_of_mem _ g1, g2⟩
  rw [mem, mem, a2]
  by_cases y : 64 ≤ a
  · have y' : (64 : Int32) ≤ nI a := nI_le (a := 64) y (by omega)
    rw [if_pos y', if_pos y', show nI a - 64 = nI (a - 64) from pk_sub (b := 64) y, bJ_or, bJ_bit (a - 64) (by omega) v hv]
    refine ⟨⟨fun e => Or.inr (q1.mp e), fun e => ?_⟩, ⟨fun e => ?_, fun e => ?_⟩⟩
    · rcases e with e | e
      · have := nI_ij (by omega) (by omega) e; omega
      · exact q1.mpr e
    · rw [Bool.or_eq_true, decide_eq_true_eq] at e
      rcases e with e | e
      · exact Or.inr (q2.mp e)
      · exact Or.inl (by congr 1; omega)
    · rw [Bool.or_eq_true, decide_eq_true_eq]
      rcases e with e | e
      · have := nI_ij (by omega) (by omega) e; exact Or.inr (by omega)
      · exact Or.inl (q2.mpr e)
  · have y' : ¬ (64 : Int32) ≤ nI a := nI_ge (b := 64) (by omega) (by omega)
    rw [if_neg y', if_neg y', bJ_or, bJ_bit a (by omega) v hv]
    refine ⟨⟨fun e => ?_, fun e => ?_⟩, ⟨fun e => Or.inr (q2.mp e), fun e => ?_⟩⟩
    · rw [Bool.or_eq_true, decide_eq_true_eq] at e
      rcases e with e | e
      · exact Or.inr (q1.mp e)
      · exact Or.inl (by rw [e])
    · rw [Bool.or_eq_true, decide_eq_true_eq]
      rcases e with e | e
      · have := nI_ij (by omega) (by omega) e; exact Or.inr (by omega)
      · exact Or.inl (q1.mpr e)
    · rcases e with e | e
      · have := nI_ij (by omega) (by omega) e; omega
      · exact q2.mpr e
theorem mk_again {n : Nat} {p : JF × JF} {rr : List AF} {f : AF} (q : MkR n p rr) (hf : f ∈ rr) : MkR n p (f :: rr) := by
  have mem : ∀ (k : Nat) (w : Int32), (∃ g, g ∈ f :: rr ∧ g k = w) ↔ (∃ g, g ∈ rr ∧ g k = w) := by
    intro k w
    constructor
    · rintro ⟨g, g1, g2⟩
      rcases List.mem_cons.mp g1 with e | e
      · subst e; exact ⟨g, hf, g2⟩
      · exact ⟨g, e, g2⟩
    · rintro ⟨g, g1, g2⟩
      exact ⟨g, List.mem_cons_of_mem _ g1, g2⟩
  intro k hk v hv
  rw [mem, mem]
  exact q k hk v hv
section RGR
variable {s : CoreV} {l b i m n : Nat} {p : WgV} {q : RgV}
theorem rg_first (hb : b < 2 ^ 30) (hi : i ≤ 100) (hm : 1 ≤ m) (hm2 : m ≤ 50) (h : RgR n b p q) (hf : ∀ k, k < n → ∃ v, v ≤ 99 ∧ rowS s l i m k = nI v) : RgR n (b + 1) ((p.1.1 + 1, if p.1.1 = 0 then 100 * nI i + nI m else p.1.2), foldN (mkG (rowS s l i m)) n 0 p.2) (adG s l i m q) := by
  obtain ⟨h1, h2, h3, h4, h5⟩ := h
  have e100 : (100 : Int32) * nI i + nI m = nI (100 * i + m) := by rw [show (100 : Int32) * nI i = nI (100 * i) from pk_mul 100 i, nI_add]
  refine ⟨?_, ?_, ?_, ?_, mk_fold h5 hf⟩
  · show (rowS s l i m :: q.1).length ≤ b + 1; rw [List.length_cons]; omega
  · show p.1.1 + 1 = nI (rowS s l i m :: q.1).length; rw [List.length_cons, h2, nI_s]
  · show (if p.1.1 = 0 then 100 * nI i + nI m else p.1.2) = if q.2 = -1 then nI (100 * i + m) else q.2
    by_cases y : q.2 = -1
    · rw [if_pos y, if_pos (by rw [h2, h4.mpr y]; rfl), e100]
    · rw [if_neg y, if_neg, h3]
      intro e
      rw [h2] at e
      have := nI_ij (b := 0) (by omega) (by omega) e
      exact y (h4.mp this)
  · show (rowS s l i m :: q.1).length = 0 ↔ (if q.2 = -1 then nI (100 * i + m) else q.2) = -1
    rw [List.length_cons]
    refine ⟨fun e => by omega, fun e => ?_⟩
    by_cases y : q.2 = -1
    · rw [if_pos y] at e
      exact absurd e (nI_m1 (by omega))
    · rw [if_neg y] at e; exact absurd e y
theorem rg_again (h : RgR n b p q) (hq : rowS s l i m ∈ q.1) : RgR n (b + 1) ((p.1.1 + 1, p.1.2), p.2) (adG s l i m q) := by
  obtain ⟨h1, h2, h3, h4, h5⟩ := h
  have hne : ¬ q.2 = -1 := fun e => by
    have := h4.mpr e
    have := List.length_eq_zero_iff.mp this
    rw [this] at hq
    exact absurd hq (List.not_mem_nil)
  refine ⟨?_, ?_, ?_, ?_, mk_again h5 hq⟩
  · show (rowS s l i m :: q.1).length ≤ b + 1; rw [List.length_cons]; omega
  · show p.1.1 + 1 = nI (rowS s l i m :: q.1).length; rw [List.length_cons, h2, nI_s]
  · show p.1.2 = if q.2 = -1 then nI (100 * i + m) else q.2
    rw [if_neg hne, h3]
  · show (rowS s l i m :: q.1).length = 0 ↔ (if q.2 = -1 then nI (100 * i + m) else q.2) = -1
    rw [List.length_cons, if_neg hne]
    exact ⟨fun e => by omega, fun e => absurd e hne⟩
end RGR
