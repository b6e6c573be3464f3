/-! THE REFERENCE: words by their letters, packed -/
def dgC (c : Int32) : Nat := c.toNatClampNeg - 96
theorem dg_all : ∀ m, m < 26 → xN (Int32.toInt64 (nI (97 + m) - 96)) = m + 1 ∧ dgC (nI (97 + m)) = m + 1 := by decide +kernel
/-- a letter -/
def LtC (c : Int32) : Prop := ∃ m, m < 26 ∧ c = nI (97 + m)
theorem lt_of {c : Int32} (h1 : ¬ c < 97) (h2 : ¬ 122 < c) : LtC c := by
  have a1 := Int32.le_iff_toInt_le.mp (Int32.not_lt.mp h1)
  have a2 := Int32.le_iff_toInt_le.mp (Int32.not_lt.mp h2)
  have e1 : (97 : Int32).toInt = 97 := rfl
  have e2 : (122 : Int32).toInt = 122 := rfl
  refine ⟨(c.toInt - 97).toNat, by omega, ?_⟩
  apply Int32.toInt_inj.mp
  rw [nI_toInt (by omega)]
  omega
theorem kd_let {f : AF} {len k : Nat} (h : kdE f len k = 1) : LtC (f k) := by
  unfold kdE at h
  by_cases y : k < len
  · rw [if_pos y] at h
    unfold kdB at h
    by_cases z : ¬ f k < 97 ∧ ¬ 122 < f k
    · exact lt_of z.1 z.2
    · rw [if_neg z] at h
      split at h
      · exact absurd h (by decide)
      · split at h
        · exact absurd h (by decide)
        · split at h <;> exact absurd h (by decide)
  · rw [if_neg y] at h; exact absurd h (by decide)
theorem dgC_r {c : Int32} (h : LtC c) : 1 ≤ dgC c ∧ dgC c ≤ 26 ∧ xN (Int32.toInt64 (c - 96)) = dgC c := by
  obtain ⟨m, m1, rfl⟩ := h
  obtain ⟨a, b⟩ := dg_all m m1
  rw [a, b]
  omega
theorem dgC_inj {c c' : Int32} (h : LtC c) (h' : LtC c') (e : dgC c = dgC c') : c = c' := by
  obtain ⟨m, m1, rfl⟩ := h
  obtain ⟨m', m1', rfl⟩ := h'
  rw [(dg_all m m1).2, (dg_all m' m1').2] at e
  rw [show m = m' by omega]
theorem xN_inj {x y : Int64} (h : xN x = xN y) : x = y := by
  unfold xN at h
  exact Int64.toBitVec_inj.mp (BitVec.eq_of_toNat_eq h)
theorem wd_step {w : Int64} {c : Int32} (h : LtC c) (hw : xN w < 2 ^ 40) : xN ((w <<< (Int32.toInt64 (5 : Int32) &&& 63)) ||| Int32.toInt64 (c - 96)) = 32 * xN w + dgC c := by
  obtain ⟨d1, d2, d3⟩ := dgC_r h
  have e5 : ((Int32.toInt64 (5 : Int32) &&& 63).toBitVec.smod 64) = 5#64 := by decide
  unfold xN at hw d3 ⊢
  rw [Int64.toBitVec_or, Int64.toBitVec_shiftLeft, BitVec.toNat_or, d3, e5, BitVec.shiftLeft_eq', BitVec.toNat_shiftLeft, show (5#64 : BitVec 64).toNat = 5 from rfl, Nat.mod_eq_of_lt (by rw [Nat.shiftLeft_eq]; omega), ← Nat.shiftLeft_add_eq_or_of_lt (by omega), Nat.shiftLeft_eq]
  omega
def pkR : List Nat → Nat
  | [] => 0
  | d :: r => 32 * pkR r + d
theorem pkR_inj : ∀ (a b : List Nat), (∀ d ∈ a, 1 ≤ d ∧ d ≤ 26) → (∀ d ∈ b, 1 ≤ d ∧ d ≤ 26) → pkR a = pkR b → a = b := by
  intro a
  induction a with
  | nil =>
    intro b _ hb h
    cases b with
    | nil => rfl
    | cons d r => have := hb d List.mem_cons_self; simp only [pkR] at h; omega
  | cons d r ih =>
    intro b ha hb h
    have h1 := ha d List.mem_cons_self
    cases b with
    | nil => simp only [pkR] at h; omega
    | cons d' r' =>
      have h2 := hb d' List.mem_cons_self
      simp only [pkR] at h
      have e1 : d = d' := by omega
      have e2 : pkR r = pkR r' := by omega
      rw [e1, ih r' (fun z hz => ha z (List.mem_cons_of_mem _ hz)) (fun z hz => hb z (List.mem_cons_of_mem _ hz)) e2]
theorem pkR_lt : ∀ (a : List Nat), (∀ d ∈ a, 1 ≤ d ∧ d ≤ 26) → pkR a < 2 ^ (5 * a.length) := by
  intro a
  induction a with
  | nil => intro _; decide
  | cons d r ih =>
    intro ha
    have h1 := ha d List.mem_cons_self
    have h2 := ih (fun z hz => ha z (List.mem_cons_of_mem _ hz))
    rw [List.length_cons, show 5 * (r.length + 1) = 5 * r.length + 5 by omega, Nat.pow_add]
    simp only [pkR]
    omega
/-- the letters' numbers, the last first -/
def lgL (f : AF) : Nat → Nat → List Nat → List Nat
  | 0, _, r => r
  | j + 1, k, r => lgL f j (k + 1) (dgC (f k) :: r)
theorem lgL_ok {f : AF} : ∀ (j k : Nat) (r : List Nat), (∀ i, k ≤ i → i < k + j → LtC (f i)) → (∀ d ∈ r, 1 ≤ d ∧ d ≤ 26) → (∀ d ∈ lgL f j k r, 1 ≤ d ∧ d ≤ 26) ∧ (lgL f j k r).length = r.length + j := by
  intro j
  induction j with
  | zero => intro k r _ hr; exact ⟨hr, rfl⟩
  | succ j ih =>
    intro k r hk hr
    obtain ⟨d1, d2, _⟩ := dgC_r (hk k (Nat.le_refl _) (by omega))
    have := ih (k + 1) (dgC (f k) :: r) (fun i i1 i2 => hk i (by omega) (by omega)) (fun d hd => by
      rcases List.mem_cons.mp hd with rfl | hd
      · exact ⟨d1, d2⟩
      · exact hr d hd)
    unfold lgL
    refine ⟨this.1, ?_⟩
    rw [this.2, List.length_cons]
    omega
theorem wdF_pk {f : AF} : ∀ (j k : Nat) (r : List Nat) (w : Int64), (∀ i, k ≤ i → i < k + j → LtC (f i)) → (∀ d ∈ r, 1 ≤ d ∧ d ≤ 26) → r.length + j ≤ 7 → xN w = pkR r → xN (wdF f j k w) = pkR (lgL f j k r) := by
  intro j
  induction j with
  | zero => intro k r w _ _ _ h; exact h
  | succ j ih =>
    intro k r w hk hr hl h
    have hc := hk k (Nat.le_refl _) (by omega)
    obtain ⟨d1, d2, _⟩ := dgC_r hc
    have hb := pkR_lt r hr
    have hb2 : (2 : Nat) ^ (5 * r.length) ≤ 2 ^ 30 := Nat.pow_le_pow_right (by decide) (by omega)
    unfold wdF lgL
    refine ih (k + 1) _ _ (fun i i1 i2 => hk i (by omega) (by omega)) (fun d hd => ?_) (by rw [List.length_cons]; omega) ?_
    · rcases List.mem_cons.mp hd with rfl | hd
      · exact ⟨d1, d2⟩
      · exact hr d hd
    · rw [wd_step hc (by omega), h, pkR]
/-- the same bytes -/
theorem lgL_eq {f g : AF} : ∀ (j a b : Nat) (r r' : List Nat), (∀ i, i < j → LtC (f (a + i))) → (∀ i, i < j → LtC (g (b + i))) → r.length = r'.length → lgL f j a r = lgL g j b r' → r = r' ∧ ∀ i, i < j → f (a + i) = g (b + i) := by
  intro j
  induction j with
  | zero => intro a b r r' _ _ _ h; exact ⟨h, fun i hi => absurd hi (by omega)⟩
  | succ j ih =>
    intro a b r r' hf hg hl h
    unfold lgL at h
    obtain ⟨e1, e2⟩ := ih (a + 1) (b + 1) _ _ (fun i hi => by have := hf (i + 1) (by omega); rw [show a + 1 + i = a + (i + 1) by omega]; exact this) (fun i hi => by have := hg (i + 1) (by omega); rw [show b + 1 + i = b + (i + 1) by omega]; exact this) (by simp only [List.length_cons, hl]) h
    injection e1 with e3 e4
    refine ⟨e4, fun i hi => ?_⟩
    cases i with
    | zero => exact dgC_inj (hf 0 (by omega)) (hg 0 (by omega)) e3
    | succ i => have := e2 i (by omega); rw [show a + (i + 1) = a + 1 + i by omega, show b + (i + 1) = b + 1 + i by omega]; exact this
theorem lgL_congr {f g : AF} : ∀ (j a b : Nat) (r : List Nat), (∀ i, i < j → f (a + i) = g (b + i)) → lgL f j a r = lgL g j b r := by
  intro j
  induction j with
  | zero => intro a b r _; rfl
  | succ j ih =>
    intro a b r h
    unfold lgL
    have h0 : f a = g b := h 0 (by omega)
    rw [h0]
    exact ih (a + 1) (b + 1) _ (fun i hi => by have := h (i + 1) (by omega); rw [show a + 1 + i = a + (i + 1) by omega, show b + 1 + i = b + (i + 1) by omega]; exact this)
/-- the reference's words by the class's numbers -/
def rkW (k : Nat) : Nat := [9, 10, 11, 12, 13, 14, 0, 1, 2, 3, 4, 5, 7, 6, 8].getD k 15
theorem wby_let : ∀ k, k < 15 → ∀ j, j < wln k → 97 ≤ (wsp k).getD j 0 ∧ (wsp k).getD j 0 < 123 := by decide
theorem wby_lt {k j : Nat} (hk : k < 15) (hj : j < wln k) : LtC (wby k j) := by
  have := wby_let k hk j hj
  refine ⟨(wsp k).getD j 0 - 97, by omega, ?_⟩
  unfold wby
  rw [show 97 + ((wsp k).getD j 0 - 97) = (wsp k).getD j 0 by omega]
theorem wln_1 : ∀ k, k < 15 → 1 ≤ wln k ∧ wln k ≤ 7 := by decide
theorem spW_iff {f : AF} {k st : Nat} : ∀ (i j : Nat), spW f k st i j = true ↔ ∀ a, a < i → f (st + (j + a)) = wby k (j + a) := by
  intro i
  induction i with
  | zero => intro j; exact ⟨fun _ a ha => absurd ha (by omega), fun _ => rfl⟩
  | succ i ih =>
    intro j
    unfold spW
    constructor
    · intro h a ha
      split at h
      · rename_i e
        cases a with
        | zero => exact e
        | succ a => have := (ih (j + 1)).mp h a (by omega); rw [show j + (a + 1) = j + 1 + a by omega]; exact this
      · cases h
    · intro h
      rw [if_pos (show f (st + j) = wby k j from h 0 (by omega))]
      exact (ih (j + 1)).mpr (fun a ha => by have := h (a + 1) (by omega); rw [show j + 1 + a = j + (a + 1) by omega]; exact this)
theorem spB_iff {f : AF} {k st nx : Nat} : spB f k st nx = true ↔ nx - st = wln k ∧ ∀ a, a < wln k → f (st + a) = wby k a := by
  unfold spB
  rw [Bool.and_eq_true, decide_eq_true_eq, spW_iff]
  simp only [Nat.zero_add]
/-- one word alone stands there -/
theorem wsp_inj : ∀ k, k < 16 → ∀ j, j < 16 → wln k = wln j → (∀ a, a < wln k → wby k a = wby j a) → k = j := by decide +kernel
theorem spB_one {f : AF} {k j st nx : Nat} (hk : k < 16) (hj : j < 16) (h1 : spB f k st nx = true) (h2 : spB f j st nx = true) : k = j := by
  obtain ⟨a1, a2⟩ := spB_iff.mp h1
  obtain ⟨b1, b2⟩ := spB_iff.mp h2
  exact wsp_inj k hk j hj (by omega) (fun a ha => by rw [← a2 a ha, ← b2 a (by omega)])
/-- the packed letters of a known word -/
def pkK (k : Nat) : Nat := pkR (lgL (wby k) (wln k) 0 [])
theorem spB_pk {f : AF} {k st nx : Nat} (hk : k < 15) (hl : ∀ i, st ≤ i → i < nx → LtC (f i)) (h7 : nx - st ≤ 7) : spB f k st nx = true ↔ xN (wdF f (nx - st) st 0) = pkK k := by
  have e0 : xN (0 : Int64) = pkR [] := rfl
  rw [wdF_pk (nx - st) st [] 0 (fun i i1 i2 => hl i i1 (by omega)) (fun d hd => absurd hd (List.not_mem_nil)) (by simpa using h7) e0]
  obtain ⟨ok1, ok2⟩ := lgL_ok (f := f) (nx - st) st [] (fun i i1 i2 => hl i i1 (by omega)) (fun d hd => absurd hd (List.not_mem_nil))
  obtain ⟨kk1, kk2⟩ := lgL_ok (f := wby k) (wln k) 0 [] (fun i i1 i2 => wby_lt hk (by omega)) (fun d hd => absurd hd (List.not_mem_nil))
  rw [spB_iff]
  constructor
  · rintro ⟨a1, a2⟩
    unfold pkK
    rw [a1, lgL_congr (g := wby k) (wln k) st 0 [] (fun i hi => by rw [a2 i hi, Nat.zero_add])]
  · intro h
    have e := pkR_inj _ _ ok1 kk1 h
    have el : nx - st = wln k := by
      have := congrArg List.length e
      rw [ok2, kk2] at this
      simpa using this
    refine ⟨el, fun a ha => ?_⟩
    rw [el] at e
    have := (lgL_eq (wln k) st 0 [] [] (fun i hi => hl (st + i) (by omega) (by omega)) (fun i hi => by rw [Nat.zero_add]; exact wby_lt hk hi) rfl e).2 a ha
    rw [Nat.zero_add] at this
    exact this
