/-! THE REFERENCE: READINGS, the pure part -/
def fdO (op : Nat → Nat → Nat) (f : Nat → Nat) : Nat → Nat → Nat
  | 0, a => a
  | l + 1, a => op (fdO op f l a) (f l)
theorem fdO_congr {op : Nat → Nat → Nat} {f g : Nat → Nat} : ∀ (L a : Nat), (∀ l, l < L → g l = f l) → fdO op g L a = fdO op f L a := by
  intro L
  induction L with
  | zero => intro a _; rfl
  | succ L ih => intro a h; rw [fdO, fdO, ih a (fun l hl => h l (by omega)), h L (by omega)]
theorem fdO_one {op : Nat → Nat → Nat} {f g : Nat → Nat} {l0 e : Nat} (rc : ∀ a b c, op (op a b) c = op (op a c) b) (h0 : ∀ a, op a (g l0) = op (op a (f l0)) e) : ∀ (L a : Nat), (∀ l, l < L → l ≠ l0 → g l = f l) → l0 < L → fdO op g L a = op (fdO op f L a) e := by
  intro L
  induction L with
  | zero => intro a _ h; omega
  | succ L ih =>
    intro a h hl
    rw [fdO, fdO]
    by_cases y : L = l0
    · subst y
      rw [fdO_congr L a (fun l hl => h l (by omega) (by omega)), h0]
    · rw [ih a (fun l hl => h l (by omega)) (by omega), h L (by omega) y, rc]
theorem fdO_sum {f : Nat → Nat} {M : Nat} : ∀ (L : Nat), (∀ l, l < L → f l ≤ M) → fdO (· + ·) f L 0 ≤ L * M := by
  intro L
  induction L with
  | zero => intro _; exact Nat.zero_le _
  | succ L ih =>
    intro h
    have h1 := ih (fun l hl => h l (by omega))
    have h2 := h L (by omega)
    rw [fdO, Nat.add_mul]
    omega
theorem fdO_min {f : Nat → Nat} : ∀ (L a : Nat), fdO min f L a ≤ a := by
  intro L
  induction L with
  | zero => intro a; exact Nat.le_refl _
  | succ L ih => intro a; rw [fdO]; have := ih a; omega
/-- the worth of l digits from a place on -/
def vlF (fg : AF) (pl : Nat) : Nat → Int32
  | 0 => 0
  | l + 1 => 10 * vlF fg pl l + fg (pl + l)
def FE (q : Nat) : Int32 := if 99999 ≤ q then -1 else nI q
def saF (K : KnV) (m : Nat) (fg : AF) (pl : Nat) (a : Nat → Nat) (l : Nat) : Nat := if hasB K m (vlF fg pl (l + 1)) (nI (l + 1)) then a (pl + (l + 1)) else 0
def maF (K : KnV) (m : Nat) (fg : AF) (pl : Nat) (q : Nat → Nat) (l : Nat) : Nat := if hasB K m (vlF fg pl (l + 1)) (nI (l + 1)) then min 99999 (1 + q (pl + (l + 1))) else 99999
section KNP
variable {K : KnV} {m n pl : Nat} {fg : AF} {a q : Nat → Nat} {p : AF × AF}
/-- what is known of the places behind -/
def PlI (n pl : Nat) (a q : Nat → Nat) : Prop := ∀ e, pl ≤ e → e ≤ n → a e ≤ 4 ^ (n - e) ∧ (a e = 0 → q e = 99999) ∧ (0 < a e → q e ≤ n - e)
def PlC (n pl : Nat) (a q : Nat → Nat) (p : AF × AF) : Prop := ∀ e, pl ≤ e → e ≤ n → p.1 e = nI (a e) ∧ p.2 e = FE (q e)
theorem p49 {n e : Nat} (hn : n ≤ 9) : 4 ^ (n - e) ≤ 262144 := by
  have : 4 ^ (n - e) ≤ 4 ^ 9 := Nat.pow_le_pow_right (by omega) (by omega)
  omega
theorem unL_le (n pl : Nat) : unL n pl ≤ 4 ∧ (pl ≤ n → pl + unL n pl ≤ n) := by unfold unL; split <;> omega
theorem FE_m1 {k : Nat} : FE k = -1 ↔ 99999 ≤ k ∨ nI k = -1 := by
  unfold FE
  split
  · exact ⟨fun _ => Or.inl (by omega), fun _ => rfl⟩
  · exact ⟨fun e => Or.inr e, fun e => e.elim (fun z => by omega) id⟩
theorem nI_m1 {k : Nat} (hk : k < 2 ^ 31) : ¬ nI k = -1 := by
  intro e
  have := congrArg Int32.toInt e
  rw [nI_toInt hk, show (-1 : Int32).toInt = -1 from rfl] at this
  omega
theorem fw_min {u t : Nat} (hu : u ≤ 99999) (ht : t ≤ 100) : fwE (FE u) (nI t) = FE (min u t) := by
  unfold fwE FE
  by_cases y : 99999 ≤ u
  · rw [if_pos y, if_pos rfl, if_neg (by omega)]
    congr 1; omega
  · rw [if_neg y, if_neg (nI_m1 (by omega)), if_neg (show ¬ 99999 ≤ min u t by omega)]
    by_cases z : t < u
    · rw [if_pos ((nI_ltI (by omega) (by omega)).mpr z)]; congr 1; omega
    · rw [if_neg (fun e => z ((nI_ltI (by omega) (by omega)).mp e))]; congr 1; omega
theorem uf_go (hn : n ≤ 9) (hpl : pl < n) (hP : PlI n (pl + 1) a q) (hC : PlC n (pl + 1) a q p) : ∀ (j l : Nat) (w f : AF), l + j = unL n pl → w pl = nI (fdO (· + ·) (saF K m fg pl a) l 0) → f pl = FE (fdO min (maF K m fg pl q) l 99999) → (∀ e, pl < e → w e = p.1 e ∧ f e = p.2 e) → (foldN (ufG K m fg pl) j (pl + 1 + l) (vlF fg pl l, w, f)).2.1 pl = nI (fdO (· + ·) (saF K m fg pl a) (unL n pl) 0) ∧ (foldN (ufG K m fg pl) j (pl + 1 + l) (vlF fg pl l, w, f)).2.2 pl = FE (fdO min (maF K m fg pl q) (unL n pl) 99999) ∧ ∀ e, pl < e → (foldN (ufG K m fg pl) j (pl + 1 + l) (vlF fg pl l, w, f)).2.1 e = p.1 e ∧ (foldN (ufG K m fg pl) j (pl + 1 + l) (vlF fg pl l, w, f)).2.2 e = p.2 e := by
  have hL := unL_le n pl
  intro j
  induction j with
  | zero =>
    intro l w f hl hw hf he
    rw [show l = unL n pl by omega] at hw hf
    exact ⟨hw, hf, he⟩
  | succ j ih =>
    intro l w f hl hw hf he
    have ev : ufV fg (pl + 1 + l) (vlF fg pl l) = vlF fg pl (l + 1) := by rw [ufV, vlF, show pl + 1 + l - 1 = pl + l by omega]
    have ee : pl + 1 + l - pl = l + 1 := by omega
    obtain ⟨c1, c2⟩ := hC (pl + 1 + l) (by omega) (by omega)
    obtain ⟨d1, d2, d3⟩ := hP (pl + 1 + l) (by omega) (by omega)
    obtain ⟨e1, e2⟩ := he (pl + 1 + l) (by omega)
    have b49 := p49 (e := pl + 1 + l) hn
    rw [foldN]
    have key : ∃ w2 f2, ufG K m fg pl (pl + 1 + l) (vlF fg pl l, w, f) = (vlF fg pl (l + 1), w2, f2) ∧ w2 pl = nI (fdO (· + ·) (saF K m fg pl a) (l + 1) 0) ∧ f2 pl = FE (fdO min (maF K m fg pl q) (l + 1) 99999) ∧ ∀ e, pl < e → w2 e = p.1 e ∧ f2 e = p.2 e := by
      have hm9 : fdO min (maF K m fg pl q) l 99999 ≤ 99999 := fdO_min l 99999
      unfold ufG
      simp only [ev, ee, e1, c1]
      by_cases y : nI (a (pl + 1 + l)) ≤ 0
      · have y0 : a (pl + 1 + l) = 0 := by
          have := le_nI (y := 0) (by omega) (by omega) y
          omega
        simp only [if_pos y]
        refine ⟨w, f, rfl, ?_, ?_, he⟩
        · rw [fdO, hw, saF, show pl + (l + 1) = pl + 1 + l by omega, y0]
          split <;> rfl
        · rw [fdO, hf, maF, show pl + (l + 1) = pl + 1 + l by omega, d2 y0]
          congr 1
          split <;> omega
      · have y0 : 0 < a (pl + 1 + l) := by
          rcases Nat.eq_zero_or_pos (a (pl + 1 + l)) with z | z
          · rw [z] at y; exact absurd (by decide) y
          · exact z
        have hq := d3 y0
        simp only [if_neg y]
        cases hb : hasB K m (vlF fg pl (l + 1)) (nI (l + 1)) with
        | false =>
          refine ⟨w, f, rfl, ?_, ?_, he⟩
          · rw [fdO, hw, saF, hb]; rfl
          · rw [fdO, hf, maF, hb]
            congr 1
            rw [if_neg (by decide)]; omega
        | true =>
          refine ⟨_, _, rfl, ?_, ?_, ?_⟩
          · rw [pk_us, hw, nI_add, fdO, saF, hb, if_pos rfl, show pl + (l + 1) = pl + 1 + l by omega]
          · rw [pk_us, hf, e2, c2, show FE (q (pl + 1 + l)) = nI (q (pl + 1 + l)) from by rw [FE, if_neg (by omega)], nI_s, fw_min hm9 (by omega), fdO, maF, hb, if_pos rfl, show pl + (l + 1) = pl + 1 + l by omega]
            congr 1; omega
          · intro e hp
            rw [pk_un (by omega), pk_un (by omega)]
            exact he e hp
    obtain ⟨w2, f2, k1, k2, k3, k4⟩ := key
    rw [k1, show pl + 1 + l + 1 = pl + 1 + (l + 1) by omega]
    exact ih (l + 1) w2 f2 (by omega) k2 k3 k4
theorem un_go (hn : n ≤ 9) (hpl : pl < n) (hP : PlI n (pl + 1) a q) (hC : PlC n (pl + 1) a q p) : (unF K m fg n pl p).1 pl = nI (fdO (· + ·) (saF K m fg pl a) (unL n pl) 0) ∧ (unF K m fg n pl p).2 pl = FE (fdO min (maF K m fg pl q) (unL n pl) 99999) ∧ ∀ e, pl < e → (unF K m fg n pl p).1 e = p.1 e ∧ (unF K m fg n pl p).2 e = p.2 e := by
  have h := uf_go (K := K) (m := m) (fg := fg) hn hpl hP hC (unL n pl) 0 (upd p.1 pl 0) (upd p.2 pl (-1)) (by omega) (by rw [pk_us, fdO]; rfl) (by rw [pk_us, fdO, FE, if_pos (Nat.le_refl _)]) (fun e he => by rw [pk_un (by omega), pk_un (by omega)]; exact ⟨rfl, rfl⟩)
  rw [Nat.add_zero, show vlF fg pl 0 = 0 from rfl] at h
  unfold unF
  exact h
/-- one knot more -/
theorem hasB_s {k : Nat} {v l : Int32} : hasB K (k + 1) v l = (hasB K k v l || (K.2.1 k == v && K.2.2.1 k == l)) := by
  unfold hasB
  rw [List.range_succ, List.any_append]
  simp
/-- this knot lies at a place -/
def hereB (K : KnV) (n : Nat) (fg : AF) (pl k l : Nat) : Bool := decide (pl + l ≤ n) && (vlF fg pl l == K.2.1 k)
theorem one_k {k l : Nat} (hl1 : 1 ≤ l) (hl4 : l ≤ 4) (el : K.2.2.1 k = nI l) (hpl : pl ≤ n) (hd : ∀ i, i < k → ¬ (K.2.1 i = K.2.1 k ∧ K.2.2.1 i = K.2.2.1 k)) : fdO (· + ·) (saF K (k + 1) fg pl a) (unL n pl) 0 = fdO (· + ·) (saF K k fg pl a) (unL n pl) 0 + (if hereB K n fg pl k l then a (pl + l) else 0) ∧ fdO min (maF K (k + 1) fg pl q) (unL n pl) 99999 = min (fdO min (maF K k fg pl q) (unL n pl) 99999) (if hereB K n fg pl k l then 1 + q (pl + l) else 99999) := by
  have hL : ∀ i, i < unL n pl ↔ (i < 4 ∧ pl + i < n) := by intro i; unfold unL; split <;> omega
  have inj : ∀ i, i < 4 → nI l = nI (i + 1) → i + 1 = l := by
    intro i hi e
    have := congrArg Int32.toInt e
    rw [nI_toInt (by omega), nI_toInt (by omega)] at this
    omega
  cases hb : hereB K n fg pl k l with
  | false =>
    have hno : ∀ i, i < unL n pl → hasB K (k + 1) (vlF fg pl (i + 1)) (nI (i + 1)) = hasB K k (vlF fg pl (i + 1)) (nI (i + 1)) := by
      intro i hi
      rw [hasB_s]
      have : (K.2.1 k == vlF fg pl (i + 1) && K.2.2.1 k == nI (i + 1)) = false := by
        cases hz : (K.2.1 k == vlF fg pl (i + 1) && K.2.2.1 k == nI (i + 1)) with
        | false => rfl
        | true =>
          rw [Bool.and_eq_true, beq_iff_eq, beq_iff_eq, el] at hz
          have e := inj i ((hL i).mp hi).1 hz.2
          subst e
          have : hereB K n fg pl k (i + 1) = true := by
            unfold hereB
            rw [decide_eq_true (by have := ((hL i).mp hi).2; omega), hz.1]
            simp
          rw [hb] at this
          exact absurd this (by decide)
      rw [this, Bool.or_false]
    refine ⟨?_, ?_⟩
    · rw [if_neg (by decide), Nat.add_zero]
      exact fdO_congr _ _ (fun i hi => by rw [saF, saF, hno i hi])
    · rw [if_neg (by decide), fdO_congr (f := maF K k fg pl q) _ _ (fun i hi => by rw [maF, maF, hno i hi])]
      have := fdO_min (f := maF K k fg pl q) (unL n pl) 99999
      omega
  | true =>
    unfold hereB at hb
    rw [Bool.and_eq_true, decide_eq_true_eq, beq_iff_eq] at hb
    obtain ⟨b1, b2⟩ := hb
    have hl0 : l - 1 < unL n pl := (hL (l - 1)).mpr ⟨by omega, by omega⟩
    have e1 : l - 1 + 1 = l := by omega
    have hf : hasB K k (vlF fg pl l) (nI l) = false := hasB_no (fun i hi z => hd i hi ⟨by rw [z.1, b2], by rw [z.2, el]⟩)
    have ht : hasB K (k + 1) (vlF fg pl l) (nI l) = true := by rw [hasB_s, hf, b2, el]; simp
    have hno : ∀ i, i < unL n pl → i ≠ l - 1 → hasB K (k + 1) (vlF fg pl (i + 1)) (nI (i + 1)) = hasB K k (vlF fg pl (i + 1)) (nI (i + 1)) := by
      intro i hi hne
      rw [hasB_s]
      have : (K.2.2.1 k == nI (i + 1)) = false := by
        rw [beq_eq_false_iff_ne, el]
        intro z
        have := inj i ((hL i).mp hi).1 z
        omega
      rw [this, Bool.and_false, Bool.or_false]
    refine ⟨?_, ?_⟩
    · rw [if_pos rfl]
      refine fdO_one (l0 := l - 1) (fun x y z => by omega) (fun x => ?_) _ _ (fun i hi hne => by rw [saF, saF, hno i hi hne]) hl0
      rw [saF, saF, e1, hf, ht, if_pos rfl, if_neg (by decide)]
      omega
    · rw [if_pos rfl]
      refine fdO_one (l0 := l - 1) (fun x y z => by omega) (fun x => ?_) _ _ (fun i hi hne => by rw [maF, maF, hno i hi hne]) hl0
      rw [maF, maF, e1, hf, ht, if_pos rfl, if_neg (by decide)]
      omega
end KNP
