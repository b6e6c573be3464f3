/-! THE REFERENCE'S MACHINE for rules, pure: place, what is put (the last first), what waits (the top first), depth, tested -/
abbrev MaS : Type := Nat × List Int32 × List Int32 × Nat × (Nat → Bool)
abbrev mSt (S : MaS) : Nat := S.1
abbrev mOut (S : MaS) : List Int32 := S.2.1
abbrev mWs (S : MaS) : List Int32 := S.2.2.1
abbrev mDp (S : MaS) : Nat := S.2.2.2.1
abbrev mTe (S : MaS) : Nat → Bool := S.2.2.2.2
def updB (f : Nat → Bool) (k : Nat) (v : Bool) : Nat → Bool := fun j => if j = k then v else f j
def en1 (v : Int32) : List Int32 := if v ≤ -7 then [opR v] else if v < 0 then [-1 - v, 2] else [v, 1]
/-- the reference's code of the class's codes, the last first -/
def enR : List Int32 → List Int32
  | [] => []
  | v :: c => enR c ++ en1 v
theorem enR_app : ∀ (c d : List Int32), enR (c ++ d) = enR d ++ enR c := by
  intro c
  induction c with
  | nil => intro d; rw [List.nil_append, enR, List.append_nil]
  | cons v c ih => intro d; rw [List.cons_append, enR, ih, enR, List.append_assoc]
theorem enR_nots : ∀ n, enR (List.replicate n (-7)) = List.replicate n 3 := by
  intro n
  induction n with
  | zero => rfl
  | succ n ih => rw [List.replicate_succ, enR, ih, List.replicate_succ', show en1 (-7) = [3] from by decide]
def sgV (a : Int32) : Nat := if a = 5 then 1 else if a = 4 then 2 else if a = 3 then 3 else if a = 6 ∨ a = 7 then 4 else if a = 8 ∨ a = 9 then 5 else 6
/-- what waits with at least this strength is put -/
def drS (lv : Nat) : List Int32 → List Int32 → List Int32 × List Int32
  | [], o => ([], o)
  | a :: w, o => if ¬ a < 14 ∨ sgV a < lv then (a :: w, o) else drS lv w (a :: o)
def lvR (rank : Nat) : Nat := [1, 2, 4, 5, 6, 7].getD rank 7
def svR (rank : Nat) : Nat := [1, 2, 3, 5, 6, 7].getD rank 7
/-- an open bracket taken -/
def opnS (f : AF) (len : Nat) (S : MaS) : MaS := (adv f len (mSt S), mOut S, 14 :: mWs S, mDp S + 1, updB (mTe S) (mDp S + 1) false)
/-- NOTs taken -/
def ntS (f : AF) (len : Nat) (S : MaS) : MaS := ((ntP f len 6 (mSt S)).2, mOut S, List.replicate (ntP f len 6 (mSt S)).1 3 ++ mWs S, mDp S, mTe S)
def prS (f : AF) (len : Nat) (S : MaS) : MaS ⊕ (Int32 × Nat) := match vlP f len (mSt S) with
  | .inr e => .inr e
  | .inl r => .inl (r.1, enR r.2 ++ mOut S, mWs S, mDp S, mTe S)
/-- an operand behind NOTs; m: how many brackets may still open -/
def opd (f : AF) (len : Nat) : Nat → MaS → MaS ⊕ (Int32 × Nat)
  | 0, S => if sgP f len (mSt S) 40 then .inr (dpP f len (adv f len (mSt S)), adv f len (mSt S)) else prS f len S
  | m + 1, S => if sgP f len (mSt S) 40 then (if (ntP f len 6 (mSt (opnS f len S))).1 = 6 ∧ wdP f len (ntP f len 6 (mSt (opnS f len S))).2 8 = true then .inr (2, (ntP f len 6 (mSt (opnS f len S))).2) else opd f len m (ntS f len (opnS f len S))) else prS f len S
/-- an operand -/
def opb (f : AF) (len : Nat) (b : Bool) (S : MaS) : MaS ⊕ (Int32 × Nat) := if b then (if (ntP f len 6 (mSt S)).1 = 6 ∧ wdP f len (ntP f len 6 (mSt S)).2 8 = true then .inr (2, (ntP f len 6 (mSt S)).2) else opd f len (6 - mDp S) (ntS f len S)) else opd f len (6 - mDp S) S
def OG (f : AF) (len : Nat) (G : MaS → Prop) (F : Int32 × Nat → Prop) (b : Bool) (S : MaS) : Prop := match opb f len b S with
  | .inl S' => G S'
  | .inr e => F e
/-- a joint of this rank taken -/
def jnS (f : AF) (len rank : Nat) (S : MaS) : MaS := (adv f len (mSt S), (drS (lvR rank) (mWs S) (mOut S)).2, opR (jtP f len rank (mSt S)) :: (drS (lvR rank) (mWs S) (mOut S)).1, mDp S, if rank ≤ 1 then updB (mTe S) (mDp S) false else if rank = 2 then updB (mTe S) (mDp S) true else mTe S)
/-- a closing bracket taken -/
def clS (f : AF) (len : Nat) (S : MaS) : MaS := (adv f len (mSt S), (drS 0 (mWs S) (mOut S)).2, (drS 0 (mWs S) (mOut S)).1.tail, mDp S - 1, mTe S)
/-- a bracket is open -/
def OpS (w : List Int32) : Prop := ∃ a ∈ w, ¬ a < 14
def StpS (f : AF) (len : Nat) (S : MaS) : Prop := (∀ r, r ≤ 4 → jtP f len r (mSt S) = 0 ∨ (r = 2 ∧ mTe S (mDp S) = true)) ∧ ¬ (sgP f len (mSt S) 41 = true ∧ OpS (mWs S))
/-- what the machine's loop gives -/
def MaC (f : AF) (len : Nat) (G : MaS → Prop) (F : Int32 × Nat → Prop) : Prop :=
  (∀ (S : MaS) (r : Nat), r ≤ 4 → ¬ jtP f len r (mSt S) = 0 → (r = 2 → mTe S (mDp S) = false) → OG f len G F (decide (r ≤ 1)) (jnS f len r S) → G S)
  ∧ (∀ S : MaS, sgP f len (mSt S) 41 = true → OpS (mWs S) → 2 ≤ mDp S → G (clS f len S) → G S)
  ∧ (∀ S : MaS, StpS f len S → 2 ≤ mDp S → F (1, mSt S) → G S)
/-- blocked at this level -/
def BlkS (lv : Nat) : List Int32 → Prop
  | [] => True
  | a :: _ => ¬ a < 14 ∨ sgV a < lv
theorem drS_all : ∀ (W w o : List Int32) (lv : Nat), (∀ a ∈ W, a < 14 ∧ lv ≤ sgV a) → BlkS lv w → drS lv (W ++ w) o = (w, W.reverse ++ o) := by
  intro W
  induction W with
  | nil =>
    intro w o lv _ hb
    cases w with
    | nil => rfl
    | cons a w =>
      have hb' : ¬ a < 14 ∨ sgV a < lv := hb
      show (if ¬ a < 14 ∨ sgV a < lv then _ else _) = _
      rw [if_pos hb']
      rfl
  | cons a W ih =>
    intro w o lv hW hb
    have h1 := hW a List.mem_cons_self
    rw [List.cons_append, drS, if_neg (by intro e; rcases e with e | e; exact e h1.1; omega), ih w _ lv (fun z hz => hW z (List.mem_cons_of_mem _ hz)) hb]
    simp
/-- what stands behind a part of this rank -/
def ReS (f : AF) (len rank : Nat) (S : MaS) (st : Nat) (c : List Int32) (S' : MaS) : Prop := mSt S' = st ∧ mDp S' = mDp S ∧ (∃ X W, mOut S' = X ++ mOut S ∧ mWs S' = W ++ mWs S ∧ (∀ a ∈ W, a < 14 ∧ svR rank ≤ sgV a) ∧ W.reverse ++ X = enR c) ∧ (∀ i, i < mDp S → mTe S' i = mTe S i) ∧ (3 ≤ rank → mTe S' (mDp S) = mTe S (mDp S)) ∧ ∀ r, rank ≤ r → r ≤ 4 → jtP f len r st = 0 ∨ (r = 2 ∧ mTe S' (mDp S) = true)
def SimP (f : AF) (len : Nat) (G : MaS → Prop) (F : Int32 × Nat → Prop) (rank : Nat) (S : MaS) (p : PR) : Prop := match p with
  | .inl r => (∀ S', ReS f len rank S r.1 r.2 S' → G S') → OG f len G F (decide (rank ≤ 2)) S
  | .inr e => F e → OG f len G F (decide (rank ≤ 2)) S
theorem jt_op {f : AF} {len r st : Nat} (hr : r ≤ 4) (h : ¬ jtP f len r st = 0) : opR (jtP f len r st) < 14 ∧ sgV (opR (jtP f len r st)) = lvR r ∧ enR [jtP f len r st] = [opR (jtP f len r st)] := by
  have hv : ∀ v : Int32, v = -8 ∨ v = -9 ∨ v = -10 ∨ v = -11 ∨ v = -12 ∨ v = -13 ∨ v = -14 ∨ v = -15 → opR v < 14 ∧ enR [v] = [opR v] := by
    rintro v (rfl | rfl | rfl | rfl | rfl | rfl | rfl | rfl) <;> decide
  match r, hr with
  | 0, _ =>
    have e : jtP f len 0 st = if wdP f len st 6 then -8 else 0 := rfl
    rw [e] at h ⊢
    by_cases y : wdP f len st 6 = true
    · rw [if_pos y]; exact ⟨(hv _ (by decide)).1, by decide, (hv _ (by decide)).2⟩
    · rw [if_neg y] at h; exact absurd rfl h
  | 1, _ =>
    have e : jtP f len 1 st = if wdP f len st 7 then -9 else 0 := rfl
    rw [e] at h ⊢
    by_cases y : wdP f len st 7 = true
    · rw [if_pos y]; exact ⟨(hv _ (by decide)).1, by decide, (hv _ (by decide)).2⟩
    · rw [if_neg y] at h; exact absurd rfl h
  | 2, _ =>
    have e : jtP f len 2 st = if sgP f len st 60 then -10 else if sgP f len st 61 then -11 else 0 := rfl
    rw [e] at h ⊢
    by_cases y : sgP f len st 60 = true
    · rw [if_pos y]; exact ⟨(hv _ (by decide)).1, by decide, (hv _ (by decide)).2⟩
    · rw [if_neg y] at h ⊢
      by_cases y2 : sgP f len st 61 = true
      · rw [if_pos y2]; exact ⟨(hv _ (by decide)).1, by decide, (hv _ (by decide)).2⟩
      · rw [if_neg y2] at h; exact absurd rfl h
  | 3, _ =>
    have e : jtP f len 3 st = if sgP f len st 43 then -12 else if sgP f len st 45 then -13 else 0 := rfl
    rw [e] at h ⊢
    by_cases y : sgP f len st 43 = true
    · rw [if_pos y]; exact ⟨(hv _ (by decide)).1, by decide, (hv _ (by decide)).2⟩
    · rw [if_neg y] at h ⊢
      by_cases y2 : sgP f len st 45 = true
      · rw [if_pos y2]; exact ⟨(hv _ (by decide)).1, by decide, (hv _ (by decide)).2⟩
      · rw [if_neg y2] at h; exact absurd rfl h
  | 4, _ =>
    have e : jtP f len 4 st = if sgP f len st 42 then -14 else if sgP f len st 47 then -15 else 0 := rfl
    rw [e] at h ⊢
    by_cases y : sgP f len st 42 = true
    · rw [if_pos y]; exact ⟨(hv _ (by decide)).1, by decide, (hv _ (by decide)).2⟩
    · rw [if_neg y] at h ⊢
      by_cases y2 : sgP f len st 47 = true
      · rw [if_pos y2]; exact ⟨(hv _ (by decide)).1, by decide, (hv _ (by decide)).2⟩
      · rw [if_neg y2] at h; exact absurd rfl h
