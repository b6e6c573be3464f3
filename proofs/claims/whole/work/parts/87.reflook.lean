/-! THE REFERENCE: LOOK -/
def nr : List AF → Nat → AF
  | [], _ => fun _ => 0
  | f :: rr, j => if j = rr.length then f else nr rr j
theorem nr_old {f : AF} {rr : List AF} {j : Nat} (h : j < rr.length) : nr (f :: rr) j = nr rr j := by rw [nr, if_neg (by omega)]
theorem nr_new {f : AF} {rr : List AF} : nr (f :: rr) rr.length = f := by rw [nr, if_pos rfl]
theorem mem_nr {f : AF} : ∀ (rr : List AF), f ∈ rr ↔ ∃ j, j < rr.length ∧ nr rr j = f := by
  intro rr
  induction rr with
  | nil => exact ⟨fun h => absurd h List.not_mem_nil, fun ⟨j, h, _⟩ => absurd h (Nat.not_lt_zero j)⟩
  | cons g rr ih =>
    constructor
    · intro h
      rcases List.mem_cons.mp h with e | e
      · exact ⟨rr.length, by rw [List.length_cons]; omega, by rw [nr_new, e]⟩
      · obtain ⟨j, j1, j2⟩ := ih.mp e
        exact ⟨j, by rw [List.length_cons]; omega, by rw [nr_old j1, j2]⟩
    · rintro ⟨j, j1, j2⟩
      rw [List.length_cons] at j1
      by_cases y : j = rr.length
      · rw [y, nr_new] at j2; rw [← j2]; exact List.mem_cons_self
      · rw [nr_old (by omega)] at j2
        exact List.mem_cons_of_mem _ (ih.mpr ⟨j, by omega, j2⟩)
theorem foldN_inv {σ : Type} {f : Nat → σ → σ} {P : σ → Prop} : ∀ (j i : Nat) (p : σ), (∀ k q, i ≤ k → k < i + j → P q → P (f k q)) → P p → P (foldN f j i p) := by
  intro j
  induction j with
  | zero => intro i p _ h; exact h
  | succ j ih =>
    intro i p hs h
    exact ih (i + 1) _ (fun k q h1 h2 => hs k q (by omega) (by omega)) (hs i p (by omega) (by omega) h)
section LKP
variable {s : CoreV}
theorem rg_vals (hI : IV s) (l : Nat) : ∀ f, f ∈ (rgF s l).1 → ∀ k, k < sN s → ∃ a, a ≤ 99 ∧ f k = nI a := by
  rw [rgF_H]
  refine foldN_inv (P := fun q : RgV => ∀ f, f ∈ q.1 → ∀ k, k < sN s → ∃ a, a ≤ 99 ∧ f k = nI a) _ _ _ (fun g q _ hg h => ?_) (fun f h => absurd h List.not_mem_nil)
  unfold rgH rgG
  split
  · intro f hf
    rcases List.mem_cons.mp hf with e | e
    · rw [e]; exact row_ok hI (by omega) (by omega)
    · exact h f e
  · exact h
theorem ul_ds (hI : IV s) {k : Nat} (hk : k < sN s) : ulE (wgF s 5) k = nI (dsJ (fun j => nr (rgF s 5).1 j k) (rgF s 5).1.length) := by
  obtain ⟨_, _, _, _, hM⟩ := wg_rg hI (l := 5) (by omega)
  have hv := rg_vals hI 5
  rw [ds_cP _ (fun i hi => hv _ ((mem_nr _).mpr ⟨i, hi, rfl⟩) k hk)]
  generalize (rgF s 5).1 = rr at *
  have ean : ∀ w, (∃ f, f ∈ rr ∧ f k = nI w) ↔ anB (fun j => nr rr j k) rr.length w = true := by
    intro w
    unfold anB
    rw [List.any_eq_true]
    constructor
    · rintro ⟨f, f1, f2⟩
      obtain ⟨j, j1, j2⟩ := (mem_nr rr).mp f1
      exact ⟨j, List.mem_range.mpr j1, by rw [beq_iff_eq]; show nr rr j k = nI w; rw [j2]; exact f2⟩
    · rintro ⟨j, j1, j2⟩
      exact ⟨nr rr j, (mem_nr rr).mpr ⟨j, List.mem_range.mp j1, rfl⟩, beq_iff_eq.mp j2⟩
  rw [ulE, bj_c, bj_c, nI_add, cN_cP (P := anB (fun j => nr rr j k) rr.length) 64 (fun w hw => ?_), cN_cP (P := fun w => anB (fun j => nr rr j k) rr.length (64 + w)) 64 (fun w hw => ?_)]
  · exact Bool.eq_iff_iff.mpr ((hM k hk w hw).2.trans (ean (64 + w)))
  · exact Bool.eq_iff_iff.mpr ((hM k hk w hw).1.trans (ean w))
end LKP
section RLK
variable {g : GG} {h : Hp} {B d : Nat} {R : RefV} {s : CoreV}
/-- the rows kept -/
def RwR (n : Nat) (rr : List AF) (R : RefV) : Prop := ∀ j, j < rr.length → ∀ k, k < n → ra R 26 (12 * j + k) = nr rr j k
/-- the unlike ones of a stretch, counted -/
theorem lk_cnt {K : KX} (XX : CB g K cX12_look 10 yX12_look (some .int) []) {Pr : Option Value → Hp → Prop} {R2 : RefV} {rr : List AF} {n k : Nat} {v best most : Int32} (hg : GOK g) (hd : 20 ≤ d) (hR : RA h B R) (hr : RwR n rr R2) (hk : k < n) (hn : n ≤ 12) (hlen : rr.length ≤ 600)
    (fin : ∀ b m, (b, m) = (if nI (dsJ (fun j => nr rr j k) rr.length) ≤ most then (best, most) else (nI k, nI (dsJ (fun j => nr rr j k) rr.length))) → VB g K 10 d 0 0 Pr noT 0 0 215 [some (.ref B), some (.int v), some (.int (nI rr.length)), some (.int b), some (.int m), some (.int (nI k)), none, none, none, none] [] (pR h B R2)) :
    VB g K 10 d 0 0 Pr noT 0 0 111 [some (.ref B), some (.int v), some (.int (nI rr.length)), some (.int best), some (.int most), some (.int (nI k)), some (.int 0), some (.int 0), none, none] [] (pR h B R2) := by
  have r2 := hR.put R2
  have out : ∀ (j i c : Nat), i + j = rr.length → c = dsJ (fun j => nr rr j k) i → VB g K 10 d 0 0 Pr noT 0 0 111 [some (.ref B), some (.int v), some (.int (nI rr.length)), some (.int best), some (.int most), some (.int (nI k)), some (.int (nI c)), some (.int (nI i)), none, none] [] (pR h B R2) := by
    intro j
    induction j with
    | zero =>
      intro i c hi hc
      have hi' : i = rr.length := by omega
      rw [hi'] at hc
      refine b_X12_look_111 hg (by omega) k00 XX _ _ _ _ _ _ _ _ _ ⟨fun _ => ⟨fun y => fin _ _ ?_, fun y => fin _ _ ?_⟩, fun q => absurd (nle_nI (by omega) (by omega) q) (by omega)⟩
      · rw [← hc, if_neg (Int32.not_le.mpr y)]
      · rw [← hc, if_pos (Int32.not_lt.mp y)]
    | succ j ih =>
      intro i c hi hc
      have nx : ∀ t, t = (List.range i).any (fun e => nr rr i k == nr rr e k) → VB g K 10 d 0 0 Pr noT 0 0 177 [some (.ref B), some (.int v), some (.int (nI rr.length)), some (.int best), some (.int most), some (.int (nI k)), some (.int (nI c)), some (.int (nI i)), some (.int (if t then 0 else 1)), none] [] (pR h B R2) := by
        intro t ht
        have hc2 : c + (if t then 0 else 1) = dsJ (fun j => nr rr j k) (i + 1) := by rw [dsJ, ← ht, hc]
        cases t with
        | true =>
          refine b_X12_look_177 hg (by omega) k00 XX _ _ _ _ _ _ _ _ _ _ ⟨fun _ => b_X12_look_189 hg (by omega) k00 XX _ _ _ _ _ _ _ _ _ _ ?_, fun e => absurd rfl e⟩
          rw [nI_s, show nI c + 0 = nI c from Int32.add_zero _]
          exact ih (i + 1) c (by omega) hc2
        | false =>
          refine b_X12_look_177 hg (by omega) k00 XX _ _ _ _ _ _ _ _ _ _ ⟨fun e => absurd e (by decide), fun _ => b_X12_look_189 hg (by omega) k00 XX _ _ _ _ _ _ _ _ _ _ ?_⟩
          rw [nI_s, nI_s]
          exact ih (i + 1) (c + 1) (by omega) hc2
      have inn : ∀ (j2 e : Nat) (t : Bool), e + j2 = i → t = (List.range e).any (fun e => nr rr i k == nr rr e k) → VB g K 10 d 0 0 Pr noT 0 0 123 [some (.ref B), some (.int v), some (.int (nI rr.length)), some (.int best), some (.int most), some (.int (nI k)), some (.int (nI c)), some (.int (nI i)), some (.int (if t then 0 else 1)), some (.int (nI e))] [] (pR h B R2) := by
        intro j2
        induction j2 with
        | zero =>
          intro e t he ht
          have he' : e = i := by omega
          rw [he'] at ht
          exact b_X12_look_123 hg (by omega) k00 XX _ _ _ _ _ _ _ _ _ _ _ ⟨fun _ => nx t ht, fun q => absurd (nle_nI (by omega) (by omega) q) (by omega)⟩
        | succ j2 ih2 =>
          intro e t he ht
          refine b_X12_look_123 hg (by omega) k00 XX _ _ _ _ _ _ _ _ _ _ _ ⟨fun q => absurd (le_nI (by omega) (by omega) q) (by omega), fun _ => ⟨fun y => nx t ?_, fun y => ⟨_, r2.n54, ?_⟩⟩⟩
          · cases t with
            | false => exact absurd y (by decide)
            | true =>
              obtain ⟨e2, m1, m2⟩ := List.any_eq_true.mp ht.symm
              exact (List.any_eq_true.mpr ⟨e2, List.mem_range.mpr (by have := List.mem_range.mp m1; omega), m2⟩).symm
          · have tf : t = false := by
              cases t with
              | false => rfl
              | true => exact absurd rfl y
            rw [show (12 : Int32) * nI i = nI (12 * i) from pk_mul 12 i, nI_add, show (12 : Int32) * nI e = nI (12 * e) from pk_mul 12 e, nI_add]
            refine ⟨_, by rw [r2.r26 (by omega), hr i (by omega) k hk], _, r2.n54, _, by rw [r2.r26 (by omega), hr e (by omega) k hk], fun w => b_X12_look_169 hg (by omega) k00 XX _ _ _ _ _ _ _ _ _ _ _ ?_, fun w => b_X12_look_169 hg (by omega) k00 XX _ _ _ _ _ _ _ _ _ _ _ ?_⟩
            · rw [nI_s]
              refine ih2 (e + 1) true (by omega) ?_
              rw [List.range_succ, List.any_append, List.any_cons, beq_iff_eq.mpr w]
              simp
            · rw [nI_s]
              refine ih2 (e + 1) false (by omega) ?_
              rw [List.range_succ, List.any_append, ← ht, tf, List.any_cons, beq_eq_false_iff_ne.mpr w]
              rfl
      refine b_X12_look_111 hg (by omega) k00 XX _ _ _ _ _ _ _ _ _ ⟨fun q => absurd (le_nI (by omega) (by omega) q) (by omega), fun _ => ?_⟩
      exact inn i 0 false (by omega) rfl
  exact out rr.length 0 0 (by omega) rfl
theorem r_look (hg : GOK g) (hd : 22 ≤ d) (hR : RA h B R) (hI : IV s) (hS : RS s R) (v : Int32) : CT g d yX12_look (wsC yX12_look cX12_look 10 (some .int)) [.ref B, .int v] h 0 0 (PrM h B cd2 s (m_look s v)) noT := by
  have o1 := hI.o1
  have o2 := hI.o2
  refine CT_ofB (by decide +kernel) (Nat.le_of_ble_eq_true rfl) rfl fun K XX => ?_
  have r1 := hR.put (sI R 0 0)
  have s1 := hS.s0 hI
  have z1 : ri (sI R 0 0) 0 = 0 := ri_sI
  refine b_X12_look_0 hg (by omega) k00 XX _ _ _ ⟨_, hR.w0 0, ?_⟩
  generalize sI R 0 0 = R1 at *
  refine ⟨_, r1.o, use_ck (d_isWhat (d := d - 1) hg (by omega) r1 z1 v 1) (by omega) k00 (fun c => ⟨fun _ => ?_, fun e => absurd e (by decide)⟩) (fun c => ⟨fun e => absurd rfl e, fun _ => ptM (b := true) hI s1 ((QF.refl R1).i rfl) ri_sI (by rw [m_look, c]; rfl) (hR.pp _ _)⟩)⟩
  have em : m_look s v = .inl (if v = 0 then (lkF s).1 else (lkF s).2, s) := by rw [m_look, if_pos c]
  rw [em]
  have hul := fun k (hk : k < sN s) => ul_ds hI hk
  have elen : (rgF s 5).1.length ≤ 50 * sN s := (wg_rg hI (l := 5) (by omega)).1
  -- the stretches
  have sts : ∀ (j i : Nat) (p : Int32 × Int32) (R2 : RefV), i + j = sN s → QF R1 R2 → ri R2 0 = 0 → RwR (sN s) (rgF s 5).1 R2 → foldN (lkG (wgF s 5)) j i p = lkF s → VB g K 10 d 0 0 (PrM h B cd2 s (.inl (if v = 0 then (lkF s).1 else (lkF s).2, s))) noT 0 0 96 [some (.ref B), some (.int v), some (.int (nI (rgF s 5).1.length)), some (.int p.1), some (.int p.2), some (.int (nI i)), none, none, none, none] [] (pR h B R2) := by
    intro j
    induction j with
    | zero =>
      intro i p R2 hi q2 z2 hr he
      have he' : p = lkF s := he
      have r2 := hR.put R2
      refine b_X12_look_96 hg (by omega) k00 XX _ _ _ _ _ _ _ ⟨_, by rw [r2.i1, (s1.qf hI q2).n], fun _ => ⟨fun w => prM hI s1 q2 z2 (by rw [if_neg w, ← he']) rfl, fun w => prM hI s1 q2 z2 (by rw [if_pos w, ← he']) rfl⟩, fun e => absurd (nle_nI (by omega) (by omega) e) (by omega)⟩
    | succ j ih =>
      intro i p R2 hi q2 z2 hr he
      have r2 := hR.put R2
      rw [foldN, lkG, hul i (by omega)] at he
      refine b_X12_look_96 hg (by omega) k00 XX _ _ _ _ _ _ _ ⟨_, by rw [r2.i1, (s1.qf hI q2).n], fun e => absurd (le_nI (by omega) (by omega) e) (by omega), fun _ => ?_⟩
      refine lk_cnt XX hg (by omega) hR hr (show i < sN s by omega) o2 (by omega) (fun b m e => ?_)
      refine b_X12_look_215 hg (by omega) k00 XX _ _ _ _ _ _ _ ?_
      rw [nI_s]
      refine ih (i + 1) (b, m) R2 (by omega) q2 z2 hr ?_
      rw [e]
      exact he
  -- the guesses
  have gs : ∀ (j k : Nat) (R2 : RefV) (q : RgV), k + j = 50 * sN s → QF R1 R2 → ri R2 0 = 0 → RwR (sN s) q.1 R2 → q.1.length ≤ k → foldN (rgH s 5) j k q = rgF s 5 → VB g K 10 d 0 0 (PrM h B cd2 s (.inl (if v = 0 then (lkF s).1 else (lkF s).2, s))) noT 0 0 20 [some (.ref B), some (.int v), some (.int (nI q.1.length)), some (.int (nI k)), none, none, none, none, none, none] [] (pR h B R2) := by
    intro j
    induction j with
    | zero =>
      intro k R2 q hk q2 z2 hr hl he
      have he' : q = rgF s 5 := he
      subst he'
      have r2 := hR.put R2
      refine b_X12_look_20 hg (by omega) k00 XX _ _ _ _ _ ⟨_, by rw [r2.i1, (s1.qf hI q2).n], ?_⟩
      rw [show (50 : Int32) * nI (sN s) = nI (50 * sN s) from pk_mul 50 _]
      exact ⟨fun _ => sts (sN s) 0 (-1, 0) R2 (by omega) q2 z2 hr rfl, fun e => absurd (nle_nI (by omega) (by omega) e) (by omega)⟩
    | succ j ih =>
      intro k R2 q hk q2 z2 hr hl he
      have r2 := hR.put R2
      have s2 := s1.qf hI q2
      rw [foldN, rgH, rgG] at he
      refine b_X12_look_20 hg (by omega) k00 XX _ _ _ _ _ ⟨_, by rw [r2.i1, s2.n], ?_⟩
      rw [show (50 : Int32) * nI (sN s) = nI (50 * sN s) from pk_mul 50 _]
      refine ⟨fun e => absurd (le_nI (by omega) (by omega) e) (by omega), fun _ => ⟨_, r2.o, use_iR (d_isGuess (k := k) (d := d - 1) hg (by omega) r2 hI s2 (by omega)) (by omega) k00 ?_⟩⟩
      rintro R3 ⟨q3, z3, a3, c3⟩
      rw [hR.pp]
      have hr3 : RwR (sN s) q.1 R3 := fun e he2 x hx => by rw [a3]; exact hr e he2 x hx
      cases hb : guB s (k / 50) (k % 50 + 1) with
      | false =>
        rw [hb, if_neg (by decide)] at he
        refine ⟨fun e => absurd rfl e, fun _ => b_X12_look_82 hg (by omega) k00 XX _ _ _ _ _ ?_⟩
        rw [nI_s]
        exact ih (k + 1) R3 q (by omega) (q2.trans q3) (by rw [z3, z2]) hr3 (by omega) he
      | true =>
        rw [hb, if_pos rfl] at he
        have c4 := c3 hb
        refine ⟨fun _ => ?_, fun e => absurd e (by decide)⟩
        have cp : ∀ (j2 x : Nat) (R4 : RefV), x + j2 = sN s → QF R1 R4 → ri R4 0 = 0 → (∀ e, e < sN s → ra R4 25 e = rowS s 5 (k / 50) (k % 50 + 1) e) → RwR (sN s) q.1 R4 → (∀ e, e < x → ra R4 26 (12 * q.1.length + e) = rowS s 5 (k / 50) (k % 50 + 1) e) → VB g K 10 d 0 0 (PrM h B cd2 s (.inl (if v = 0 then (lkF s).1 else (lkF s).2, s))) noT 0 0 45 [some (.ref B), some (.int v), some (.int (nI q.1.length)), some (.int (nI k)), some (.int (nI x)), none, none, none, none, none] [] (pR h B R4) := by
          intro j2
          induction j2 with
          | zero =>
            intro x R4 hx q4 z4 h25 hr4 h26
            have r4 := hR.put R4
            refine b_X12_look_45 hg (by omega) k00 XX _ _ _ _ _ _ ⟨_, by rw [r4.i1, (s1.qf hI q4).n], fun _ => b_X12_look_82 hg (by omega) k00 XX _ _ _ _ _ ?_, fun e => absurd (nle_nI (by omega) (by omega) e) (by omega)⟩
            rw [nI_s, nI_s]
            refine ih (k + 1) R4 (adG s 5 (k / 50) (k % 50 + 1) q) (by omega) q4 z4 ?_ (by show q.1.length + 1 ≤ k + 1; omega) he
            intro e he2 y hy
            show ra R4 26 (12 * e + y) = nr (rowS s 5 (k / 50) (k % 50 + 1) :: q.1) e y
            have he3 : e < q.1.length + 1 := he2
            by_cases w : e = q.1.length
            · rw [w, nr_new]; exact h26 y (by omega)
            · rw [nr_old (by omega)]; exact hr4 e (by omega) y hy
          | succ j2 ih2 =>
            intro x R4 hx q4 z4 h25 hr4 h26
            have r4 := hR.put R4
            refine b_X12_look_45 hg (by omega) k00 XX _ _ _ _ _ _ ⟨_, by rw [r4.i1, (s1.qf hI q4).n], fun e => absurd (le_nI (by omega) (by omega) e) (by omega), fun _ => ⟨_, r4.n54, _, r4.n53, _, by rw [r4.r25 (by omega), h25 x (by omega)], ?_⟩⟩
            rw [show (12 : Int32) * nI q.1.length = nI (12 * q.1.length) from pk_mul 12 _, nI_add]
            refine ⟨_, r4.u26 (by omega), ?_⟩
            rw [hR.pp, nI_s]
            refine ih2 (x + 1) _ (by omega) (q4.a rfl (by decide)) z4 (fun e he2 => by rw [ra_sAn (by decide)]; exact h25 e he2) (fun e he2 y hy => ?_) (fun e he2 => ?_)
            · rw [ra_sA, pk_un (by omega)]; exact hr4 e he2 y hy
            · rw [ra_sA]
              by_cases w : e = x
              · subst w; rw [pk_us]
              · rw [pk_un (by omega)]; exact h26 e (by omega)
        exact cp (sN s) 0 R3 (by omega) (q2.trans q3) (by rw [z3, z2]) c4 hr3 (fun e he2 => absurd he2 (Nat.not_lt_zero e))
  exact gs (50 * sN s) 0 R1 ([], -1) (by omega) (QF.refl _) z1 (fun e he => absurd he (Nat.not_lt_zero e)) (Nat.le_refl _) (rgF_H s 5).symm
end RLK
