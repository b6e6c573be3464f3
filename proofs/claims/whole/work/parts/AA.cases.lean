/-! THE LAW: its cases (by program) -/
section LWC
variable {g : GG} {p : Program} {e : Env} {Rm : Room} {s_ : State} {m_ : MethodId} {args : Array Value} {below : List Frame} {meth : Method} {c : Code} {Q : State → Prop} {xt : List ExceptionTableEntry} {nm : String} {L : Nat} {xs : Nat → Int32} {kc ks i : Nat} {h : Hp} {s : CoreV} {x : ScrV} {R : RefV}
theorem iv_ring {v : Int32} {q : Int32 × CoreV} (hI : IV s) (e : m_ring s x v = .inl q) : IV q.2 := by
  unfold m_ring at e
  split at e
  · cases e
  · rename_i hv
    have y1 : ¬ v < 0 := fun z => hv (Or.inl z)
    have y2 : v ≤ nI (oTl (sO s)) := Classical.not_not.mp fun z => hv (Or.inr z)
    have ev := nI_cl y1
    have hb : cl v < 2 ^ 31 := by
      have := Int32.toInt_lt v
      have e : cl v = v.toInt.toNat := rfl
      omega
    have hn : cl v ≤ 700 := by
      have tl := hI.tl
      rw [ev] at y2
      have := le_nI hb (by omega) y2
      omega
    have dx := rg_di s x hn
    split at e
    · cases e
      exact ⟨hI.tg, hI.sk, hI.kn, hI.lok, hI.pa, hI.se, hI.im, Nat.zero_le _, hI.bt⟩
    · rename_i z hz
      rw [hz] at dx
      obtain ⟨⟨xF, xP, di⟩, _⟩ := dx
      cases e
      exact iv_ringS hI.bt di
theorem lc_feed (hg : GOK g) (hO : GOW g) (hN : GOC g) (hX : SX g L xs) (X : CX g p s_ m_ args meth c cL_law 7 ⟨RL, nm, "([I)Z"⟩ (some .boolean) xt) (hr : 200 ≤ Rm.frames ∧ 13000 ≤ Rm.locals) (hk : kc + 8 ≤ Rm.cells ∧ ks + 64 ≤ Rm.slots) (hi : i + 6 ≤ L) (li : LI h s x R) (kk : ∀ h' s' x' R', LI h' s' x' R' → VV g p e Rm s_ m_ args below meth c 7 Q (kc + 8) (ks + 64) 2555 [some (.retAddr 100), some (.ref 0), some (.ref 83), some (.ref 114), some (.int (nI i)), none, none] [] h') : VV g p e Rm s_ m_ args below meth c 7 Q kc ks 228 [some (.retAddr 100), some (.ref 0), some (.ref 83), some (.ref 114), some (.int (nI i)), none, none] [] h := by
  have h384 := hX.1
  have hI := li.2.2.2.2
  have hS := li.2.2.2.1
  obtain ⟨hr1, hr2⟩ := hr
  refine b_L_law_228 hX X 0 83 114 (nI i) h ⟨i + 1, nI_ad i 1, by omega, i + 2, nI_ad i 2, by omega, i + 3, nI_ad i 3, by omega, i + 4, nI_ad i 4, by omega, i + 5, nI_ad i 5, by omega, _, li.1.o, 40, _, 8, 64, no_thr (m := m_feed s (xs (i + 1)) (xs (i + 2)) (xs (i + 3)) (xs (i + 4)) (xs (i + 5))) (fun b e => by unfold m_feed at e; (repeat' split at e) <;> cases e) (x_feed (d := 40) hg (by omega) li.1.self hI.tl (xs (i + 1)) (xs (i + 2)) (xs (i + 3)) (xs (i + 4)) (xs (i + 5))), ⟨⟨by omega, by omega⟩, by omega, by omega⟩, fun v h1 q => ?_⟩
  obtain ⟨q1, x1, em, ev, c1, RA1, f, ou⟩ := pd_of li q
  have hq : IV q1.2 := (show ∀ q, m_feed s (xs (i + 1)) (xs (i + 2)) (xs (i + 3)) (xs (i + 4)) (xs (i + 5)) = .inl q → IV q.2 from (fun q e => iv_feed hI e)) q1 em
  refine ⟨_, ev, i + 1, nI_ad i 1, by omega, i + 2, nI_ad i 2, by omega, i + 3, nI_ad i 3, by omega, i + 4, nI_ad i 4, by omega, i + 5, nI_ad i 5, by omega, _, RA1.o, 40, _, 0, 0, r_feed (d := 40) hg (by omega) RA1 hI hS (xs (i + 1)) (xs (i + 2)) (xs (i + 3)) (xs (i + 4)) (xs (i + 5)), ⟨⟨by omega, by omega⟩, by omega, by omega⟩, fun v4 h4 w => ?_⟩
  rw [em] at w
  obtain ⟨e4, R4, l4⟩ := pd_li hq c1 RA1 ou w
  exact ⟨_, e4, fun _ => kk _ _ _ _ l4, fun y => absurd rfl y⟩
theorem lc_ring (hg : GOK g) (hO : GOW g) (hN : GOC g) (hX : SX g L xs) (X : CX g p s_ m_ args meth c cL_law 7 ⟨RL, nm, "([I)Z"⟩ (some .boolean) xt) (hr : 200 ≤ Rm.frames ∧ 13000 ≤ Rm.locals) (hk : kc + 8 ≤ Rm.cells ∧ ks + 64 ≤ Rm.slots) (hi : i + 6 ≤ L) (li : LI h s x R) (kk : ∀ h' s' x' R', LI h' s' x' R' → VV g p e Rm s_ m_ args below meth c 7 Q (kc + 8) (ks + 64) 2555 [some (.retAddr 100), some (.ref 0), some (.ref 83), some (.ref 114), some (.int (nI i)), none, none] [] h') : VV g p e Rm s_ m_ args below meth c 7 Q kc ks 301 [some (.retAddr 100), some (.ref 0), some (.ref 83), some (.ref 114), some (.int (nI i)), none, none] [] h := by
  have h384 := hX.1
  have hI := li.2.2.2.2
  have hS := li.2.2.2.1
  obtain ⟨hr1, hr2⟩ := hr
  refine b_L_law_301 hX X 0 83 114 (nI i) h ⟨i + 1, nI_ad i 1, by omega, 150 + 1, _, 8, 64, l_ring hN li.1.o (x_ring (d := 150) hg hO (by omega) li.1.self hI.tl (xs (i + 1))) (hl_kk (cd := cd1) li) (hl_I li (fun b e => by unfold m_ring at e; (repeat' split at e) <;> first | (cases e; rfl) | (cases e; done))), ⟨⟨by omega, by omega⟩, by omega, by omega⟩, fun v h1 q => ?_⟩
  obtain ⟨k, f, ek, RA1, ou, q2⟩ := id q
  rw [ek] at q
  refine ⟨k, ek, i + 1, nI_ad i 1, by omega, _, RA1.o, 40, _, 0, 0, r_ring (d := 40) hg (by omega) RA1 hI hS x (xs (i + 1)), ⟨⟨by omega, by omega⟩, by omega, by omega⟩, fun v4 h4 w => ?_⟩
  obtain ⟨v6, ev, pm⟩ := pl_pm (by decide) hI (fun q e => iv_ring hI e) q w
  exact ⟨v6, ev, lw_tail hg ⟨by omega, by omega⟩ ⟨by omega, by omega⟩ pm (fun s2 x2 R2 l2 => b_L_law_354 hX X _ _ _ _ _ (kk _ _ _ _ l2))⟩
theorem lc_fault (hg : GOK g) (hO : GOW g) (hN : GOC g) (hX : SX g L xs) (X : CX g p s_ m_ args meth c cL_law 7 ⟨RL, nm, "([I)Z"⟩ (some .boolean) xt) (hr : 200 ≤ Rm.frames ∧ 13000 ≤ Rm.locals) (hk : kc + 8 ≤ Rm.cells ∧ ks + 64 ≤ Rm.slots) (hi : i + 6 ≤ L) (li : LI h s x R) (kk : ∀ h' s' x' R', LI h' s' x' R' → VV g p e Rm s_ m_ args below meth c 7 Q (kc + 8) (ks + 64) 2555 [some (.retAddr 100), some (.ref 0), some (.ref 83), some (.ref 114), some (.int (nI i)), none, none] [] h') : VV g p e Rm s_ m_ args below meth c 7 Q kc ks 357 [some (.retAddr 100), some (.ref 0), some (.ref 83), some (.ref 114), some (.int (nI i)), none, none] [] h := by
  have h384 := hX.1
  have hI := li.2.2.2.2
  have hS := li.2.2.2.1
  obtain ⟨hr1, hr2⟩ := hr
  refine b_L_law_357 hX X 0 83 114 (nI i) h ⟨_, li.1.o, 40, _, 8, 64, no_thr (m := m_fault s ) (fun b e => by unfold m_fault at e; (repeat' split at e) <;> cases e) (x_fault (d := 40) hg (by omega) li.1.self ), ⟨⟨by omega, by omega⟩, by omega, by omega⟩, fun v h1 q => ?_⟩
  obtain ⟨q1, x1, em, ev, c1, RA1, f, ou⟩ := pd_of li q
  have hq : IV q1.2 := (show ∀ q, m_fault s  = .inl q → IV q.2 from (fun q e => by unfold m_fault at e; (repeat' split at e) <;> first | (cases e; exact hI) | (cases e; done))) q1 em
  refine ⟨_, ev, _, RA1.o, 40, _, 0, 0, r_fault (d := 40) (cd := cd2) hg (by omega) RA1 hI hS , ⟨⟨by omega, by omega⟩, by omega, by omega⟩, fun v4 h4 w => ?_⟩
  rw [em] at w
  obtain ⟨e4, R4, l4⟩ := pd_li hq c1 RA1 ou w
  exact ⟨_, e4, fun _ => kk _ _ _ _ l4, fun y => absurd rfl y⟩
theorem lc_count (hg : GOK g) (hO : GOW g) (hN : GOC g) (hX : SX g L xs) (X : CX g p s_ m_ args meth c cL_law 7 ⟨RL, nm, "([I)Z"⟩ (some .boolean) xt) (hr : 200 ≤ Rm.frames ∧ 13000 ≤ Rm.locals) (hk : kc + 8 ≤ Rm.cells ∧ ks + 64 ≤ Rm.slots) (hi : i + 6 ≤ L) (li : LI h s x R) (kk : ∀ h' s' x' R', LI h' s' x' R' → VV g p e Rm s_ m_ args below meth c 7 Q (kc + 8) (ks + 64) 2555 [some (.retAddr 100), some (.ref 0), some (.ref 83), some (.ref 114), some (.int (nI i)), none, none] [] h') : VV g p e Rm s_ m_ args below meth c 7 Q kc ks 370 [some (.retAddr 100), some (.ref 0), some (.ref 83), some (.ref 114), some (.int (nI i)), none, none] [] h := by
  have h384 := hX.1
  have hI := li.2.2.2.2
  have hS := li.2.2.2.1
  obtain ⟨hr1, hr2⟩ := hr
  refine b_L_law_370 hX X 0 83 114 (nI i) h ⟨i + 1, nI_ad i 1, by omega, 40 + 1, _, 8, 64, l_count hN li.1.o (x_count (d := 40) hg (by omega) li.1.self hI.is (xs (i + 1))) (hl_kk (cd := cd2) li) (hl_N li (fun b e => by unfold m_count at e; (repeat' split at e) <;> first | (cases e; rfl) | (cases e; done))), ⟨⟨by omega, by omega⟩, by omega, by omega⟩, fun v h1 q => ?_⟩
  obtain ⟨k, f, ek, RA1, ou, q2⟩ := id q
  rw [ek] at q
  refine ⟨k, ek, i + 1, nI_ad i 1, by omega, _, RA1.o, 40, _, 0, 0, r_count (d := 40) hg (by omega) RA1 hI hS (xs (i + 1)), ⟨⟨by omega, by omega⟩, by omega, by omega⟩, fun v4 h4 w => ?_⟩
  obtain ⟨v6, ev, pm⟩ := pl_pm (by decide) hI (fun q e => by unfold m_count at e; (repeat' split at e) <;> first | (cases e; exact hI) | (cases e; done)) q w
  exact ⟨v6, ev, lw_tail hg ⟨by omega, by omega⟩ ⟨by omega, by omega⟩ pm (fun s2 x2 R2 l2 => b_L_law_423 hX X _ _ _ _ _ (kk _ _ _ _ l2))⟩
theorem lc_stretch (hg : GOK g) (hO : GOW g) (hN : GOC g) (hX : SX g L xs) (X : CX g p s_ m_ args meth c cL_law 7 ⟨RL, nm, "([I)Z"⟩ (some .boolean) xt) (hr : 200 ≤ Rm.frames ∧ 13000 ≤ Rm.locals) (hk : kc + 8 ≤ Rm.cells ∧ ks + 64 ≤ Rm.slots) (hi : i + 6 ≤ L) (li : LI h s x R) (kk : ∀ h' s' x' R', LI h' s' x' R' → VV g p e Rm s_ m_ args below meth c 7 Q (kc + 8) (ks + 64) 2555 [some (.retAddr 100), some (.ref 0), some (.ref 83), some (.ref 114), some (.int (nI i)), none, none] [] h') : VV g p e Rm s_ m_ args below meth c 7 Q kc ks 426 [some (.retAddr 100), some (.ref 0), some (.ref 83), some (.ref 114), some (.int (nI i)), none, none] [] h := by
  have h384 := hX.1
  have hI := li.2.2.2.2
  have hS := li.2.2.2.1
  obtain ⟨hr1, hr2⟩ := hr
  refine b_L_law_426 hX X 0 83 114 (nI i) h ⟨i + 1, nI_ad i 1, by omega, i + 2, nI_ad i 2, by omega, 40 + 1, _, 8, 64, l_stretch hN li.1.o (x_stretch (d := 40) hg (by omega) li.1.self hI.is (xs (i + 1)) (xs (i + 2))) (hl_kk (cd := cd2) li) (hl_N li (fun b e => by unfold m_stretch at e; (repeat' split at e) <;> first | (cases e; rfl) | (cases e; done))), ⟨⟨by omega, by omega⟩, by omega, by omega⟩, fun v h1 q => ?_⟩
  obtain ⟨k, f, ek, RA1, ou, q2⟩ := id q
  rw [ek] at q
  refine ⟨k, ek, i + 1, nI_ad i 1, by omega, i + 2, nI_ad i 2, by omega, _, RA1.o, 40, _, 0, 0, r_stretch (d := 40) hg (by omega) RA1 hI hS (xs (i + 1)) (xs (i + 2)), ⟨⟨by omega, by omega⟩, by omega, by omega⟩, fun v4 h4 w => ?_⟩
  obtain ⟨v6, ev, pm⟩ := pl_pm (by decide) hI (fun q e => by unfold m_stretch at e; (repeat' split at e) <;> first | (cases e; exact hI) | (cases e; done)) q w
  exact ⟨v6, ev, lw_tail hg ⟨by omega, by omega⟩ ⟨by omega, by omega⟩ pm (fun s2 x2 R2 l2 => b_L_law_491 hX X _ _ _ _ _ (kk _ _ _ _ l2))⟩
theorem lc_woman (hg : GOK g) (hO : GOW g) (hN : GOC g) (hX : SX g L xs) (X : CX g p s_ m_ args meth c cL_law 7 ⟨RL, nm, "([I)Z"⟩ (some .boolean) xt) (hr : 200 ≤ Rm.frames ∧ 13000 ≤ Rm.locals) (hk : kc + 8 ≤ Rm.cells ∧ ks + 64 ≤ Rm.slots) (hi : i + 6 ≤ L) (li : LI h s x R) (kk : ∀ h' s' x' R', LI h' s' x' R' → VV g p e Rm s_ m_ args below meth c 7 Q (kc + 8) (ks + 64) 2555 [some (.retAddr 100), some (.ref 0), some (.ref 83), some (.ref 114), some (.int (nI i)), none, none] [] h') : VV g p e Rm s_ m_ args below meth c 7 Q kc ks 494 [some (.retAddr 100), some (.ref 0), some (.ref 83), some (.ref 114), some (.int (nI i)), none, none] [] h := by
  have h384 := hX.1
  have hI := li.2.2.2.2
  have hS := li.2.2.2.1
  obtain ⟨hr1, hr2⟩ := hr
  refine b_L_law_494 hX X 0 83 114 (nI i) h ⟨i + 1, nI_ad i 1, by omega, i + 2, nI_ad i 2, by omega, 40 + 1, _, 8, 64, l_woman hN li.1.o (x_woman (d := 40) hg (by omega) li.1.self hI.is (xs (i + 1)) (xs (i + 2))) (hl_kk (cd := cd2) li) (hl_N li (fun b e => by unfold m_woman at e; (repeat' split at e) <;> first | (cases e; rfl) | (cases e; done))), ⟨⟨by omega, by omega⟩, by omega, by omega⟩, fun v h1 q => ?_⟩
  obtain ⟨k, f, ek, RA1, ou, q2⟩ := id q
  rw [ek] at q
  refine ⟨k, ek, i + 1, nI_ad i 1, by omega, i + 2, nI_ad i 2, by omega, _, RA1.o, 40, _, 0, 0, r_woman (d := 40) hg (by omega) RA1 hI hS (xs (i + 1)) (xs (i + 2)), ⟨⟨by omega, by omega⟩, by omega, by omega⟩, fun v4 h4 w => ?_⟩
  obtain ⟨v6, ev, pm⟩ := pl_pm (by decide) hI (fun q e => by unfold m_woman at e; (repeat' split at e) <;> first | (cases e; exact hI) | (cases e; done)) q w
  exact ⟨v6, ev, lw_tail hg ⟨by omega, by omega⟩ ⟨by omega, by omega⟩ pm (fun s2 x2 R2 l2 => b_L_law_559 hX X _ _ _ _ _ (kk _ _ _ _ l2))⟩
theorem lc_days (hg : GOK g) (hO : GOW g) (hN : GOC g) (hX : SX g L xs) (X : CX g p s_ m_ args meth c cL_law 7 ⟨RL, nm, "([I)Z"⟩ (some .boolean) xt) (hr : 200 ≤ Rm.frames ∧ 13000 ≤ Rm.locals) (hk : kc + 8 ≤ Rm.cells ∧ ks + 64 ≤ Rm.slots) (hi : i + 6 ≤ L) (li : LI h s x R) (kk : ∀ h' s' x' R', LI h' s' x' R' → VV g p e Rm s_ m_ args below meth c 7 Q (kc + 8) (ks + 64) 2555 [some (.retAddr 100), some (.ref 0), some (.ref 83), some (.ref 114), some (.int (nI i)), none, none] [] h') : VV g p e Rm s_ m_ args below meth c 7 Q kc ks 562 [some (.retAddr 100), some (.ref 0), some (.ref 83), some (.ref 114), some (.int (nI i)), none, none] [] h := by
  have h384 := hX.1
  have hI := li.2.2.2.2
  have hS := li.2.2.2.1
  obtain ⟨hr1, hr2⟩ := hr
  refine b_L_law_562 hX X 0 83 114 (nI i) h ⟨i + 1, nI_ad i 1, by omega, _, li.1.o, 40, _, 8, 64, no_thr (m := m_days s (xs (i + 1))) (fun b e => by unfold m_days at e; (repeat' split at e) <;> cases e) (x_days (d := 40) hg (by omega) li.1.self hI.is (xs (i + 1))), ⟨⟨by omega, by omega⟩, by omega, by omega⟩, fun v h1 q => ?_⟩
  obtain ⟨q1, x1, em, ev, c1, RA1, f, ou⟩ := pd_of li q
  have hq : IV q1.2 := (show ∀ q, m_days s (xs (i + 1)) = .inl q → IV q.2 from (fun q e => iv_days hI e)) q1 em
  refine ⟨_, ev, i + 1, nI_ad i 1, by omega, _, RA1.o, 40, _, 0, 0, r_days (d := 40) hg (by omega) RA1 hI hS (xs (i + 1)), ⟨⟨by omega, by omega⟩, by omega, by omega⟩, fun v4 h4 w => ?_⟩
  rw [em] at w
  obtain ⟨e4, R4, l4⟩ := pd_li hq c1 RA1 ou w
  exact ⟨_, e4, fun _ => kk _ _ _ _ l4, fun y => absurd rfl y⟩
theorem lc_mend (hg : GOK g) (hO : GOW g) (hN : GOC g) (hX : SX g L xs) (X : CX g p s_ m_ args meth c cL_law 7 ⟨RL, nm, "([I)Z"⟩ (some .boolean) xt) (hr : 200 ≤ Rm.frames ∧ 13000 ≤ Rm.locals) (hk : kc + 8 ≤ Rm.cells ∧ ks + 64 ≤ Rm.slots) (hi : i + 6 ≤ L) (li : LI h s x R) (kk : ∀ h' s' x' R', LI h' s' x' R' → VV g p e Rm s_ m_ args below meth c 7 Q (kc + 8) (ks + 64) 2555 [some (.retAddr 100), some (.ref 0), some (.ref 83), some (.ref 114), some (.int (nI i)), none, none] [] h') : VV g p e Rm s_ m_ args below meth c 7 Q kc ks 587 [some (.retAddr 100), some (.ref 0), some (.ref 83), some (.ref 114), some (.int (nI i)), none, none] [] h := by
  have h384 := hX.1
  have hI := li.2.2.2.2
  have hS := li.2.2.2.1
  obtain ⟨hr1, hr2⟩ := hr
  refine b_L_law_587 hX X 0 83 114 (nI i) h ⟨i + 1, nI_ad i 1, by omega, 40 + 1, _, 8, 64, l_mend hN li.1.o (x_mend (d := 40) hg (by omega) li.1.self hI.is (xs (i + 1))) (hl_kk (cd := cd2) li) (hl_N li (fun b e => by unfold m_mend at e; (repeat' split at e) <;> first | (cases e; rfl) | (cases e; done))), ⟨⟨by omega, by omega⟩, by omega, by omega⟩, fun v h1 q => ?_⟩
  obtain ⟨k, f, ek, RA1, ou, q2⟩ := id q
  rw [ek] at q
  refine ⟨k, ek, i + 1, nI_ad i 1, by omega, _, RA1.o, 40, _, 0, 0, r_mend (d := 40) hg (by omega) RA1 hI hS (xs (i + 1)), ⟨⟨by omega, by omega⟩, by omega, by omega⟩, fun v4 h4 w => ?_⟩
  obtain ⟨v6, ev, pm⟩ := pl_pm (by decide) hI (fun q e => iv_mend hI e) q w
  exact ⟨v6, ev, lw_tail hg ⟨by omega, by omega⟩ ⟨by omega, by omega⟩ pm (fun s2 x2 R2 l2 => b_L_law_640 hX X _ _ _ _ _ (kk _ _ _ _ l2))⟩
theorem lc_go (hg : GOK g) (hO : GOW g) (hN : GOC g) (hX : SX g L xs) (X : CX g p s_ m_ args meth c cL_law 7 ⟨RL, nm, "([I)Z"⟩ (some .boolean) xt) (hr : 200 ≤ Rm.frames ∧ 13000 ≤ Rm.locals) (hk : kc + 8 ≤ Rm.cells ∧ ks + 64 ≤ Rm.slots) (hi : i + 6 ≤ L) (li : LI h s x R) (kk : ∀ h' s' x' R', LI h' s' x' R' → VV g p e Rm s_ m_ args below meth c 7 Q (kc + 8) (ks + 64) 2555 [some (.retAddr 100), some (.ref 0), some (.ref 83), some (.ref 114), some (.int (nI i)), none, none] [] h') : VV g p e Rm s_ m_ args below meth c 7 Q kc ks 643 [some (.retAddr 100), some (.ref 0), some (.ref 83), some (.ref 114), some (.int (nI i)), none, none] [] h := by
  have h384 := hX.1
  have hI := li.2.2.2.2
  have hS := li.2.2.2.1
  obtain ⟨hr1, hr2⟩ := hr
  refine b_L_law_643 hX X 0 83 114 (nI i) h ⟨i + 1, nI_ad i 1, by omega, i + 2, nI_ad i 2, by omega, 40 + 1, _, 8, 64, l_go hN li.1.o (x_go (d := 40) hg (by omega) li.1.self hI.is (xs (i + 1)) (xs (i + 2))) (hl_kk (cd := cd2) li) (hl_N li (fun b e => by unfold m_go at e; (repeat' split at e) <;> first | (cases e; rfl) | (cases e; done))), ⟨⟨by omega, by omega⟩, by omega, by omega⟩, fun v h1 q => ?_⟩
  obtain ⟨k, f, ek, RA1, ou, q2⟩ := id q
  rw [ek] at q
  refine ⟨k, ek, i + 1, nI_ad i 1, by omega, i + 2, nI_ad i 2, by omega, _, RA1.o, 40, _, 0, 0, r_go (d := 40) hg (by omega) RA1 hI hS (xs (i + 1)) (xs (i + 2)), ⟨⟨by omega, by omega⟩, by omega, by omega⟩, fun v4 h4 w => ?_⟩
  obtain ⟨v6, ev, pm⟩ := pl_pm (by decide) hI (fun q e => iv_go hI e) q w
  exact ⟨v6, ev, lw_tail hg ⟨by omega, by omega⟩ ⟨by omega, by omega⟩ pm (fun s2 x2 R2 l2 => b_L_law_708 hX X _ _ _ _ _ (kk _ _ _ _ l2))⟩
theorem lc_stitch (hg : GOK g) (hO : GOW g) (hN : GOC g) (hX : SX g L xs) (X : CX g p s_ m_ args meth c cL_law 7 ⟨RL, nm, "([I)Z"⟩ (some .boolean) xt) (hr : 200 ≤ Rm.frames ∧ 13000 ≤ Rm.locals) (hk : kc + 8 ≤ Rm.cells ∧ ks + 64 ≤ Rm.slots) (hi : i + 6 ≤ L) (li : LI h s x R) (kk : ∀ h' s' x' R', LI h' s' x' R' → VV g p e Rm s_ m_ args below meth c 7 Q (kc + 8) (ks + 64) 2555 [some (.retAddr 100), some (.ref 0), some (.ref 83), some (.ref 114), some (.int (nI i)), none, none] [] h') : VV g p e Rm s_ m_ args below meth c 7 Q kc ks 711 [some (.retAddr 100), some (.ref 0), some (.ref 83), some (.ref 114), some (.int (nI i)), none, none] [] h := by
  have h384 := hX.1
  have hI := li.2.2.2.2
  have hS := li.2.2.2.1
  obtain ⟨hr1, hr2⟩ := hr
  refine b_L_law_711 hX X 0 83 114 (nI i) h ⟨i + 1, nI_ad i 1, by omega, i + 2, nI_ad i 2, by omega, 40 + 1, _, 8, 64, l_stitch hN li.1.o (x_stitch (d := 40) hg (by omega) li.1.self hI.is (xs (i + 1)) (xs (i + 2))) (hl_kk (cd := cd2) li) (hl_N li (fun b e => by unfold m_stitch at e; (repeat' split at e) <;> first | (cases e; rfl) | (cases e; done))), ⟨⟨by omega, by omega⟩, by omega, by omega⟩, fun v h1 q => ?_⟩
  obtain ⟨k, f, ek, RA1, ou, q2⟩ := id q
  rw [ek] at q
  refine ⟨k, ek, i + 1, nI_ad i 1, by omega, i + 2, nI_ad i 2, by omega, _, RA1.o, 40, _, 0, 0, r_stitch (d := 40) hg (by omega) RA1 hI hS (xs (i + 1)) (xs (i + 2)), ⟨⟨by omega, by omega⟩, by omega, by omega⟩, fun v4 h4 w => ?_⟩
  obtain ⟨v6, ev, pm⟩ := pl_pm (by decide) hI (fun q e => iv_stitch hI e) q w
  exact ⟨v6, ev, lw_tail hg ⟨by omega, by omega⟩ ⟨by omega, by omega⟩ pm (fun s2 x2 R2 l2 => b_L_law_776 hX X _ _ _ _ _ (kk _ _ _ _ l2))⟩
theorem lc_thread (hg : GOK g) (hO : GOW g) (hN : GOC g) (hX : SX g L xs) (X : CX g p s_ m_ args meth c cL_law 7 ⟨RL, nm, "([I)Z"⟩ (some .boolean) xt) (hr : 200 ≤ Rm.frames ∧ 13000 ≤ Rm.locals) (hk : kc + 8 ≤ Rm.cells ∧ ks + 64 ≤ Rm.slots) (hi : i + 6 ≤ L) (li : LI h s x R) (kk : ∀ h' s' x' R', LI h' s' x' R' → VV g p e Rm s_ m_ args below meth c 7 Q (kc + 8) (ks + 64) 2555 [some (.retAddr 100), some (.ref 0), some (.ref 83), some (.ref 114), some (.int (nI i)), none, none] [] h') : VV g p e Rm s_ m_ args below meth c 7 Q kc ks 779 [some (.retAddr 100), some (.ref 0), some (.ref 83), some (.ref 114), some (.int (nI i)), none, none] [] h := by
  have h384 := hX.1
  have hI := li.2.2.2.2
  have hS := li.2.2.2.1
  obtain ⟨hr1, hr2⟩ := hr
  refine b_L_law_779 hX X 0 83 114 (nI i) h ⟨i + 1, nI_ad i 1, by omega, i + 2, nI_ad i 2, by omega, 40 + 1, _, 8, 64, l_thread hN li.1.o (x_thread (d := 40) hg (by omega) li.1.self hI.is (xs (i + 1)) (xs (i + 2))) (hl_kk (cd := cd2) li) (hl_N li (fun b e => by unfold m_thread at e; (repeat' split at e) <;> first | (cases e; rfl) | (cases e; done))), ⟨⟨by omega, by omega⟩, by omega, by omega⟩, fun v h1 q => ?_⟩
  obtain ⟨k, f, ek, RA1, ou, q2⟩ := id q
  rw [ek] at q
  refine ⟨k, ek, i + 1, nI_ad i 1, by omega, i + 2, nI_ad i 2, by omega, _, RA1.o, 40, _, 0, 0, r_thread (d := 40) hg (by omega) RA1 hI hS (xs (i + 1)) (xs (i + 2)), ⟨⟨by omega, by omega⟩, by omega, by omega⟩, fun v4 h4 w => ?_⟩
  obtain ⟨v6, ev, pm⟩ := pl_pm (by decide) hI (fun q e => iv_thread hI e) q w
  exact ⟨v6, ev, lw_tail hg ⟨by omega, by omega⟩ ⟨by omega, by omega⟩ pm (fun s2 x2 R2 l2 => b_L_law_844 hX X _ _ _ _ _ (kk _ _ _ _ l2))⟩
theorem lc_tear (hg : GOK g) (hO : GOW g) (hN : GOC g) (hX : SX g L xs) (X : CX g p s_ m_ args meth c cL_law 7 ⟨RL, nm, "([I)Z"⟩ (some .boolean) xt) (hr : 200 ≤ Rm.frames ∧ 13000 ≤ Rm.locals) (hk : kc + 8 ≤ Rm.cells ∧ ks + 64 ≤ Rm.slots) (hi : i + 6 ≤ L) (li : LI h s x R) (kk : ∀ h' s' x' R', LI h' s' x' R' → VV g p e Rm s_ m_ args below meth c 7 Q (kc + 8) (ks + 64) 2555 [some (.retAddr 100), some (.ref 0), some (.ref 83), some (.ref 114), some (.int (nI i)), none, none] [] h') : VV g p e Rm s_ m_ args below meth c 7 Q kc ks 847 [some (.retAddr 100), some (.ref 0), some (.ref 83), some (.ref 114), some (.int (nI i)), none, none] [] h := by
  have h384 := hX.1
  have hI := li.2.2.2.2
  have hS := li.2.2.2.1
  obtain ⟨hr1, hr2⟩ := hr
  refine b_L_law_847 hX X 0 83 114 (nI i) h ⟨i + 1, nI_ad i 1, by omega, i + 2, nI_ad i 2, by omega, 40 + 1, _, 8, 64, l_tear hN li.1.o (x_tear (d := 40) hg (by omega) li.1.self hI.is (xs (i + 1)) (xs (i + 2))) (hl_kk (cd := cd2) li) (hl_N li (fun b e => by unfold m_tear at e; (repeat' split at e) <;> first | (cases e; rfl) | (cases e; done))), ⟨⟨by omega, by omega⟩, by omega, by omega⟩, fun v h1 q => ?_⟩
  obtain ⟨k, f, ek, RA1, ou, q2⟩ := id q
  rw [ek] at q
  refine ⟨k, ek, i + 1, nI_ad i 1, by omega, i + 2, nI_ad i 2, by omega, _, RA1.o, 40, _, 0, 0, r_tear (d := 40) hg (by omega) RA1 hI hS (xs (i + 1)) (xs (i + 2)), ⟨⟨by omega, by omega⟩, by omega, by omega⟩, fun v4 h4 w => ?_⟩
  obtain ⟨v6, ev, pm⟩ := pl_pm (by decide) hI (fun q e => iv_tear hI e) q w
  exact ⟨v6, ev, lw_tail hg ⟨by omega, by omega⟩ ⟨by omega, by omega⟩ pm (fun s2 x2 R2 l2 => b_L_law_912 hX X _ _ _ _ _ (kk _ _ _ _ l2))⟩
theorem lc_undo (hg : GOK g) (hO : GOW g) (hN : GOC g) (hX : SX g L xs) (X : CX g p s_ m_ args meth c cL_law 7 ⟨RL, nm, "([I)Z"⟩ (some .boolean) xt) (hr : 200 ≤ Rm.frames ∧ 13000 ≤ Rm.locals) (hk : kc + 8 ≤ Rm.cells ∧ ks + 64 ≤ Rm.slots) (hi : i + 6 ≤ L) (li : LI h s x R) (kk : ∀ h' s' x' R', LI h' s' x' R' → VV g p e Rm s_ m_ args below meth c 7 Q (kc + 8) (ks + 64) 2555 [some (.retAddr 100), some (.ref 0), some (.ref 83), some (.ref 114), some (.int (nI i)), none, none] [] h') : VV g p e Rm s_ m_ args below meth c 7 Q kc ks 915 [some (.retAddr 100), some (.ref 0), some (.ref 83), some (.ref 114), some (.int (nI i)), none, none] [] h := by
  have h384 := hX.1
  have hI := li.2.2.2.2
  have hS := li.2.2.2.1
  obtain ⟨hr1, hr2⟩ := hr
  refine b_L_law_915 hX X 0 83 114 (nI i) h ⟨_, li.1.o, 40, _, 8, 64, no_thr (m := m_undo s ) (fun b e => by unfold m_undo at e; (repeat' split at e) <;> cases e) (x_undo (d := 40) hg (by omega) li.1.self hI.is ), ⟨⟨by omega, by omega⟩, by omega, by omega⟩, fun v h1 q => ?_⟩
  obtain ⟨q1, x1, em, ev, c1, RA1, f, ou⟩ := pd_of li q
  have hq : IV q1.2 := (show ∀ q, m_undo s  = .inl q → IV q.2 from (fun q e => iv_undo hI e)) q1 em
  refine ⟨_, ev, _, RA1.o, 40, _, 0, 0, r_undo (d := 40) hg (by omega) RA1 hI hS , ⟨⟨by omega, by omega⟩, by omega, by omega⟩, fun v4 h4 w => ?_⟩
  rw [em] at w
  obtain ⟨e4, R4, l4⟩ := pd_li hq c1 RA1 ou w
  exact ⟨_, e4, fun _ => kk _ _ _ _ l4, fun y => absurd rfl y⟩
theorem lc_then (hg : GOK g) (hO : GOW g) (hN : GOC g) (hX : SX g L xs) (X : CX g p s_ m_ args meth c cL_law 7 ⟨RL, nm, "([I)Z"⟩ (some .boolean) xt) (hr : 200 ≤ Rm.frames ∧ 13000 ≤ Rm.locals) (hk : kc + 8 ≤ Rm.cells ∧ ks + 64 ≤ Rm.slots) (hi : i + 6 ≤ L) (li : LI h s x R) (kk : ∀ h' s' x' R', LI h' s' x' R' → VV g p e Rm s_ m_ args below meth c 7 Q (kc + 8) (ks + 64) 2555 [some (.retAddr 100), some (.ref 0), some (.ref 83), some (.ref 114), some (.int (nI i)), none, none] [] h') : VV g p e Rm s_ m_ args below meth c 7 Q kc ks 928 [some (.retAddr 100), some (.ref 0), some (.ref 83), some (.ref 114), some (.int (nI i)), none, none] [] h := by
  have h384 := hX.1
  have hI := li.2.2.2.2
  have hS := li.2.2.2.1
  obtain ⟨hr1, hr2⟩ := hr
  refine b_L_law_928 hX X 0 83 114 (nI i) h ⟨i + 1, nI_ad i 1, by omega, i + 2, nI_ad i 2, by omega, i + 3, nI_ad i 3, by omega, 40 + 1, _, 8, 64, l_then hN li.1.o (x_then (d := 40) hg (by omega) li.1.self hI.is (xs (i + 1)) (xs (i + 2)) (xs (i + 3))) (hl_kk (cd := cd2) li) (hl_2 li), ⟨⟨by omega, by omega⟩, by omega, by omega⟩, fun v h1 q => ?_⟩
  obtain ⟨k, f, ek, RA1, ou, q2⟩ := id q
  rw [ek] at q
  refine ⟨k, ek, i + 1, nI_ad i 1, by omega, i + 2, nI_ad i 2, by omega, i + 3, nI_ad i 3, by omega, _, RA1.o, 40, _, 0, 0, r_then (d := 40) hg (by omega) RA1 hI hS (xs (i + 1)) (xs (i + 2)) (xs (i + 3)), ⟨⟨by omega, by omega⟩, by omega, by omega⟩, fun v4 h4 w => ?_⟩
  obtain ⟨v6, ev, pm⟩ := pl_pm (by decide) hI (fun q e => by unfold m_then at e; (repeat' split at e) <;> first | (cases e; exact hI) | (cases e; done)) q w
  exact ⟨v6, ev, lw_tail hg ⟨by omega, by omega⟩ ⟨by omega, by omega⟩ pm (fun s2 x2 R2 l2 => b_L_law_1005 hX X _ _ _ _ _ (kk _ _ _ _ l2))⟩
theorem lc_later (hg : GOK g) (hO : GOW g) (hN : GOC g) (hX : SX g L xs) (X : CX g p s_ m_ args meth c cL_law 7 ⟨RL, nm, "([I)Z"⟩ (some .boolean) xt) (hr : 200 ≤ Rm.frames ∧ 13000 ≤ Rm.locals) (hk : kc + 8 ≤ Rm.cells ∧ ks + 64 ≤ Rm.slots) (hi : i + 6 ≤ L) (li : LI h s x R) (kk : ∀ h' s' x' R', LI h' s' x' R' → VV g p e Rm s_ m_ args below meth c 7 Q (kc + 8) (ks + 64) 2555 [some (.retAddr 100), some (.ref 0), some (.ref 83), some (.ref 114), some (.int (nI i)), none, none] [] h') : VV g p e Rm s_ m_ args below meth c 7 Q kc ks 1008 [some (.retAddr 100), some (.ref 0), some (.ref 83), some (.ref 114), some (.int (nI i)), none, none] [] h := by
  have h384 := hX.1
  have hI := li.2.2.2.2
  have hS := li.2.2.2.1
  obtain ⟨hr1, hr2⟩ := hr
  refine b_L_law_1008 hX X 0 83 114 (nI i) h ⟨i + 1, nI_ad i 1, by omega, i + 2, nI_ad i 2, by omega, 40 + 1, _, 8, 64, l_later hN li.1.o (x_later (d := 40) hg (by omega) li.1.self hI.is (xs (i + 1)) (xs (i + 2))) (hl_kk (cd := cd2) li) (hl_2 li), ⟨⟨by omega, by omega⟩, by omega, by omega⟩, fun v h1 q => ?_⟩
  obtain ⟨k, f, ek, RA1, ou, q2⟩ := id q
  rw [ek] at q
  refine ⟨k, ek, i + 1, nI_ad i 1, by omega, i + 2, nI_ad i 2, by omega, _, RA1.o, 40, _, 0, 0, r_later (d := 40) hg (by omega) RA1 hI hS (xs (i + 1)) (xs (i + 2)), ⟨⟨by omega, by omega⟩, by omega, by omega⟩, fun v4 h4 w => ?_⟩
  obtain ⟨v6, ev, pm⟩ := pl_pm (by decide) hI (fun q e => by unfold m_later at e; (repeat' split at e) <;> first | (cases e; exact hI) | (cases e; done)) q w
  exact ⟨v6, ev, lw_tail hg ⟨by omega, by omega⟩ ⟨by omega, by omega⟩ pm (fun s2 x2 R2 l2 => b_L_law_1073 hX X _ _ _ _ _ (kk _ _ _ _ l2))⟩
theorem lc_opens (hg : GOK g) (hO : GOW g) (hN : GOC g) (hX : SX g L xs) (X : CX g p s_ m_ args meth c cL_law 7 ⟨RL, nm, "([I)Z"⟩ (some .boolean) xt) (hr : 200 ≤ Rm.frames ∧ 13000 ≤ Rm.locals) (hk : kc + 8 ≤ Rm.cells ∧ ks + 64 ≤ Rm.slots) (hi : i + 6 ≤ L) (li : LI h s x R) (kk : ∀ h' s' x' R', LI h' s' x' R' → VV g p e Rm s_ m_ args below meth c 7 Q (kc + 8) (ks + 64) 2555 [some (.retAddr 100), some (.ref 0), some (.ref 83), some (.ref 114), some (.int (nI i)), none, none] [] h') : VV g p e Rm s_ m_ args below meth c 7 Q kc ks 1076 [some (.retAddr 100), some (.ref 0), some (.ref 83), some (.ref 114), some (.int (nI i)), none, none] [] h := by
  have h384 := hX.1
  have hI := li.2.2.2.2
  have hS := li.2.2.2.1
  obtain ⟨hr1, hr2⟩ := hr
  refine b_L_law_1076 hX X 0 83 114 (nI i) h ⟨i + 1, nI_ad i 1, by omega, 40 + 1, _, 8, 64, l_opens hN li.1.o (x_opens (d := 40) hg (by omega) li.1.self hI.is (xs (i + 1))) (hl_kk (cd := cd2) li) (hl_N li (fun b e => by unfold m_opens at e; (repeat' split at e) <;> first | (cases e; rfl) | (cases e; done))), ⟨⟨by omega, by omega⟩, by omega, by omega⟩, fun v h1 q => ?_⟩
  obtain ⟨k, f, ek, RA1, ou, q2⟩ := id q
  rw [ek] at q
  refine ⟨k, ek, i + 1, nI_ad i 1, by omega, _, RA1.o, 40, _, 0, 0, r_opens (d := 40) hg (by omega) RA1 hI hS (xs (i + 1)), ⟨⟨by omega, by omega⟩, by omega, by omega⟩, fun v4 h4 w => ?_⟩
  obtain ⟨v6, ev, pm⟩ := pl_pm (by decide) hI (fun q e => by unfold m_opens at e; (repeat' split at e) <;> first | (cases e; exact hI) | (cases e; done)) q w
  exact ⟨v6, ev, lw_tail hg ⟨by omega, by omega⟩ ⟨by omega, by omega⟩ pm (fun s2 x2 R2 l2 => b_L_law_1129 hX X _ _ _ _ _ (kk _ _ _ _ l2))⟩
theorem lc_first (hg : GOK g) (hO : GOW g) (hN : GOC g) (hX : SX g L xs) (X : CX g p s_ m_ args meth c cL_law 7 ⟨RL, nm, "([I)Z"⟩ (some .boolean) xt) (hr : 200 ≤ Rm.frames ∧ 13000 ≤ Rm.locals) (hk : kc + 8 ≤ Rm.cells ∧ ks + 64 ≤ Rm.slots) (hi : i + 6 ≤ L) (li : LI h s x R) (kk : ∀ h' s' x' R', LI h' s' x' R' → VV g p e Rm s_ m_ args below meth c 7 Q (kc + 8) (ks + 64) 2555 [some (.retAddr 100), some (.ref 0), some (.ref 83), some (.ref 114), some (.int (nI i)), none, none] [] h') : VV g p e Rm s_ m_ args below meth c 7 Q kc ks 1132 [some (.retAddr 100), some (.ref 0), some (.ref 83), some (.ref 114), some (.int (nI i)), none, none] [] h := by
  have h384 := hX.1
  have hI := li.2.2.2.2
  have hS := li.2.2.2.1
  obtain ⟨hr1, hr2⟩ := hr
  refine b_L_law_1132 hX X 0 83 114 (nI i) h ⟨_, li.1.o, 40, _, 8, 64, no_thr (m := m_first s ) (fun b e => by unfold m_first at e; (repeat' split at e) <;> cases e) (x_first (d := 40) hg (by omega) li.1.self hI.is ), ⟨⟨by omega, by omega⟩, by omega, by omega⟩, fun v h1 q => ?_⟩
  obtain ⟨q1, x1, em, ev, c1, RA1, f, ou⟩ := pd_of li q
  have hq : IV q1.2 := (show ∀ q, m_first s  = .inl q → IV q.2 from (fun q e => by unfold m_first at e; (repeat' split at e) <;> first | (cases e; exact hI) | (cases e; done))) q1 em
  refine ⟨_, ev, _, RA1.o, 40, _, 0, 0, r_first (d := 40) hg (by omega) RA1 hI hS , ⟨⟨by omega, by omega⟩, by omega, by omega⟩, fun v4 h4 w => ?_⟩
  rw [em] at w
  obtain ⟨e4, R4, l4⟩ := pd_li hq c1 RA1 ou w
  exact ⟨_, e4, fun _ => kk _ _ _ _ l4, fun y => absurd rfl y⟩
theorem lc_where (hg : GOK g) (hO : GOW g) (hN : GOC g) (hX : SX g L xs) (X : CX g p s_ m_ args meth c cL_law 7 ⟨RL, nm, "([I)Z"⟩ (some .boolean) xt) (hr : 200 ≤ Rm.frames ∧ 13000 ≤ Rm.locals) (hk : kc + 8 ≤ Rm.cells ∧ ks + 64 ≤ Rm.slots) (hi : i + 6 ≤ L) (li : LI h s x R) (kk : ∀ h' s' x' R', LI h' s' x' R' → VV g p e Rm s_ m_ args below meth c 7 Q (kc + 8) (ks + 64) 2555 [some (.retAddr 100), some (.ref 0), some (.ref 83), some (.ref 114), some (.int (nI i)), none, none] [] h') : VV g p e Rm s_ m_ args below meth c 7 Q kc ks 1145 [some (.retAddr 100), some (.ref 0), some (.ref 83), some (.ref 114), some (.int (nI i)), none, none] [] h := by
  have h384 := hX.1
  have hI := li.2.2.2.2
  have hS := li.2.2.2.1
  obtain ⟨hr1, hr2⟩ := hr
  refine b_L_law_1145 hX X 0 83 114 (nI i) h ⟨i + 1, nI_ad i 1, by omega, i + 2, nI_ad i 2, by omega, i + 3, nI_ad i 3, by omega, 40 + 1, _, 8, 64, l_where hN li.1.o (x_where (d := 40) hg (by omega) li.1.self hI.is (xs (i + 1)) (xs (i + 2)) (xs (i + 3))) (hl_kk (cd := cd2) li) (hl_2 li), ⟨⟨by omega, by omega⟩, by omega, by omega⟩, fun v h1 q => ?_⟩
  obtain ⟨k, f, ek, RA1, ou, q2⟩ := id q
  rw [ek] at q
  refine ⟨k, ek, i + 1, nI_ad i 1, by omega, i + 2, nI_ad i 2, by omega, i + 3, nI_ad i 3, by omega, _, RA1.o, 40, _, 0, 0, r_where (d := 40) hg (by omega) RA1 hI hS (xs (i + 1)) (xs (i + 2)) (xs (i + 3)), ⟨⟨by omega, by omega⟩, by omega, by omega⟩, fun v4 h4 w => ?_⟩
  obtain ⟨v6, ev, pm⟩ := pl_pm (by decide) hI (fun q e => by unfold m_where at e; (repeat' split at e) <;> first | (cases e; exact hI) | (cases e; done)) q w
  exact ⟨v6, ev, lw_tail hg ⟨by omega, by omega⟩ ⟨by omega, by omega⟩ pm (fun s2 x2 R2 l2 => b_L_law_1222 hX X _ _ _ _ _ (kk _ _ _ _ l2))⟩
theorem lc_spent (hg : GOK g) (hO : GOW g) (hN : GOC g) (hX : SX g L xs) (X : CX g p s_ m_ args meth c cL_law 7 ⟨RL, nm, "([I)Z"⟩ (some .boolean) xt) (hr : 200 ≤ Rm.frames ∧ 13000 ≤ Rm.locals) (hk : kc + 8 ≤ Rm.cells ∧ ks + 64 ≤ Rm.slots) (hi : i + 6 ≤ L) (li : LI h s x R) (kk : ∀ h' s' x' R', LI h' s' x' R' → VV g p e Rm s_ m_ args below meth c 7 Q (kc + 8) (ks + 64) 2555 [some (.retAddr 100), some (.ref 0), some (.ref 83), some (.ref 114), some (.int (nI i)), none, none] [] h') : VV g p e Rm s_ m_ args below meth c 7 Q kc ks 1225 [some (.retAddr 100), some (.ref 0), some (.ref 83), some (.ref 114), some (.int (nI i)), none, none] [] h := by
  have h384 := hX.1
  have hI := li.2.2.2.2
  have hS := li.2.2.2.1
  obtain ⟨hr1, hr2⟩ := hr
  refine b_L_law_1225 hX X 0 83 114 (nI i) h ⟨_, li.1.o, 40, _, 8, 64, no_thr (m := m_spent s ) (fun b e => by unfold m_spent at e; (repeat' split at e) <;> cases e) (x_spent (d := 40) hg (by omega) li.1.self hI.is ), ⟨⟨by omega, by omega⟩, by omega, by omega⟩, fun v h1 q => ?_⟩
  obtain ⟨q1, x1, em, ev, c1, RA1, f, ou⟩ := pd_of li q
  have hq : IV q1.2 := (show ∀ q, m_spent s  = .inl q → IV q.2 from (fun q e => by unfold m_spent at e; (repeat' split at e) <;> first | (cases e; exact hI) | (cases e; done))) q1 em
  refine ⟨_, ev, _, RA1.o, 40, _, 0, 0, r_spent (d := 40) hg (by omega) RA1 hI hS , ⟨⟨by omega, by omega⟩, by omega, by omega⟩, fun v4 h4 w => ?_⟩
  rw [em] at w
  obtain ⟨e4, R4, l4⟩ := pd_li hq c1 RA1 ou w
  exact ⟨_, e4, fun _ => kk _ _ _ _ l4, fun y => absurd rfl y⟩
theorem lc_toHold (hg : GOK g) (hO : GOW g) (hN : GOC g) (hX : SX g L xs) (X : CX g p s_ m_ args meth c cL_law 7 ⟨RL, nm, "([I)Z"⟩ (some .boolean) xt) (hr : 200 ≤ Rm.frames ∧ 13000 ≤ Rm.locals) (hk : kc + 8 ≤ Rm.cells ∧ ks + 64 ≤ Rm.slots) (hi : i + 6 ≤ L) (li : LI h s x R) (kk : ∀ h' s' x' R', LI h' s' x' R' → VV g p e Rm s_ m_ args below meth c 7 Q (kc + 8) (ks + 64) 2555 [some (.retAddr 100), some (.ref 0), some (.ref 83), some (.ref 114), some (.int (nI i)), none, none] [] h') : VV g p e Rm s_ m_ args below meth c 7 Q kc ks 1238 [some (.retAddr 100), some (.ref 0), some (.ref 83), some (.ref 114), some (.int (nI i)), none, none] [] h := by
  have h384 := hX.1
  have hI := li.2.2.2.2
  have hS := li.2.2.2.1
  obtain ⟨hr1, hr2⟩ := hr
  refine b_L_law_1238 hX X 0 83 114 (nI i) h ⟨i + 1, nI_ad i 1, by omega, i + 2, nI_ad i 2, by omega, 40 + 1, _, 8, 64, l_toHold hN li.1.o (x_toHold (d := 40) hg (by omega) li.1.self hI.is hI.lok.smok (xs (i + 1)) (xs (i + 2))) (hl_kk (cd := cd2) li) (hl_2 li), ⟨⟨by omega, by omega⟩, by omega, by omega⟩, fun v h1 q => ?_⟩
  obtain ⟨k, f, ek, RA1, ou, q2⟩ := id q
  rw [ek] at q
  refine ⟨k, ek, i + 1, nI_ad i 1, by omega, i + 2, nI_ad i 2, by omega, _, RA1.o, 40, _, 0, 0, r_toHold (d := 40) hg (by omega) RA1 hI hS (xs (i + 1)) (xs (i + 2)), ⟨⟨by omega, by omega⟩, by omega, by omega⟩, fun v4 h4 w => ?_⟩
  obtain ⟨v6, ev, pm⟩ := pl_pm (by decide) hI (fun q e => by unfold m_toHold at e; (repeat' split at e) <;> first | (cases e; exact hI) | (cases e; done)) q w
  exact ⟨v6, ev, lw_tail hg ⟨by omega, by omega⟩ ⟨by omega, by omega⟩ pm (fun s2 x2 R2 l2 => b_L_law_1303 hX X _ _ _ _ _ (kk _ _ _ _ l2))⟩
theorem lc_toSend (hg : GOK g) (hO : GOW g) (hN : GOC g) (hX : SX g L xs) (X : CX g p s_ m_ args meth c cL_law 7 ⟨RL, nm, "([I)Z"⟩ (some .boolean) xt) (hr : 200 ≤ Rm.frames ∧ 13000 ≤ Rm.locals) (hk : kc + 8 ≤ Rm.cells ∧ ks + 64 ≤ Rm.slots) (hi : i + 6 ≤ L) (li : LI h s x R) (kk : ∀ h' s' x' R', LI h' s' x' R' → VV g p e Rm s_ m_ args below meth c 7 Q (kc + 8) (ks + 64) 2555 [some (.retAddr 100), some (.ref 0), some (.ref 83), some (.ref 114), some (.int (nI i)), none, none] [] h') : VV g p e Rm s_ m_ args below meth c 7 Q kc ks 1306 [some (.retAddr 100), some (.ref 0), some (.ref 83), some (.ref 114), some (.int (nI i)), none, none] [] h := by
  have h384 := hX.1
  have hI := li.2.2.2.2
  have hS := li.2.2.2.1
  obtain ⟨hr1, hr2⟩ := hr
  refine b_L_law_1306 hX X 0 83 114 (nI i) h ⟨i + 1, nI_ad i 1, by omega, i + 2, nI_ad i 2, by omega, i + 3, nI_ad i 3, by omega, 40 + 1, _, 8, 64, l_toSend hN li.1.o (x_toSend (d := 40) hg (by omega) li.1.self hI.is (xs (i + 1)) (xs (i + 2)) (xs (i + 3))) (hl_kk (cd := cd2) li) (hl_2 li), ⟨⟨by omega, by omega⟩, by omega, by omega⟩, fun v h1 q => ?_⟩
  obtain ⟨k, f, ek, RA1, ou, q2⟩ := id q
  rw [ek] at q
  refine ⟨k, ek, i + 1, nI_ad i 1, by omega, i + 2, nI_ad i 2, by omega, i + 3, nI_ad i 3, by omega, _, RA1.o, 40, _, 0, 0, r_toSend (d := 40) hg (by omega) RA1 hI hS (xs (i + 1)) (xs (i + 2)) (xs (i + 3)), ⟨⟨by omega, by omega⟩, by omega, by omega⟩, fun v4 h4 w => ?_⟩
  obtain ⟨v6, ev, pm⟩ := pl_pm (by decide) hI (fun q e => by unfold m_toSend at e; (repeat' split at e) <;> first | (cases e; exact hI) | (cases e; done)) q w
  exact ⟨v6, ev, lw_tail hg ⟨by omega, by omega⟩ ⟨by omega, by omega⟩ pm (fun s2 x2 R2 l2 => b_L_law_1383 hX X _ _ _ _ _ (kk _ _ _ _ l2))⟩
theorem lc_bestStitch (hg : GOK g) (hO : GOW g) (hN : GOC g) (hX : SX g L xs) (X : CX g p s_ m_ args meth c cL_law 7 ⟨RL, nm, "([I)Z"⟩ (some .boolean) xt) (hr : 200 ≤ Rm.frames ∧ 13000 ≤ Rm.locals) (hk : kc + 8 ≤ Rm.cells ∧ ks + 64 ≤ Rm.slots) (hi : i + 6 ≤ L) (li : LI h s x R) (kk : ∀ h' s' x' R', LI h' s' x' R' → VV g p e Rm s_ m_ args below meth c 7 Q (kc + 8) (ks + 64) 2555 [some (.retAddr 100), some (.ref 0), some (.ref 83), some (.ref 114), some (.int (nI i)), none, none] [] h') : VV g p e Rm s_ m_ args below meth c 7 Q kc ks 1386 [some (.retAddr 100), some (.ref 0), some (.ref 83), some (.ref 114), some (.int (nI i)), none, none] [] h := by
  have h384 := hX.1
  have hI := li.2.2.2.2
  have hS := li.2.2.2.1
  obtain ⟨hr1, hr2⟩ := hr
  refine b_L_law_1386 hX X 0 83 114 (nI i) h ⟨i + 1, nI_ad i 1, by omega, i + 2, nI_ad i 2, by omega, 40 + 1, _, 8, 64, l_bestStitch hN li.1.o (x_bestStitch (d := 40) hg (by omega) li.1.self hI.is (xs (i + 1)) (xs (i + 2))) (hl_kk (cd := cd2) li) (hl_2 li), ⟨⟨by omega, by omega⟩, by omega, by omega⟩, fun v h1 q => ?_⟩
  obtain ⟨k, f, ek, RA1, ou, q2⟩ := id q
  rw [ek] at q
  refine ⟨k, ek, i + 1, nI_ad i 1, by omega, i + 2, nI_ad i 2, by omega, _, RA1.o, 40, _, 0, 0, r_bestStitch (d := 40) hg (by omega) RA1 hI hS (xs (i + 1)) (xs (i + 2)), ⟨⟨by omega, by omega⟩, by omega, by omega⟩, fun v4 h4 w => ?_⟩
  obtain ⟨v6, ev, pm⟩ := pl_pm (by decide) hI (fun q e => by unfold m_bestStitch at e; (repeat' split at e) <;> first | (cases e; exact hI) | (cases e; done)) q w
  exact ⟨v6, ev, lw_tail hg ⟨by omega, by omega⟩ ⟨by omega, by omega⟩ pm (fun s2 x2 R2 l2 => b_L_law_1451 hX X _ _ _ _ _ (kk _ _ _ _ l2))⟩
theorem lc_sent (hg : GOK g) (hO : GOW g) (hN : GOC g) (hX : SX g L xs) (X : CX g p s_ m_ args meth c cL_law 7 ⟨RL, nm, "([I)Z"⟩ (some .boolean) xt) (hr : 200 ≤ Rm.frames ∧ 13000 ≤ Rm.locals) (hk : kc + 8 ≤ Rm.cells ∧ ks + 64 ≤ Rm.slots) (hi : i + 6 ≤ L) (li : LI h s x R) (kk : ∀ h' s' x' R', LI h' s' x' R' → VV g p e Rm s_ m_ args below meth c 7 Q (kc + 8) (ks + 64) 2555 [some (.retAddr 100), some (.ref 0), some (.ref 83), some (.ref 114), some (.int (nI i)), none, none] [] h') : VV g p e Rm s_ m_ args below meth c 7 Q kc ks 1454 [some (.retAddr 100), some (.ref 0), some (.ref 83), some (.ref 114), some (.int (nI i)), none, none] [] h := by
  have h384 := hX.1
  have hI := li.2.2.2.2
  have hS := li.2.2.2.1
  obtain ⟨hr1, hr2⟩ := hr
  refine b_L_law_1454 hX X 0 83 114 (nI i) h ⟨i + 1, nI_ad i 1, by omega, i + 2, nI_ad i 2, by omega, 40 + 1, _, 8, 64, l_sent hN li.1.o (x_sent (d := 40) hg (by omega) li.1.self hI.is (xs (i + 1)) (xs (i + 2))) (hl_kk (cd := cd2) li) (hl_2 li), ⟨⟨by omega, by omega⟩, by omega, by omega⟩, fun v h1 q => ?_⟩
  obtain ⟨k, f, ek, RA1, ou, q2⟩ := id q
  rw [ek] at q
  refine ⟨k, ek, i + 1, nI_ad i 1, by omega, i + 2, nI_ad i 2, by omega, _, RA1.o, 40, _, 0, 0, r_sent (d := 40) hg (by omega) RA1 hI hS x (xs (i + 1)) (xs (i + 2)), ⟨⟨by omega, by omega⟩, by omega, by omega⟩, fun v4 h4 w => ?_⟩
  obtain ⟨v6, ev, pm⟩ := pl_pm (by decide) hI (fun q e => by unfold m_sent at e; (repeat' split at e) <;> first | (cases e; exact hI) | (cases e; done)) q w
  exact ⟨v6, ev, lw_tail hg ⟨by omega, by omega⟩ ⟨by omega, by omega⟩ pm (fun s2 x2 R2 l2 => b_L_law_1519 hX X _ _ _ _ _ (kk _ _ _ _ l2))⟩
theorem lc_closed (hg : GOK g) (hO : GOW g) (hN : GOC g) (hX : SX g L xs) (X : CX g p s_ m_ args meth c cL_law 7 ⟨RL, nm, "([I)Z"⟩ (some .boolean) xt) (hr : 200 ≤ Rm.frames ∧ 13000 ≤ Rm.locals) (hk : kc + 8 ≤ Rm.cells ∧ ks + 64 ≤ Rm.slots) (hi : i + 6 ≤ L) (li : LI h s x R) (kk : ∀ h' s' x' R', LI h' s' x' R' → VV g p e Rm s_ m_ args below meth c 7 Q (kc + 8) (ks + 64) 2555 [some (.retAddr 100), some (.ref 0), some (.ref 83), some (.ref 114), some (.int (nI i)), none, none] [] h') : VV g p e Rm s_ m_ args below meth c 7 Q kc ks 1522 [some (.retAddr 100), some (.ref 0), some (.ref 83), some (.ref 114), some (.int (nI i)), none, none] [] h := by
  have h384 := hX.1
  have hI := li.2.2.2.2
  have hS := li.2.2.2.1
  obtain ⟨hr1, hr2⟩ := hr
  refine b_L_law_1522 hX X 0 83 114 (nI i) h ⟨i + 1, nI_ad i 1, by omega, 40 + 1, _, 8, 64, l_closed hN li.1.o (x_closed (d := 40) hg (by omega) li.1.self hI.is (xs (i + 1))) (hl_kk (cd := cd2) li) (hl_N li (fun b e => by unfold m_closed at e; (repeat' split at e) <;> first | (cases e; rfl) | (cases e; done))), ⟨⟨by omega, by omega⟩, by omega, by omega⟩, fun v h1 q => ?_⟩
  obtain ⟨k, f, ek, RA1, ou, q2⟩ := id q
  rw [ek] at q
  refine ⟨k, ek, i + 1, nI_ad i 1, by omega, _, RA1.o, 40, _, 0, 0, r_closed (d := 40) hg (by omega) RA1 hI hS (xs (i + 1)), ⟨⟨by omega, by omega⟩, by omega, by omega⟩, fun v4 h4 w => ?_⟩
  obtain ⟨v6, ev, pm⟩ := pl_pm (by decide) hI (fun q e => by unfold m_closed at e; (repeat' split at e) <;> first | (cases e; exact hI) | (cases e; done)) q w
  exact ⟨v6, ev, lw_tail hg ⟨by omega, by omega⟩ ⟨by omega, by omega⟩ pm (fun s2 x2 R2 l2 => b_L_law_1575 hX X _ _ _ _ _ (kk _ _ _ _ l2))⟩
theorem lc_tight (hg : GOK g) (hO : GOW g) (hN : GOC g) (hX : SX g L xs) (X : CX g p s_ m_ args meth c cL_law 7 ⟨RL, nm, "([I)Z"⟩ (some .boolean) xt) (hr : 200 ≤ Rm.frames ∧ 13000 ≤ Rm.locals) (hk : kc + 8 ≤ Rm.cells ∧ ks + 64 ≤ Rm.slots) (hi : i + 6 ≤ L) (li : LI h s x R) (kk : ∀ h' s' x' R', LI h' s' x' R' → VV g p e Rm s_ m_ args below meth c 7 Q (kc + 8) (ks + 64) 2555 [some (.retAddr 100), some (.ref 0), some (.ref 83), some (.ref 114), some (.int (nI i)), none, none] [] h') : VV g p e Rm s_ m_ args below meth c 7 Q kc ks 1578 [some (.retAddr 100), some (.ref 0), some (.ref 83), some (.ref 114), some (.int (nI i)), none, none] [] h := by
  have h384 := hX.1
  have hI := li.2.2.2.2
  have hS := li.2.2.2.1
  obtain ⟨hr1, hr2⟩ := hr
  refine b_L_law_1578 hX X 0 83 114 (nI i) h ⟨i + 1, nI_ad i 1, by omega, i + 2, nI_ad i 2, by omega, 40 + 1, _, 8, 64, l_tight hN li.1.o (x_tight (d := 40) hg (by omega) li.1.self hI.is (xs (i + 1)) (xs (i + 2))) (hl_kk (cd := cd2) li) (hl_2 li), ⟨⟨by omega, by omega⟩, by omega, by omega⟩, fun v h1 q => ?_⟩
  obtain ⟨k, f, ek, RA1, ou, q2⟩ := id q
  rw [ek] at q
  refine ⟨k, ek, i + 1, nI_ad i 1, by omega, i + 2, nI_ad i 2, by omega, _, RA1.o, 40, _, 0, 0, r_tight (d := 40) hg (by omega) RA1 hI hS (xs (i + 1)) (xs (i + 2)), ⟨⟨by omega, by omega⟩, by omega, by omega⟩, fun v4 h4 w => ?_⟩
  obtain ⟨v6, ev, pm⟩ := pl_pm (by decide) hI (fun q e => by unfold m_tight at e; (repeat' split at e) <;> first | (cases e; exact hI) | (cases e; done)) q w
  exact ⟨v6, ev, lw_tail hg ⟨by omega, by omega⟩ ⟨by omega, by omega⟩ pm (fun s2 x2 R2 l2 => b_L_law_1643 hX X _ _ _ _ _ (kk _ _ _ _ l2))⟩
theorem lc_readings (hg : GOK g) (hO : GOW g) (hN : GOC g) (hX : SX g L xs) (X : CX g p s_ m_ args meth c cL_law 7 ⟨RL, nm, "([I)Z"⟩ (some .boolean) xt) (hr : 200 ≤ Rm.frames ∧ 13000 ≤ Rm.locals) (hk : kc + 8 ≤ Rm.cells ∧ ks + 64 ≤ Rm.slots) (hi : i + 6 ≤ L) (li : LI h s x R) (kk : ∀ h' s' x' R', LI h' s' x' R' → VV g p e Rm s_ m_ args below meth c 7 Q (kc + 8) (ks + 64) 2555 [some (.retAddr 100), some (.ref 0), some (.ref 83), some (.ref 114), some (.int (nI i)), none, none] [] h') : VV g p e Rm s_ m_ args below meth c 7 Q kc ks 1646 [some (.retAddr 100), some (.ref 0), some (.ref 83), some (.ref 114), some (.int (nI i)), none, none] [] h := by
  have h384 := hX.1
  have hI := li.2.2.2.2
  have hS := li.2.2.2.1
  obtain ⟨hr1, hr2⟩ := hr
  obtain ⟨mm, kn⟩ := hI.kn
  refine b_L_law_1646 hX X 0 83 114 (nI i) h ⟨i + 1, nI_ad i 1, by omega, i + 2, nI_ad i 2, by omega, 40 + 1, _, 8, 64, l_readings hN li.1.o (x_readings (d := 40) hg (by omega) li.1.self kn.1 (xs (i + 1)) (xs (i + 2))) (hl_kk (cd := cd2) li) (hl_2 li), ⟨⟨by omega, by omega⟩, by omega, by omega⟩, fun v h1 q => ?_⟩
  obtain ⟨k, f, ek, RA1, ou, q2⟩ := id q
  rw [ek] at q
  refine ⟨k, ek, i + 1, nI_ad i 1, by omega, i + 2, nI_ad i 2, by omega, _, RA1.o, 40, _, 0, 0, r_readings (d := 40) hg (by omega) RA1 hI hS kn x (xs (i + 1)) (xs (i + 2)), ⟨⟨by omega, by omega⟩, by omega, by omega⟩, fun v4 h4 w => ?_⟩
  obtain ⟨v6, ev, pm⟩ := pl_pm (by decide) hI (fun q e => by unfold m_readings at e; (repeat' split at e) <;> first | (cases e; exact hI) | (cases e; done)) q w
  exact ⟨v6, ev, lw_tail hg ⟨by omega, by omega⟩ ⟨by omega, by omega⟩ pm (fun s2 x2 R2 l2 => b_L_law_1711 hX X _ _ _ _ _ (kk _ _ _ _ l2))⟩
theorem lc_see (hg : GOK g) (hO : GOW g) (hN : GOC g) (hX : SX g L xs) (X : CX g p s_ m_ args meth c cL_law 7 ⟨RL, nm, "([I)Z"⟩ (some .boolean) xt) (hr : 200 ≤ Rm.frames ∧ 13000 ≤ Rm.locals) (hk : kc + 8 ≤ Rm.cells ∧ ks + 64 ≤ Rm.slots) (hi : i + 6 ≤ L) (li : LI h s x R) (kk : ∀ h' s' x' R', LI h' s' x' R' → VV g p e Rm s_ m_ args below meth c 7 Q (kc + 8) (ks + 64) 2555 [some (.retAddr 100), some (.ref 0), some (.ref 83), some (.ref 114), some (.int (nI i)), none, none] [] h') : VV g p e Rm s_ m_ args below meth c 7 Q kc ks 1714 [some (.retAddr 100), some (.ref 0), some (.ref 83), some (.ref 114), some (.int (nI i)), none, none] [] h := by
  have h384 := hX.1
  have hI := li.2.2.2.2
  have hS := li.2.2.2.1
  obtain ⟨hr1, hr2⟩ := hr
  refine b_L_law_1714 hX X 0 83 114 (nI i) h ⟨i + 1, nI_ad i 1, by omega, i + 2, nI_ad i 2, by omega, i + 3, nI_ad i 3, by omega, 40 + 1, _, 8, 64, l_see hN li.1.o (x_see (d := 40) hg (by omega) li.1.self hI.is (xs (i + 1)) (xs (i + 2)) (xs (i + 3))) (hl_kk (cd := cd2) li) (hl_N li (fun b e => by unfold m_see at e; (repeat' split at e) <;> first | (cases e; rfl) | (cases e; done))), ⟨⟨by omega, by omega⟩, by omega, by omega⟩, fun v h1 q => ?_⟩
  obtain ⟨k, f, ek, RA1, ou, q2⟩ := id q
  rw [ek] at q
  refine ⟨k, ek, i + 1, nI_ad i 1, by omega, i + 2, nI_ad i 2, by omega, i + 3, nI_ad i 3, by omega, _, RA1.o, 40, _, 0, 0, r_see (d := 40) hg (by omega) RA1 hI hS (xs (i + 1)) (xs (i + 2)) (xs (i + 3)), ⟨⟨by omega, by omega⟩, by omega, by omega⟩, fun v4 h4 w => ?_⟩
  obtain ⟨v6, ev, pm⟩ := pl_pm (by decide) hI (fun q e => iv_see hI e) q w
  exact ⟨v6, ev, lw_tail hg ⟨by omega, by omega⟩ ⟨by omega, by omega⟩ pm (fun s2 x2 R2 l2 => b_L_law_1791 hX X _ _ _ _ _ (kk _ _ _ _ l2))⟩
theorem lc_forget (hg : GOK g) (hO : GOW g) (hN : GOC g) (hX : SX g L xs) (X : CX g p s_ m_ args meth c cL_law 7 ⟨RL, nm, "([I)Z"⟩ (some .boolean) xt) (hr : 200 ≤ Rm.frames ∧ 13000 ≤ Rm.locals) (hk : kc + 8 ≤ Rm.cells ∧ ks + 64 ≤ Rm.slots) (hi : i + 6 ≤ L) (li : LI h s x R) (kk : ∀ h' s' x' R', LI h' s' x' R' → VV g p e Rm s_ m_ args below meth c 7 Q (kc + 8) (ks + 64) 2555 [some (.retAddr 100), some (.ref 0), some (.ref 83), some (.ref 114), some (.int (nI i)), none, none] [] h') : VV g p e Rm s_ m_ args below meth c 7 Q kc ks 1794 [some (.retAddr 100), some (.ref 0), some (.ref 83), some (.ref 114), some (.int (nI i)), none, none] [] h := by
  have h384 := hX.1
  have hI := li.2.2.2.2
  have hS := li.2.2.2.1
  obtain ⟨hr1, hr2⟩ := hr
  refine b_L_law_1794 hX X 0 83 114 (nI i) h ⟨_, li.1.o, 40, _, 8, 64, x_forget (d := 40) hg (by omega) li.1.self , ⟨⟨by omega, by omega⟩, by omega, by omega⟩, fun v h1 q => ⟨q.1, ?_⟩⟩
  obtain ⟨_, x1, c1⟩ := q
  obtain ⟨_, ra, ⟨f, ou⟩, _, _⟩ := li
  have RA1 := fr_ra c1.fr ra
  refine ⟨_, RA1.o, 40, _, 0, 0, r_forget (d := 40) hg (by omega) RA1 hI hS, ⟨⟨by omega, by omega⟩, by omega, by omega⟩, fun v4 h4 w => ⟨w.1, ?_⟩⟩
  obtain ⟨_, R4, e4, rs4⟩ := w
  rw [e4]
  exact kk _ _ x1 R4 ⟨ca_pR c1.nil, RA1.put R4, ⟨f, ou_pR (fr_ou c1.fr ou)⟩, rs4, iv_forget hI⟩
theorem lc_torn (hg : GOK g) (hO : GOW g) (hN : GOC g) (hX : SX g L xs) (X : CX g p s_ m_ args meth c cL_law 7 ⟨RL, nm, "([I)Z"⟩ (some .boolean) xt) (hr : 200 ≤ Rm.frames ∧ 13000 ≤ Rm.locals) (hk : kc + 8 ≤ Rm.cells ∧ ks + 64 ≤ Rm.slots) (hi : i + 6 ≤ L) (li : LI h s x R) (kk : ∀ h' s' x' R', LI h' s' x' R' → VV g p e Rm s_ m_ args below meth c 7 Q (kc + 8) (ks + 64) 2555 [some (.retAddr 100), some (.ref 0), some (.ref 83), some (.ref 114), some (.int (nI i)), none, none] [] h') : VV g p e Rm s_ m_ args below meth c 7 Q kc ks 1805 [some (.retAddr 100), some (.ref 0), some (.ref 83), some (.ref 114), some (.int (nI i)), none, none] [] h := by
  have h384 := hX.1
  have hI := li.2.2.2.2
  have hS := li.2.2.2.1
  obtain ⟨hr1, hr2⟩ := hr
  refine b_L_law_1805 hX X 0 83 114 (nI i) h ⟨i + 1, nI_ad i 1, by omega, 40 + 1, _, 8, 64, l_torn hN li.1.o (x_torn (d := 40) hg (by omega) li.1.self hI.is hI.lok.smok hI.se.2 (xs (i + 1))) (hl_kk (cd := cd2) li) (hl_N li (fun b e => by unfold m_torn at e; (repeat' split at e) <;> first | (cases e; rfl) | (cases e; done))), ⟨⟨by omega, by omega⟩, by omega, by omega⟩, fun v h1 q => ?_⟩
  obtain ⟨k, f, ek, RA1, ou, q2⟩ := id q
  rw [ek] at q
  refine ⟨k, ek, i + 1, nI_ad i 1, by omega, _, RA1.o, 40, _, 0, 0, r_torn (d := 40) hg (by omega) RA1 hI hS (xs (i + 1)), ⟨⟨by omega, by omega⟩, by omega, by omega⟩, fun v4 h4 w => ?_⟩
  obtain ⟨v6, ev, pm⟩ := pl_pm (by decide) hI (fun q e => by unfold m_torn at e; (repeat' split at e) <;> first | (cases e; exact hI) | (cases e; done)) q w
  exact ⟨v6, ev, lw_tail hg ⟨by omega, by omega⟩ ⟨by omega, by omega⟩ pm (fun s2 x2 R2 l2 => b_L_law_1858 hX X _ _ _ _ _ (kk _ _ _ _ l2))⟩
theorem lc_look (hg : GOK g) (hO : GOW g) (hN : GOC g) (hX : SX g L xs) (X : CX g p s_ m_ args meth c cL_law 7 ⟨RL, nm, "([I)Z"⟩ (some .boolean) xt) (hr : 200 ≤ Rm.frames ∧ 13000 ≤ Rm.locals) (hk : kc + 8 ≤ Rm.cells ∧ ks + 64 ≤ Rm.slots) (hi : i + 6 ≤ L) (li : LI h s x R) (kk : ∀ h' s' x' R', LI h' s' x' R' → VV g p e Rm s_ m_ args below meth c 7 Q (kc + 8) (ks + 64) 2555 [some (.retAddr 100), some (.ref 0), some (.ref 83), some (.ref 114), some (.int (nI i)), none, none] [] h') : VV g p e Rm s_ m_ args below meth c 7 Q kc ks 1861 [some (.retAddr 100), some (.ref 0), some (.ref 83), some (.ref 114), some (.int (nI i)), none, none] [] h := by
  have h384 := hX.1
  have hI := li.2.2.2.2
  have hS := li.2.2.2.1
  obtain ⟨hr1, hr2⟩ := hr
  refine b_L_law_1861 hX X 0 83 114 (nI i) h ⟨i + 1, nI_ad i 1, by omega, 40 + 1, _, 8, 64, l_look hN li.1.o (x_look (d := 40) hg (by omega) li.1.self hI.is hI.lok.smok hI.se.2 (xs (i + 1))) (hl_kk (cd := cd2) li) (hl_N li (fun b e => by unfold m_look at e; (repeat' split at e) <;> first | (cases e; rfl) | (cases e; done))), ⟨⟨by omega, by omega⟩, by omega, by omega⟩, fun v h1 q => ?_⟩
  obtain ⟨k, f, ek, RA1, ou, q2⟩ := id q
  rw [ek] at q
  refine ⟨k, ek, i + 1, nI_ad i 1, by omega, _, RA1.o, 40, _, 0, 0, r_look (d := 40) hg (by omega) RA1 hI hS (xs (i + 1)), ⟨⟨by omega, by omega⟩, by omega, by omega⟩, fun v4 h4 w => ?_⟩
  obtain ⟨v6, ev, pm⟩ := pl_pm (by decide) hI (fun q e => by unfold m_look at e; (repeat' split at e) <;> first | (cases e; exact hI) | (cases e; done)) q w
  exact ⟨v6, ev, lw_tail hg ⟨by omega, by omega⟩ ⟨by omega, by omega⟩ pm (fun s2 x2 R2 l2 => b_L_law_1914 hX X _ _ _ _ _ (kk _ _ _ _ l2))⟩
theorem lc_gales (hg : GOK g) (hO : GOW g) (hN : GOC g) (hX : SX g L xs) (X : CX g p s_ m_ args meth c cL_law 7 ⟨RL, nm, "([I)Z"⟩ (some .boolean) xt) (hr : 200 ≤ Rm.frames ∧ 13000 ≤ Rm.locals) (hk : kc + 8 ≤ Rm.cells ∧ ks + 64 ≤ Rm.slots) (hi : i + 6 ≤ L) (li : LI h s x R) (kk : ∀ h' s' x' R', LI h' s' x' R' → VV g p e Rm s_ m_ args below meth c 7 Q (kc + 8) (ks + 64) 2555 [some (.retAddr 100), some (.ref 0), some (.ref 83), some (.ref 114), some (.int (nI i)), none, none] [] h') : VV g p e Rm s_ m_ args below meth c 7 Q kc ks 1917 [some (.retAddr 100), some (.ref 0), some (.ref 83), some (.ref 114), some (.int (nI i)), none, none] [] h := by
  have h384 := hX.1
  have hI := li.2.2.2.2
  have hS := li.2.2.2.1
  obtain ⟨hr1, hr2⟩ := hr
  refine b_L_law_1917 hX X 0 83 114 (nI i) h ⟨i + 1, nI_ad i 1, by omega, i + 2, nI_ad i 2, by omega, 40 + 1, _, 8, 64, l_gales hN li.1.o (x_gales (d := 40) hg (by omega) li.1.self hI.is (xs (i + 1)) (xs (i + 2))) (hl_kk (cd := cd1) li) (hl_I li (fun b e => by unfold m_gales at e; (repeat' split at e) <;> first | (cases e; rfl) | (cases e; done))), ⟨⟨by omega, by omega⟩, by omega, by omega⟩, fun v h1 q => ?_⟩
  obtain ⟨k, f, ek, RA1, ou, q2⟩ := id q
  rw [ek] at q
  refine ⟨k, ek, i + 1, nI_ad i 1, by omega, i + 2, nI_ad i 2, by omega, _, RA1.o, 40, _, 0, 0, r_gales (d := 40) hg (by omega) RA1 hI hS (xs (i + 1)) (xs (i + 2)), ⟨⟨by omega, by omega⟩, by omega, by omega⟩, fun v4 h4 w => ?_⟩
  obtain ⟨v6, ev, pm⟩ := pl_pm (by decide) hI (fun q e => by unfold m_gales at e; (repeat' split at e) <;> first | (cases e; exact hI) | (cases e; done)) q w
  exact ⟨v6, ev, lw_tail hg ⟨by omega, by omega⟩ ⟨by omega, by omega⟩ pm (fun s2 x2 R2 l2 => b_L_law_1982 hX X _ _ _ _ _ (kk _ _ _ _ l2))⟩
theorem lc_game (hg : GOK g) (hO : GOW g) (hN : GOC g) (hX : SX g L xs) (X : CX g p s_ m_ args meth c cL_law 7 ⟨RL, nm, "([I)Z"⟩ (some .boolean) xt) (hr : 200 ≤ Rm.frames ∧ 13000 ≤ Rm.locals) (hk : kc + 8 ≤ Rm.cells ∧ ks + 64 ≤ Rm.slots) (hi : i + 6 ≤ L) (li : LI h s x R) (kk : ∀ h' s' x' R', LI h' s' x' R' → VV g p e Rm s_ m_ args below meth c 7 Q (kc + 8) (ks + 64) 2555 [some (.retAddr 100), some (.ref 0), some (.ref 83), some (.ref 114), some (.int (nI i)), none, none] [] h') : VV g p e Rm s_ m_ args below meth c 7 Q kc ks 1985 [some (.retAddr 100), some (.ref 0), some (.ref 83), some (.ref 114), some (.int (nI i)), none, none] [] h := by
  have h384 := hX.1
  have hI := li.2.2.2.2
  have hS := li.2.2.2.1
  obtain ⟨hr1, hr2⟩ := hr
  refine b_L_law_1985 hX X 0 83 114 (nI i) h ⟨i + 1, nI_ad i 1, by omega, i + 2, nI_ad i 2, by omega, i + 3, nI_ad i 3, by omega, 40 + 1, _, 8, 64, l_game hN li.1.o (x_game (d := 40) hg (by omega) li.1.self hI.is (xs (i + 1)) (xs (i + 2)) (xs (i + 3))) (hl_kk (cd := cd2) li) (hl_2 li), ⟨⟨by omega, by omega⟩, by omega, by omega⟩, fun v h1 q => ?_⟩
  obtain ⟨k, f, ek, RA1, ou, q2⟩ := id q
  rw [ek] at q
  refine ⟨k, ek, i + 1, nI_ad i 1, by omega, i + 2, nI_ad i 2, by omega, i + 3, nI_ad i 3, by omega, _, RA1.o, 40, _, 0, 0, r_game (d := 40) hg (by omega) RA1 hI hS (xs (i + 1)) (xs (i + 2)) (xs (i + 3)), ⟨⟨by omega, by omega⟩, by omega, by omega⟩, fun v4 h4 w => ?_⟩
  obtain ⟨v6, ev, pm⟩ := pl_pm (by decide) hI (fun q e => by unfold m_game at e; (repeat' split at e) <;> first | (cases e; exact hI) | (cases e; done)) q w
  exact ⟨v6, ev, lw_tail hg ⟨by omega, by omega⟩ ⟨by omega, by omega⟩ pm (fun s2 x2 R2 l2 => b_L_law_2062 hX X _ _ _ _ _ (kk _ _ _ _ l2))⟩
theorem lc_years (hg : GOK g) (hO : GOW g) (hN : GOC g) (hX : SX g L xs) (X : CX g p s_ m_ args meth c cL_law 7 ⟨RL, nm, "([I)Z"⟩ (some .boolean) xt) (hr : 200 ≤ Rm.frames ∧ 13000 ≤ Rm.locals) (hk : kc + 8 ≤ Rm.cells ∧ ks + 64 ≤ Rm.slots) (hi : i + 6 ≤ L) (li : LI h s x R) (kk : ∀ h' s' x' R', LI h' s' x' R' → VV g p e Rm s_ m_ args below meth c 7 Q (kc + 8) (ks + 64) 2555 [some (.retAddr 100), some (.ref 0), some (.ref 83), some (.ref 114), some (.int (nI i)), none, none] [] h') : VV g p e Rm s_ m_ args below meth c 7 Q kc ks 2065 [some (.retAddr 100), some (.ref 0), some (.ref 83), some (.ref 114), some (.int (nI i)), none, none] [] h := by
  have h384 := hX.1
  have hI := li.2.2.2.2
  have hS := li.2.2.2.1
  obtain ⟨hr1, hr2⟩ := hr
  refine b_L_law_2065 hX X 0 83 114 (nI i) h ⟨i + 1, nI_ad i 1, by omega, i + 2, nI_ad i 2, by omega, i + 3, nI_ad i 3, by omega, 40 + 1, _, 8, 64, l_years hN li.1.o (x_years (d := 40) hg (by omega) li.1.self hI.is (xs (i + 1)) (xs (i + 2)) (xs (i + 3))) (hl_kk (cd := cd2) li) (hl_2 li), ⟨⟨by omega, by omega⟩, by omega, by omega⟩, fun v h1 q => ?_⟩
  obtain ⟨k, f, ek, RA1, ou, q2⟩ := id q
  rw [ek] at q
  refine ⟨k, ek, i + 1, nI_ad i 1, by omega, i + 2, nI_ad i 2, by omega, i + 3, nI_ad i 3, by omega, _, RA1.o, 40, _, 0, 0, r_years (d := 40) hg (by omega) RA1 hI hS (xs (i + 1)) (xs (i + 2)) (xs (i + 3)), ⟨⟨by omega, by omega⟩, by omega, by omega⟩, fun v4 h4 w => ?_⟩
  obtain ⟨v6, ev, pm⟩ := pl_pm (by decide) hI (fun q e => by unfold m_years at e; (repeat' split at e) <;> first | (cases e; exact hI) | (cases e; done)) q w
  exact ⟨v6, ev, lw_tail hg ⟨by omega, by omega⟩ ⟨by omega, by omega⟩ pm (fun s2 x2 R2 l2 => b_L_law_2142 hX X _ _ _ _ _ (kk _ _ _ _ l2))⟩
theorem lc_steady (hg : GOK g) (hO : GOW g) (hN : GOC g) (hX : SX g L xs) (X : CX g p s_ m_ args meth c cL_law 7 ⟨RL, nm, "([I)Z"⟩ (some .boolean) xt) (hr : 200 ≤ Rm.frames ∧ 13000 ≤ Rm.locals) (hk : kc + 8 ≤ Rm.cells ∧ ks + 64 ≤ Rm.slots) (hi : i + 6 ≤ L) (li : LI h s x R) (kk : ∀ h' s' x' R', LI h' s' x' R' → VV g p e Rm s_ m_ args below meth c 7 Q (kc + 8) (ks + 64) 2555 [some (.retAddr 100), some (.ref 0), some (.ref 83), some (.ref 114), some (.int (nI i)), none, none] [] h') : VV g p e Rm s_ m_ args below meth c 7 Q kc ks 2145 [some (.retAddr 100), some (.ref 0), some (.ref 83), some (.ref 114), some (.int (nI i)), none, none] [] h := by
  have h384 := hX.1
  have hI := li.2.2.2.2
  have hS := li.2.2.2.1
  obtain ⟨hr1, hr2⟩ := hr
  refine b_L_law_2145 hX X 0 83 114 (nI i) h ⟨_, li.1.o, 40, _, 8, 64, no_thr (m := m_steady s ) (fun b e => by unfold m_steady at e; (repeat' split at e) <;> cases e) (x_steady (d := 40) hg (by omega) li.1.self hI.is ), ⟨⟨by omega, by omega⟩, by omega, by omega⟩, fun v h1 q => ?_⟩
  obtain ⟨q1, x1, em, ev, c1, RA1, f, ou⟩ := pd_of li q
  have hq : IV q1.2 := (show ∀ q, m_steady s  = .inl q → IV q.2 from (fun q e => by unfold m_steady at e; (repeat' split at e) <;> first | (cases e; exact hI) | (cases e; done))) q1 em
  refine ⟨_, ev, _, RA1.o, 40, _, 0, 0, r_steady (d := 40) hg (by omega) RA1 hI hS , ⟨⟨by omega, by omega⟩, by omega, by omega⟩, fun v4 h4 w => ?_⟩
  rw [em] at w
  obtain ⟨e4, R4, l4⟩ := pd_li hq c1 RA1 ou w
  exact ⟨_, e4, fun _ => kk _ _ _ _ l4, fun y => absurd rfl y⟩
theorem lc_nearest (hg : GOK g) (hO : GOW g) (hN : GOC g) (hX : SX g L xs) (X : CX g p s_ m_ args meth c cL_law 7 ⟨RL, nm, "([I)Z"⟩ (some .boolean) xt) (hr : 200 ≤ Rm.frames ∧ 13000 ≤ Rm.locals) (hk : kc + 8 ≤ Rm.cells ∧ ks + 64 ≤ Rm.slots) (hi : i + 6 ≤ L) (li : LI h s x R) (kk : ∀ h' s' x' R', LI h' s' x' R' → VV g p e Rm s_ m_ args below meth c 7 Q (kc + 8) (ks + 64) 2555 [some (.retAddr 100), some (.ref 0), some (.ref 83), some (.ref 114), some (.int (nI i)), none, none] [] h') : VV g p e Rm s_ m_ args below meth c 7 Q kc ks 2158 [some (.retAddr 100), some (.ref 0), some (.ref 83), some (.ref 114), some (.int (nI i)), none, none] [] h := by
  have h384 := hX.1
  have hI := li.2.2.2.2
  have hS := li.2.2.2.1
  obtain ⟨hr1, hr2⟩ := hr
  refine b_L_law_2158 hX X 0 83 114 (nI i) h ⟨i + 1, nI_ad i 1, by omega, 40 + 1, _, 8, 64, l_nearest hN li.1.o (x_nearest (d := 40) hg (by omega) li.1.self hI.is (xs (i + 1))) (hl_kk (cd := cd2) li) (hl_N li (fun b e => by unfold m_nearest at e; (repeat' split at e) <;> first | (cases e; rfl) | (cases e; done))), ⟨⟨by omega, by omega⟩, by omega, by omega⟩, fun v h1 q => ?_⟩
  obtain ⟨k, f, ek, RA1, ou, q2⟩ := id q
  rw [ek] at q
  refine ⟨k, ek, i + 1, nI_ad i 1, by omega, _, RA1.o, 40, _, 0, 0, r_nearest (d := 40) hg (by omega) RA1 hI hS (xs (i + 1)), ⟨⟨by omega, by omega⟩, by omega, by omega⟩, fun v4 h4 w => ?_⟩
  obtain ⟨v6, ev, pm⟩ := pl_pm (by decide) hI (fun q e => by unfold m_nearest at e; (repeat' split at e) <;> first | (cases e; exact hI) | (cases e; done)) q w
  exact ⟨v6, ev, lw_tail hg ⟨by omega, by omega⟩ ⟨by omega, by omega⟩ pm (fun s2 x2 R2 l2 => b_L_law_2211 hX X _ _ _ _ _ (kk _ _ _ _ l2))⟩
theorem lc_far (hg : GOK g) (hO : GOW g) (hN : GOC g) (hX : SX g L xs) (X : CX g p s_ m_ args meth c cL_law 7 ⟨RL, nm, "([I)Z"⟩ (some .boolean) xt) (hr : 200 ≤ Rm.frames ∧ 13000 ≤ Rm.locals) (hk : kc + 8 ≤ Rm.cells ∧ ks + 64 ≤ Rm.slots) (hi : i + 6 ≤ L) (li : LI h s x R) (kk : ∀ h' s' x' R', LI h' s' x' R' → VV g p e Rm s_ m_ args below meth c 7 Q (kc + 8) (ks + 64) 2555 [some (.retAddr 100), some (.ref 0), some (.ref 83), some (.ref 114), some (.int (nI i)), none, none] [] h') : VV g p e Rm s_ m_ args below meth c 7 Q kc ks 2214 [some (.retAddr 100), some (.ref 0), some (.ref 83), some (.ref 114), some (.int (nI i)), none, none] [] h := by
  have h384 := hX.1
  have hI := li.2.2.2.2
  have hS := li.2.2.2.1
  obtain ⟨hr1, hr2⟩ := hr
  refine b_L_law_2214 hX X 0 83 114 (nI i) h ⟨i + 1, nI_ad i 1, by omega, i + 2, nI_ad i 2, by omega, 40 + 1, _, 8, 64, l_far hN li.1.o (x_far (d := 40) hg (by omega) li.1.self (xs (i + 1)) (xs (i + 2))) (hl_kk (cd := cd2) li) (hl_N li (fun b e => by unfold m_far at e; (repeat' split at e) <;> first | (cases e; rfl) | (cases e; done))), ⟨⟨by omega, by omega⟩, by omega, by omega⟩, fun v h1 q => ?_⟩
  obtain ⟨k, f, ek, RA1, ou, q2⟩ := id q
  rw [ek] at q
  refine ⟨k, ek, i + 1, nI_ad i 1, by omega, i + 2, nI_ad i 2, by omega, _, RA1.o, 40, _, 0, 0, r_far (d := 40) hg (by omega) RA1 hI hS (xs (i + 1)) (xs (i + 2)), ⟨⟨by omega, by omega⟩, by omega, by omega⟩, fun v4 h4 w => ?_⟩
  obtain ⟨v6, ev, pm⟩ := pl_pm (by decide) hI (fun q e => by unfold m_far at e; (repeat' split at e) <;> first | (cases e; exact hI) | (cases e; done)) q w
  exact ⟨v6, ev, lw_tail hg ⟨by omega, by omega⟩ ⟨by omega, by omega⟩ pm (fun s2 x2 R2 l2 => b_L_law_2279 hX X _ _ _ _ _ (kk _ _ _ _ l2))⟩
theorem lc_gaps (hg : GOK g) (hO : GOW g) (hN : GOC g) (hX : SX g L xs) (X : CX g p s_ m_ args meth c cL_law 7 ⟨RL, nm, "([I)Z"⟩ (some .boolean) xt) (hr : 200 ≤ Rm.frames ∧ 13000 ≤ Rm.locals) (hk : kc + 8 ≤ Rm.cells ∧ ks + 64 ≤ Rm.slots) (hi : i + 6 ≤ L) (li : LI h s x R) (kk : ∀ h' s' x' R', LI h' s' x' R' → VV g p e Rm s_ m_ args below meth c 7 Q (kc + 8) (ks + 64) 2555 [some (.retAddr 100), some (.ref 0), some (.ref 83), some (.ref 114), some (.int (nI i)), none, none] [] h') : VV g p e Rm s_ m_ args below meth c 7 Q kc ks 2282 [some (.retAddr 100), some (.ref 0), some (.ref 83), some (.ref 114), some (.int (nI i)), none, none] [] h := by
  have h384 := hX.1
  have hI := li.2.2.2.2
  have hS := li.2.2.2.1
  obtain ⟨hr1, hr2⟩ := hr
  refine b_L_law_2282 hX X 0 83 114 (nI i) h ⟨_, li.1.o, 40, _, 8, 64, no_thr (m := m_gaps s ) (fun b e => by unfold m_gaps at e; (repeat' split at e) <;> cases e) (x_gaps (d := 40) hg (by omega) li.1.self hI.is ), ⟨⟨by omega, by omega⟩, by omega, by omega⟩, fun v h1 q => ?_⟩
  obtain ⟨q1, x1, em, ev, c1, RA1, f, ou⟩ := pd_of li q
  have hq : IV q1.2 := (show ∀ q, m_gaps s  = .inl q → IV q.2 from (fun q e => by unfold m_gaps at e; (repeat' split at e) <;> first | (cases e; exact hI) | (cases e; done))) q1 em
  refine ⟨_, ev, _, RA1.o, 40, _, 0, 0, r_gaps (d := 40) hg (by omega) RA1 hI hS , ⟨⟨by omega, by omega⟩, by omega, by omega⟩, fun v4 h4 w => ?_⟩
  rw [em] at w
  obtain ⟨e4, R4, l4⟩ := pd_li hq c1 RA1 ou w
  exact ⟨_, e4, fun _ => kk _ _ _ _ l4, fun y => absurd rfl y⟩
theorem lc_worst (hg : GOK g) (hO : GOW g) (hN : GOC g) (hX : SX g L xs) (X : CX g p s_ m_ args meth c cL_law 7 ⟨RL, nm, "([I)Z"⟩ (some .boolean) xt) (hr : 200 ≤ Rm.frames ∧ 13000 ≤ Rm.locals) (hk : kc + 8 ≤ Rm.cells ∧ ks + 64 ≤ Rm.slots) (hi : i + 6 ≤ L) (li : LI h s x R) (kk : ∀ h' s' x' R', LI h' s' x' R' → VV g p e Rm s_ m_ args below meth c 7 Q (kc + 8) (ks + 64) 2555 [some (.retAddr 100), some (.ref 0), some (.ref 83), some (.ref 114), some (.int (nI i)), none, none] [] h') : VV g p e Rm s_ m_ args below meth c 7 Q kc ks 2295 [some (.retAddr 100), some (.ref 0), some (.ref 83), some (.ref 114), some (.int (nI i)), none, none] [] h := by
  have h384 := hX.1
  have hI := li.2.2.2.2
  have hS := li.2.2.2.1
  obtain ⟨hr1, hr2⟩ := hr
  refine b_L_law_2295 hX X 0 83 114 (nI i) h ⟨i + 1, nI_ad i 1, by omega, 40 + 1, _, 8, 64, l_worst hN li.1.o (x_worst (d := 40) hg (by omega) li.1.self hI.is (xs (i + 1))) (hl_kk (cd := cd1) li) (hl_I li (fun b e => by unfold m_worst at e; (repeat' split at e) <;> first | (cases e; rfl) | (cases e; done))), ⟨⟨by omega, by omega⟩, by omega, by omega⟩, fun v h1 q => ?_⟩
  obtain ⟨k, f, ek, RA1, ou, q2⟩ := id q
  rw [ek] at q
  refine ⟨k, ek, i + 1, nI_ad i 1, by omega, _, RA1.o, 40, _, 0, 0, r_worst (d := 40) hg (by omega) RA1 hI hS (xs (i + 1)), ⟨⟨by omega, by omega⟩, by omega, by omega⟩, fun v4 h4 w => ?_⟩
  obtain ⟨v6, ev, pm⟩ := pl_pm (by decide) hI (fun q e => by unfold m_worst at e; (repeat' split at e) <;> first | (cases e; exact hI) | (cases e; done)) q w
  exact ⟨v6, ev, lw_tail hg ⟨by omega, by omega⟩ ⟨by omega, by omega⟩ pm (fun s2 x2 R2 l2 => b_L_law_2348 hX X _ _ _ _ _ (kk _ _ _ _ l2))⟩
theorem lc_meet (hg : GOK g) (hO : GOW g) (hN : GOC g) (hX : SX g L xs) (X : CX g p s_ m_ args meth c cL_law 7 ⟨RL, nm, "([I)Z"⟩ (some .boolean) xt) (hr : 200 ≤ Rm.frames ∧ 13000 ≤ Rm.locals) (hk : kc + 8 ≤ Rm.cells ∧ ks + 64 ≤ Rm.slots) (hi : i + 6 ≤ L) (li : LI h s x R) (kk : ∀ h' s' x' R', LI h' s' x' R' → VV g p e Rm s_ m_ args below meth c 7 Q (kc + 8) (ks + 64) 2555 [some (.retAddr 100), some (.ref 0), some (.ref 83), some (.ref 114), some (.int (nI i)), none, none] [] h') : VV g p e Rm s_ m_ args below meth c 7 Q kc ks 2351 [some (.retAddr 100), some (.ref 0), some (.ref 83), some (.ref 114), some (.int (nI i)), none, none] [] h := by
  have h384 := hX.1
  have hI := li.2.2.2.2
  have hS := li.2.2.2.1
  obtain ⟨hr1, hr2⟩ := hr
  refine b_L_law_2351 hX X 0 83 114 (nI i) h ⟨i + 1, nI_ad i 1, by omega, i + 2, nI_ad i 2, by omega, 40 + 1, _, 8, 64, l_meet hN li.1.o (x_meet (d := 40) hg (by omega) li.1.self hI.is (xs (i + 1)) (xs (i + 2))) (hl_kk (cd := cd2) li) (hl_N li (fun b e => by unfold m_meet at e; (repeat' split at e) <;> first | (cases e; rfl) | (cases e; done))), ⟨⟨by omega, by omega⟩, by omega, by omega⟩, fun v h1 q => ?_⟩
  obtain ⟨k, f, ek, RA1, ou, q2⟩ := id q
  rw [ek] at q
  refine ⟨k, ek, i + 1, nI_ad i 1, by omega, i + 2, nI_ad i 2, by omega, _, RA1.o, 40, _, 0, 0, r_meet (d := 40) hg (by omega) RA1 hI hS (xs (i + 1)) (xs (i + 2)), ⟨⟨by omega, by omega⟩, by omega, by omega⟩, fun v4 h4 w => ?_⟩
  obtain ⟨v6, ev, pm⟩ := pl_pm (by decide) hI (fun q e => by unfold m_meet at e; (repeat' split at e) <;> first | (cases e; exact hI) | (cases e; done)) q w
  exact ⟨v6, ev, lw_tail hg ⟨by omega, by omega⟩ ⟨by omega, by omega⟩ pm (fun s2 x2 R2 l2 => b_L_law_2416 hX X _ _ _ _ _ (kk _ _ _ _ l2))⟩
theorem lc_bare (hg : GOK g) (hO : GOW g) (hN : GOC g) (hX : SX g L xs) (X : CX g p s_ m_ args meth c cL_law 7 ⟨RL, nm, "([I)Z"⟩ (some .boolean) xt) (hr : 200 ≤ Rm.frames ∧ 13000 ≤ Rm.locals) (hk : kc + 8 ≤ Rm.cells ∧ ks + 64 ≤ Rm.slots) (hi : i + 6 ≤ L) (li : LI h s x R) (kk : ∀ h' s' x' R', LI h' s' x' R' → VV g p e Rm s_ m_ args below meth c 7 Q (kc + 8) (ks + 64) 2555 [some (.retAddr 100), some (.ref 0), some (.ref 83), some (.ref 114), some (.int (nI i)), none, none] [] h') : VV g p e Rm s_ m_ args below meth c 7 Q kc ks 2419 [some (.retAddr 100), some (.ref 0), some (.ref 83), some (.ref 114), some (.int (nI i)), none, none] [] h := by
  have h384 := hX.1
  have hI := li.2.2.2.2
  have hS := li.2.2.2.1
  obtain ⟨hr1, hr2⟩ := hr
  refine b_L_law_2419 hX X 0 83 114 (nI i) h ⟨i + 1, nI_ad i 1, by omega, 40 + 1, _, 8, 64, l_bare hN li.1.o (x_bare (d := 40) hg (by omega) li.1.self hI.is (xs (i + 1))) (hl_kk (cd := cd1) li) (hl_I li (fun b e => by unfold m_bare at e; (repeat' split at e) <;> first | (cases e; rfl) | (cases e; done))), ⟨⟨by omega, by omega⟩, by omega, by omega⟩, fun v h1 q => ?_⟩
  obtain ⟨k, f, ek, RA1, ou, q2⟩ := id q
  rw [ek] at q
  refine ⟨k, ek, i + 1, nI_ad i 1, by omega, _, RA1.o, 40, _, 0, 0, r_bare (d := 40) hg (by omega) RA1 hI hS (xs (i + 1)), ⟨⟨by omega, by omega⟩, by omega, by omega⟩, fun v4 h4 w => ?_⟩
  obtain ⟨v6, ev, pm⟩ := pl_pm (by decide) hI (fun q e => by unfold m_bare at e; (repeat' split at e) <;> first | (cases e; exact hI) | (cases e; done)) q w
  exact ⟨v6, ev, lw_tail hg ⟨by omega, by omega⟩ ⟨by omega, by omega⟩ pm (fun s2 x2 R2 l2 => b_L_law_2472 hX X _ _ _ _ _ (kk _ _ _ _ l2))⟩
theorem lc_load (hg : GOK g) (hO : GOW g) (hN : GOC g) (hX : SX g L xs) (X : CX g p s_ m_ args meth c cL_law 7 ⟨RL, nm, "([I)Z"⟩ (some .boolean) xt) (hr : 200 ≤ Rm.frames ∧ 13000 ≤ Rm.locals) (hk : kc + 8 ≤ Rm.cells ∧ ks + 64 ≤ Rm.slots) (hi : i + 6 ≤ L) (li : LI h s x R) (kk : ∀ h' s' x' R', LI h' s' x' R' → VV g p e Rm s_ m_ args below meth c 7 Q (kc + 8) (ks + 64) 2555 [some (.retAddr 100), some (.ref 0), some (.ref 83), some (.ref 114), some (.int (nI i)), none, none] [] h') : VV g p e Rm s_ m_ args below meth c 7 Q kc ks 2475 [some (.retAddr 100), some (.ref 0), some (.ref 83), some (.ref 114), some (.int (nI i)), none, none] [] h := by
  have h384 := hX.1
  have hI := li.2.2.2.2
  have hS := li.2.2.2.1
  obtain ⟨hr1, hr2⟩ := hr
  refine b_L_law_2475 hX X 0 83 114 (nI i) h ⟨i + 1, nI_ad i 1, by omega, 40 + 1, _, 8, 64, l_load hN li.1.o (x_load (d := 40) hg (by omega) li.1.self hI.is (xs (i + 1))) (hl_kk (cd := cd1) li) (hl_I li (fun b e => by unfold m_load at e; (repeat' split at e) <;> first | (cases e; rfl) | (cases e; done))), ⟨⟨by omega, by omega⟩, by omega, by omega⟩, fun v h1 q => ?_⟩
  obtain ⟨k, f, ek, RA1, ou, q2⟩ := id q
  rw [ek] at q
  refine ⟨k, ek, i + 1, nI_ad i 1, by omega, _, RA1.o, 40, _, 0, 0, r_load (d := 40) hg (by omega) RA1 hI hS (xs (i + 1)), ⟨⟨by omega, by omega⟩, by omega, by omega⟩, fun v4 h4 w => ?_⟩
  obtain ⟨v6, ev, pm⟩ := pl_pm (by decide) hI (fun q e => by unfold m_load at e; (repeat' split at e) <;> first | (cases e; exact hI) | (cases e; done)) q w
  exact ⟨v6, ev, lw_tail hg ⟨by omega, by omega⟩ ⟨by omega, by omega⟩ pm (fun s2 x2 R2 l2 => b_L_law_2528 hX X _ _ _ _ _ (kk _ _ _ _ l2))⟩
theorem lc_image (hg : GOK g) (hO : GOW g) (hN : GOC g) (hX : SX g L xs) (X : CX g p s_ m_ args meth c cL_law 7 ⟨RL, nm, "([I)Z"⟩ (some .boolean) xt) (hr : 200 ≤ Rm.frames ∧ 13000 ≤ Rm.locals) (hk : kc + 8 ≤ Rm.cells ∧ ks + 64 ≤ Rm.slots) (hi : i + 6 ≤ L) (li : LI h s x R) (kk : ∀ h' s' x' R', LI h' s' x' R' → VV g p e Rm s_ m_ args below meth c 7 Q (kc + 8) (ks + 64) 2555 [some (.retAddr 100), some (.ref 0), some (.ref 83), some (.ref 114), some (.int (nI i)), none, none] [] h') : VV g p e Rm s_ m_ args below meth c 7 Q kc ks 2531 [some (.retAddr 100), some (.ref 0), some (.ref 83), some (.ref 114), some (.int (nI i)), none, none] [] h := by
  have h384 := hX.1
  have hI := li.2.2.2.2
  have hS := li.2.2.2.1
  obtain ⟨hr1, hr2⟩ := hr
  refine b_L_law_2531 hX X 0 83 114 (nI i) h ⟨_, li.1.o, 40, _, 8, 64, x_image (d := 40) hg (by omega) li.1.self , ⟨⟨by omega, by omega⟩, by omega, by omega⟩, fun v h1 q => ⟨q.1, ?_⟩⟩
  obtain ⟨_, x1, c1⟩ := q
  obtain ⟨_, ra, ⟨f, ou⟩, _, _⟩ := li
  have RA1 := fr_ra c1.fr ra
  refine ⟨_, RA1.o, 40, _, 0, 0, r_image (d := 40) hg (by omega) RA1 hI hS, ⟨⟨by omega, by omega⟩, by omega, by omega⟩, fun v4 h4 w => ⟨w.1, ?_⟩⟩
  obtain ⟨_, R4, e4, rs4⟩ := w
  rw [e4]
  exact kk _ _ x1 R4 ⟨ca_pR c1.nil, RA1.put R4, ⟨f, ou_pR (fr_ou c1.fr ou)⟩, rs4, iv_image hI⟩
theorem lc_restore (hg : GOK g) (hO : GOW g) (hN : GOC g) (hX : SX g L xs) (X : CX g p s_ m_ args meth c cL_law 7 ⟨RL, nm, "([I)Z"⟩ (some .boolean) xt) (hr : 200 ≤ Rm.frames ∧ 13000 ≤ Rm.locals) (hk : kc + 8 ≤ Rm.cells ∧ ks + 64 ≤ Rm.slots) (hi : i + 6 ≤ L) (li : LI h s x R) (kk : ∀ h' s' x' R', LI h' s' x' R' → VV g p e Rm s_ m_ args below meth c 7 Q (kc + 8) (ks + 64) 2555 [some (.retAddr 100), some (.ref 0), some (.ref 83), some (.ref 114), some (.int (nI i)), none, none] [] h') : VV g p e Rm s_ m_ args below meth c 7 Q kc ks 2542 [some (.retAddr 100), some (.ref 0), some (.ref 83), some (.ref 114), some (.int (nI i)), none, none] [] h := by
  have h384 := hX.1
  have hI := li.2.2.2.2
  have hS := li.2.2.2.1
  obtain ⟨hr1, hr2⟩ := hr
  refine b_L_law_2542 hX X 0 83 114 (nI i) h ⟨_, li.1.o, 40, _, 8, 64, no_thr (m := m_restore s ) (fun b e => by unfold m_restore at e; (repeat' split at e) <;> cases e) (x_restore (d := 40) hg (by omega) li.1.self ), ⟨⟨by omega, by omega⟩, by omega, by omega⟩, fun v h1 q => ?_⟩
  obtain ⟨q1, x1, em, ev, c1, RA1, f, ou⟩ := pd_of li q
  have hq : IV q1.2 := (show ∀ q, m_restore s  = .inl q → IV q.2 from (fun q e => iv_restore hI e)) q1 em
  refine ⟨_, ev, _, RA1.o, 40, _, 0, 0, r_restore (d := 40) hg (by omega) RA1 hI hS , ⟨⟨by omega, by omega⟩, by omega, by omega⟩, fun v4 h4 w => ?_⟩
  rw [em] at w
  obtain ⟨e4, R4, l4⟩ := pd_li hq c1 RA1 ou w
  exact ⟨_, e4, fun _ => kk _ _ _ _ l4, fun y => absurd rfl y⟩
end LWC
