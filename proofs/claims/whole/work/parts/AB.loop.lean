/-! THE LAW: its loop, its start -/
section LWD
variable {g : GG} {p : Program} {e : Env} {Rm : Room} {s_ : State} {m_ : MethodId} {args : Array Value} {below : List Frame} {meth : Method} {c : Code} {Q : State → Prop} {xt : List ExceptionTableEntry} {nm : String} {L : Nat} {xs : Nat → Int32}
theorem l6 {L i : Nat} (hL : L ≤ 384) (hi : i ≤ 400) : (nI L - 6 < nI i ↔ L < i + 6) := by
  rw [Int32.lt_iff_toInt_lt]
  have e1 : (nI L - 6).toInt = (L : Int) - 6 := by
    have h1 : (nI L).toInt = L := nI_toInt (by omega)
    rw [Int32.toInt_sub, h1]
    have h2 : (6 : Int32).toInt = 6 := rfl
    rw [h2]
    apply Int.bmod_eq_of_le <;> omega
  rw [e1, nI_toInt (by omega)]
  omega
theorem law_loop (hg : GOK g) (hO : GOW g) (hN : GOC g) (hX : SX g L xs) (X : CX g p s_ m_ args meth c cL_law 7 ⟨RL, nm, "([I)Z"⟩ (some .boolean) xt) (hr : 200 ≤ Rm.frames ∧ 13000 ≤ Rm.locals) (fin : ∀ kc ks h, kc ≤ Rm.cells → ks ≤ Rm.slots → VV g p e Rm s_ m_ args below meth c 7 Q kc ks 2562 [none, none, none, none, none, none, none] [.int 1] h) :
    ∀ (n i : Nat) (h : Hp) (s : CoreV) (x : ScrV) (R : RefV) (kc ks : Nat), L + 6 ≤ i + 6 * n → i ≤ 390 → (kc + 8 * n ≤ Rm.cells ∧ ks + 64 * n ≤ Rm.slots) → LI h s x R → VV g p e Rm s_ m_ args below meth c 7 Q kc ks 23 [some (.retAddr 100), some (.ref 0), some (.ref 83), some (.ref 114), some (.int (nI i)), none, none] [] h := by
  have h384 := hX.1
  intro n
  induction n with
  | zero =>
    intro i h s x R kc ks hn h400 hk li
    exact b_L_law_23 hX X 0 83 114 (nI i) h ⟨fun _ => fin _ _ _ (by omega) (by omega), fun y => absurd ((l6 h384 (by omega)).mpr (by omega)) y⟩
  | succ n ih =>
    intro i h s x R kc ks hn h400 hk li
    refine b_L_law_23 hX X 0 83 114 (nI i) h ⟨fun _ => fin _ _ _ (by omega) (by omega), fun y => ?_⟩
    have hi : i + 6 ≤ L := Nat.le_of_not_lt fun z => y ((l6 (i := i) h384 (by omega)).mpr z)
    have nx : ∀ (kc ks : Nat) (h' : Hp) (s' : CoreV) (x' : ScrV) (R' : RefV), (kc + 8 * n ≤ Rm.cells ∧ ks + 64 * n ≤ Rm.slots) → LI h' s' x' R' → VV g p e Rm s_ m_ args below meth c 7 Q kc ks 2555 [some (.retAddr 100), some (.ref 0), some (.ref 83), some (.ref 114), some (.int (nI i)), none, none] [] h' := fun kc ks h' s' x' R' k1 l' => by
      refine b_L_law_2555 hX X 0 83 114 (nI i) h' ?_
      rw [show nI i + 6 = nI (i + 6) from nI_ad i 6]
      exact ih (i + 6) h' s' x' R' kc ks (by omega) (by omega) k1 l'
    have hk8 : kc + 8 ≤ Rm.cells ∧ ks + 64 ≤ Rm.slots := by omega
    have kk : ∀ h' s' x' R', LI h' s' x' R' → VV g p e Rm s_ m_ args below meth c 7 Q (kc + 8) (ks + 64) 2555 [some (.retAddr 100), some (.ref 0), some (.ref 83), some (.ref 114), some (.int (nI i)), none, none] [] h' := fun h' s' x' R' l' => nx _ _ h' s' x' R' (by omega) l'
    refine ⟨i, rfl, by omega, fun _ => nx kc ks h s x R (by omega) li, fun _ => lc_feed hg hO hN hX X hr hk8 hi li kk, fun _ => lc_ring hg hO hN hX X hr hk8 hi li kk, fun _ => lc_fault hg hO hN hX X hr hk8 hi li kk, fun _ => lc_count hg hO hN hX X hr hk8 hi li kk, fun _ => lc_stretch hg hO hN hX X hr hk8 hi li kk, fun _ => lc_woman hg hO hN hX X hr hk8 hi li kk, fun _ => lc_days hg hO hN hX X hr hk8 hi li kk, fun _ => lc_mend hg hO hN hX X hr hk8 hi li kk, fun _ => lc_go hg hO hN hX X hr hk8 hi li kk, fun _ => lc_stitch hg hO hN hX X hr hk8 hi li kk, fun _ => lc_thread hg hO hN hX X hr hk8 hi li kk, fun _ => lc_tear hg hO hN hX X hr hk8 hi li kk, fun _ => lc_undo hg hO hN hX X hr hk8 hi li kk, fun _ => lc_then hg hO hN hX X hr hk8 hi li kk, fun _ => lc_later hg hO hN hX X hr hk8 hi li kk, fun _ => lc_opens hg hO hN hX X hr hk8 hi li kk, fun _ => lc_first hg hO hN hX X hr hk8 hi li kk, fun _ => lc_where hg hO hN hX X hr hk8 hi li kk, fun _ => lc_spent hg hO hN hX X hr hk8 hi li kk, fun _ => lc_toHold hg hO hN hX X hr hk8 hi li kk, fun _ => lc_toSend hg hO hN hX X hr hk8 hi li kk, fun _ => lc_bestStitch hg hO hN hX X hr hk8 hi li kk, fun _ => lc_sent hg hO hN hX X hr hk8 hi li kk, fun _ => lc_closed hg hO hN hX X hr hk8 hi li kk, fun _ => lc_tight hg hO hN hX X hr hk8 hi li kk, fun _ => lc_readings hg hO hN hX X hr hk8 hi li kk, fun _ => lc_see hg hO hN hX X hr hk8 hi li kk, fun _ => lc_forget hg hO hN hX X hr hk8 hi li kk, fun _ => lc_torn hg hO hN hX X hr hk8 hi li kk, fun _ => lc_look hg hO hN hX X hr hk8 hi li kk, fun _ => lc_gales hg hO hN hX X hr hk8 hi li kk, fun _ => lc_game hg hO hN hX X hr hk8 hi li kk, fun _ => lc_years hg hO hN hX X hr hk8 hi li kk, fun _ => lc_steady hg hO hN hX X hr hk8 hi li kk, fun _ => lc_nearest hg hO hN hX X hr hk8 hi li kk, fun _ => lc_far hg hO hN hX X hr hk8 hi li kk, fun _ => lc_gaps hg hO hN hX X hr hk8 hi li kk, fun _ => lc_worst hg hO hN hX X hr hk8 hi li kk, fun _ => lc_meet hg hO hN hX X hr hk8 hi li kk, fun _ => lc_bare hg hO hN hX X hr hk8 hi li kk, fun _ => lc_load hg hO hN hX X hr hk8 hi li kk, fun _ => lc_image hg hO hN hX X hr hk8 hi li kk, fun _ => lc_restore hg hO hN hX X hr hk8 hi li kk⟩
theorem law_start (hg : GOK g) (hO : GOW g) (hN : GOC g) (hX : SX g L xs) (X : CX g p s_ m_ args meth c cL_law 7 ⟨RL, nm, "([I)Z"⟩ (some .boolean) xt) (hr : 200 ≤ Rm.frames ∧ 13000 ≤ Rm.locals) (hc : 2000 ≤ Rm.cells ∧ 100000 ≤ Rm.slots) (fin : ∀ kc ks h, kc ≤ Rm.cells → ks ≤ Rm.slots → VV g p e Rm s_ m_ args below meth c 7 Q kc ks 2562 [none, none, none, none, none, none, none] [.int 1] h) :
    VV g p e Rm s_ m_ args below meth c 7 Q 0 0 0 [some (.retAddr 100), none, none, none, none, none, none] [] [] := by
  have h384 := hX.1
  refine b_L_law_0 hX X [] ⟨by omega, 40, _, 100, 8000, i_cls (d := 40) hg (by omega), ⟨⟨by omega, by omega⟩, by omega, by omega⟩, fun v h1 q => ⟨q.1, by omega, 40, _, 100, 20000, i_ref (p := h1) (d := 40) hg (by omega), ⟨⟨by omega, by omega⟩, by omega, by omega⟩, fun v3 h3 q3 => ⟨q3.1, by omega, ?_⟩⟩⟩
  obtain ⟨_, l1, ca⟩ := q
  obtain ⟨_, f, e3, hf⟩ := q3
  have hl3 : h3.length = 114 := by
    rw [e3]
    show (putC _ _ _).length = 114
    rw [putC_len, List.length_append, l1, refC_len]
  have hR : RA (h1 ++ refC h1.length R00) h1.length R00 := RA_end
  have li : LI (h3 ++ [arr0 2 1]) s01 (uxK x00 (ksT (rgT zT))) (sA R00 14 f) := by
    refine ⟨?_, ?_, ⟨fun _ => 0, ?_⟩, rs_01 hf, iv_01⟩
    · rw [e3, l1]
      exact (ca_pR (ca.app _)).app _
    · rw [e3]
      have := (hR.put (sA R00 14 f)).app [arr0 2 1]
      rw [l1] at this ⊢
      exact this
    · have := Chunk.end_ (h := h3) (cs := ouC fun _ => 0)
      rw [hl3] at this
      exact this
  rw [l1, hl3]
  exact law_loop hg hO hN hX X hr fin 66 0 _ _ _ _ _ _ (by omega) (by omega) (by omega) li
end LWD
