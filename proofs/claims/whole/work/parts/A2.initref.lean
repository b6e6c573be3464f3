/-! THE REFERENCE'S CONSTRUCTOR -/
section INR
variable {g : GG} {p : Hp} {d : Nat}
def z11 : List Value := [.int 0, .int 0, .int 0, .int 0, .int 0, .int 0, .int 0, .null, .null, .null, .null, .null, .int 0, .int 0, .int 0, .null, .int 0, .int 0, .int 0, .int 0, .int 0, .int 0, .int 0, .long 0, .int 0, .int 0, .int 0, .int 0, .int 0, .int 0, .int 0, .int 0, .int 0, .null, .null, .null, .null, .null, .null, .null, .null, .null, .int 0, .null, .null, .null, .null, .null, .null, .null, .null, .int 0, .null, .null, .null, .int 0, .null, .int 0, .int 0, .int 0, .null, .null, .null]
def i00 : AF := upd (upd (upd (upd (upd zF 1 3) 4 7) 5 (-1)) 6 (-1)) 14 (-1)
def R00 : RefV := (i00, 0, fun _ => zF)
theorem z11_ok : z11 = (List.range 63).map (fun j => if j = 23 then .long 0 else if rIx j = 0 then .int 0 else .null) := rfl
theorem RA_end {R : RefV} : RA (p ++ refC p.length R) p.length R := Chunk.end_
def IR (p : Hp) (r : Option Value) (h2 : Hp) : Prop := r = none ∧ ∃ f, h2 = pR (p ++ refC p.length R00) p.length (sA R00 14 f) ∧ ∀ k, f k = if 13 ≤ k ∧ k < 16 then 50 else 0
theorem i_r280 {K : KX} {kc ks : Nat} (XX : CB g K cX12_init 2 yX12_init none []) (hg : GOK g) (hd : 8 ≤ d) (hk : kc ≤ 100 ∧ ks ≤ 20000) : ∀ (j i : Nat) (f : AF), i + j = 3 → (∀ k, f k = if 13 ≤ k ∧ k < 13 + i then 50 else 0) → VB g K 2 d 100 20000 (IR p) noT kc ks 280 [some (.ref p.length), some (.int (nI i))] [] (pR (p ++ refC p.length R00) p.length (sA R00 14 f)) := by
  have hR : RA (p ++ refC p.length R00) p.length R00 := RA_end
  intro j
  induction j with
  | zero =>
    intro i f hi hf
    have e : i = 3 := by omega
    subst e
    exact b_X12_init_280 hg hd hk XX _ _ _ ⟨fun _ => ⟨rfl, f, rfl, hf⟩, fun y => absurd (nI_le (a := 3) (b := 3) (by omega) (by omega)) y⟩
  | succ j ih =>
    intro i f hi hf
    have hu : uI (pR (p ++ refC p.length R00) p.length (sA R00 14 f)) 0 (p.length + 14) ((13 : Int32) + nI i) 50 = some (pR (pR (p ++ refC p.length R00) p.length (sA R00 14 f)) p.length (sA (sA R00 14 f) 14 (upd (ra (sA R00 14 f) 14) (13 + i) 50))) := by
      rw [show (13 : Int32) + nI i = nI (13 + i) from nI_add 13 i]
      exact (hR.put _).u14 (by omega)
    refine b_X12_init_280 hg hd hk XX _ _ _ ⟨fun y => absurd (le_nI (x := 3) (by omega) (by omega) y) (by omega), fun _ => ⟨_, (hR.put _).n40, _, hu, ?_⟩⟩
    rw [hR.pp, nI_s, ra_sA, sA_sA]
    refine ih (i + 1) _ (by omega) fun k => ?_
    by_cases ek : k = 13 + i
    · subst ek; rw [pk_us, if_pos (by omega)]
    · rw [pk_un ek, hf k]
      by_cases z : 13 ≤ k ∧ k < 13 + i
      · rw [if_pos z, if_pos (by omega)]
      · rw [if_neg z, if_neg (by omega)]
theorem VB_hp {K : KX} {nL D mc ms kc ks pc : Nat} {Pr : Option Value → Hp → Prop} {Pt : String → Hp → Prop} {ls : List (Option Value)} {st : List Value} {h h' : Hp} (e : h = h') (k : VB g K nL D mc ms Pr Pt kc ks pc ls st h') : VB g K nL D mc ms Pr Pt kc ks pc ls st h := by rw [e]; exact k
def stF_ (B : Nat) (i : AF) (m j : Nat) : Value := if j = 23 then .long 0 else if rIx j = 0 then .int (i j) else if rIx j ≤ m then .ref (B + rIx j) else .null
def St (p : Hp) (i : AF) (m : Nat) : Hp := p ++ .inr (11, (List.range 63).map (stF_ p.length i m)) :: (List.range m).map (rowR R00)
theorem range_set {α : Type} {f f' : Nat → α} {n j : Nat} {v : α} (hj : j < n) (e : f' j = v) (e2 : ∀ k, k < n → k ≠ j → f' k = f k) : ((List.range n).map f).set j v = (List.range n).map f' := by
  apply List.ext_getElem?
  intro k
  by_cases hk : k < n
  · by_cases ek : k = j
    · subst ek
      rw [List.getElem?_set_self (by simpa using hk)]
      simp [hk, e]
    · rw [List.getElem?_set_ne (fun z => ek z.symm)]
      simp [hk, e2 k hk ek]
  · rw [List.getElem?_eq_none (by simp; omega), List.getElem?_eq_none (by simp; omega)]
theorem stI {i : AF} {m j : Nat} {v : Int32} (hj : j < 63 ∧ j ≠ 23 ∧ rIx j = 0) : pF (St p i m) p.length 11 j (.int v) = some (St p (upd i j v) m) := by
  unfold St
  rw [pFm (by simp; exact hj.1), range_set (f' := stF_ p.length (upd i j v) m) hj.1]
  · unfold stF_
    rw [if_neg hj.2.1, if_pos hj.2.2, pk_us]
  · intro k _ hk
    unfold stF_
    rw [pk_un hk]
theorem stR {i : AF} {m j : Nat} (hj : j < 63 ∧ j ≠ 23 ∧ rIx j = m + 1) (hu : ∀ k, k < 63 → k ≠ j → rIx k ≠ m + 1) {t n : Nat} (he : arr0 t n = rowR R00 m) : pF (St p i m ++ [arr0 t n]) p.length 11 j (.ref (St p i m).length) = some (St p i (m + 1)) := by
  unfold St
  rw [pFn (by simp; exact hj.1), range_set (f' := stF_ p.length i (m + 1)) hj.1]
  · rw [he, show (List.range (m + 1)).map (rowR R00) = (List.range m).map (rowR R00) ++ [rowR R00 m] by rw [List.range_succ, List.map_append]; rfl]
  · unfold stF_
    rw [if_neg hj.2.1, if_neg (by omega), if_pos (by omega), hj.2.2]
    simp
  · intro k h1 h2
    have := hu k h1 h2
    unfold stF_
    by_cases e : k = 23
    · rw [if_pos e, if_pos e]
    · rw [if_neg e, if_neg e]
      by_cases e2 : rIx k = 0
      · rw [if_pos e2, if_pos e2]
      · rw [if_neg e2, if_neg e2]
        by_cases e3 : rIx k ≤ m
        · rw [if_pos e3, if_pos (by omega)]
        · rw [if_neg e3, if_neg (by omega)]
theorem St_0 : p ++ [.inr (11, z11)] = St p zF 0 := rfl
theorem St_30 : St p i00 30 = p ++ refC p.length R00 := by
  unfold St refC
  have : (List.range 63).map (stF_ p.length i00 30) = (List.range 63).map (fldR p.length R00) := by
    refine List.map_congr_left fun j hj => ?_
    have h1 : j < 63 := List.mem_range.mp hj
    have h2 : rIx j ≤ 30 := (by decide : ∀ j, j < 63 → rIx j ≤ 30) j h1
    unfold stF_ fldR
    rw [if_pos h2]
    rfl
  rw [this]
theorem i_ref (hg : GOK g) (hd : 9 ≤ d) : CT g d yX12_init (wsC yX12_init cX12_init 2 none) [.ref p.length] (p ++ [.inr (11, z11)]) 100 20000 (IR p) noT := by
  refine CT_ofB (by decide +kernel) (Nat.le_of_ble_eq_true rfl) rfl fun K X => VB_hp St_0 ?_
  refine b_X12_init_0 hg (by omega) (by omega) X _ _ ⟨_, stI (by decide), _, stI (by decide), _, stI (by decide), ?_⟩
  refine b_X12_init_20 hg (by omega) (by omega) X _ _ ⟨_, stI (by decide), by omega, _, stR (by decide) (by decide) rfl, by omega, _, stR (by decide) (by decide) rfl, ?_⟩
  refine b_X12_init_41 hg (by omega) (by omega) X _ _ ⟨by omega, _, stR (by decide) (by decide) rfl, by omega, _, stR (by decide) (by decide) rfl, by omega, _, stR (by decide) (by decide) rfl, ?_⟩
  refine b_X12_init_67 hg (by omega) (by omega) X _ _ ⟨_, stI (by decide), by omega, _, stR (by decide) (by decide) rfl, by omega, _, stR (by decide) (by decide) rfl, ?_⟩
  refine b_X12_init_87 hg (by omega) (by omega) X _ _ ⟨by omega, _, stR (by decide) (by decide) rfl, by omega, _, stR (by decide) (by decide) rfl, by omega, _, stR (by decide) (by decide) rfl, ?_⟩
  refine b_X12_init_111 hg (by omega) (by omega) X _ _ ⟨by omega, _, stR (by decide) (by decide) rfl, by omega, _, stR (by decide) (by decide) rfl, by omega, _, stR (by decide) (by decide) rfl, ?_⟩
  refine b_X12_init_137 hg (by omega) (by omega) X _ _ ⟨by omega, _, stR (by decide) (by decide) rfl, by omega, _, stR (by decide) (by decide) rfl, by omega, _, stR (by decide) (by decide) rfl, ?_⟩
  refine b_X12_init_162 hg (by omega) (by omega) X _ _ ⟨by omega, _, stR (by decide) (by decide) rfl, by omega, _, stR (by decide) (by decide) rfl, by omega, _, stR (by decide) (by decide) rfl, ?_⟩
  refine b_X12_init_188 hg (by omega) (by omega) X _ _ ⟨by omega, _, stR (by decide) (by decide) rfl, by omega, _, stR (by decide) (by decide) rfl, by omega, _, stR (by decide) (by decide) rfl, ?_⟩
  refine b_X12_init_212 hg (by omega) (by omega) X _ _ ⟨by omega, _, stR (by decide) (by decide) rfl, by omega, _, stR (by decide) (by decide) rfl, by omega, _, stR (by decide) (by decide) rfl, ?_⟩
  refine b_X12_init_236 hg (by omega) (by omega) X _ _ ⟨by omega, _, stR (by decide) (by decide) rfl, by omega, _, stR (by decide) (by decide) rfl, by omega, _, stR (by decide) (by decide) rfl, ?_⟩
  refine b_X12_init_261 hg (by omega) (by omega) X _ _ ⟨by omega, _, stR (by decide) (by decide) rfl, by omega, _, stR (by decide) (by decide) rfl, ?_⟩
  refine VB_hp St_30 ?_
  have hR : RA (p ++ refC p.length R00) p.length R00 := RA_end
  have k := fun (kc ks : Nat) (hk : kc ≤ 100 ∧ ks ≤ 20000) => i_r280 (p := p) (d := d) X hg (by omega) (kc := kc) (ks := ks) hk 3 0 zF rfl (fun k => by rw [if_neg (by omega)])
  have e : pR (p ++ refC p.length R00) p.length (sA R00 14 zF) = p ++ refC p.length R00 := by
    rw [show sA R00 14 zF = R00 from sA_id R00 14, hR.id]
  rw [e] at k
  exact k _ _ (by omega)
theorem iv_01 : IV s01 := iv_ringS (s := s00) (T := clT zT) (L := sDay zL 0) (fun _ _ => (by decide : -128 ≤ (0 : Int32).toInt ∧ (0 : Int32).toInt < 128)) (DI_0 (st := 0) (len := 0) (by omega) (by omega))
theorem rs_01 {f : AF} (hf : ∀ k, f k = if 13 ≤ k ∧ k < 16 then 50 else 0) : RS s01 (sA R00 14 f) := by
  have e14 : ra (sA R00 14 f) 14 = f := ra_sA
  obtain ⟨⟨f1, f2, f3⟩, f4, f5⟩ := fl_le 3 0 zL
  refine ⟨⟨rfl, rfl, rfl, fun w hw => absurd hw (Nat.not_lt_zero _), Or.inl ⟨rfl, rfl⟩, Or.inl ⟨rfl, rfl⟩⟩, ⟨rfl, fun k hk => absurd hk (Nat.not_lt_zero _)⟩, ⟨rfl, fun k _ => ?_⟩, rfl, ⟨?_, ?_, ?_⟩, ?_, ⟨rfl, fun i hi => absurd hi (Nat.not_lt_zero _)⟩, ⟨rfl, fun i hi => absurd hi (Nat.not_lt_zero _)⟩, rfl, fun z => absurd z (by show ¬ (0 : Int32) = 1; decide)⟩
  · rw [ra_sAn (by decide)]
    show (0 : Int32) = 0 &&& 255
    decide
  · rw [ra_sAn (by decide)]; rfl
  · rw [ra_sAn (by decide)]; rfl
  · rw [ra_sAn (by decide)]; rfl
  · rw [e14]
    refine ⟨?_, fun k hk => ?_, fun k hk => absurd hk (Nat.not_lt_zero _)⟩
    · show f 0 = lDay (flL 3 0 zL)
      rw [hf, f1]; rfl
    · have hk' : k < 3 := hk
      show f (0 + 1 + k) = lStr (flL 3 0 zL) k ∧ f (0 + 13 + k) = lSm (flL 3 0 zL) k ∧ f (0 + 25 + k) = lSt (flL 3 0 zL) k
      obtain ⟨g1, g2, g3⟩ := f5 (by omega) k (by omega) hk'
      rw [g1, g2, g3, hf, hf, hf, if_neg (by omega), if_pos (by omega), if_neg (by omega)]
      exact ⟨rfl, rfl, rfl⟩
end INR
