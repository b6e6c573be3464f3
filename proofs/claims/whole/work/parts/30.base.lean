/-! CHUNKS: objects with what they own lie side by side; a chunk is its list of cells -/
def Chunk (h : Hp) (a : Nat) (cs : List va_E) : Prop := ∀ (j : Nat) (e : va_E), cs[j]? = some e → h[a + j]? = some e
def putC (h : Hp) (a : Nat) : List va_E → Hp
  | [] => h
  | c :: cs => putC (h.set a c) (a + 1) cs
theorem putC_len (cs : List va_E) : ∀ (h : Hp) (a : Nat), (putC h a cs).length = h.length := by
  induction cs with
  | nil => intro h a; rfl
  | cons c cs ih => intro h a; rw [putC, ih, List.length_set]
theorem putC_out (cs : List va_E) : ∀ (h : Hp) (a k : Nat), (k < a ∨ a + cs.length ≤ k) → (putC h a cs)[k]? = h[k]? := by
  induction cs with
  | nil => intro h a k _; rfl
  | cons c cs ih =>
    intro h a k hk
    rw [putC, ih _ _ _ (by simp only [List.length_cons] at hk; omega), List.getElem?_set_ne (by simp only [List.length_cons] at hk; omega)]
theorem putC_in (cs : List va_E) : ∀ (h : Hp) (a j : Nat), a + cs.length ≤ h.length → j < cs.length → (putC h a cs)[a + j]? = cs[j]? := by
  induction cs with
  | nil => intro h a j _ hj; simp at hj
  | cons c cs ih =>
    intro h a j hl hj
    simp only [List.length_cons] at hl hj
    cases j with
    | zero =>
      rw [putC, putC_out _ _ _ _ (by omega)]
      simp only [Nat.add_zero, List.getElem?_cons_zero]
      rw [List.getElem?_set_self (by omega)]
    | succ j =>
      rw [putC, show a + (j + 1) = a + 1 + j by omega, ih _ _ _ (by rw [List.length_set]; omega) (by omega)]
      rfl
theorem Chunk.le {h : Hp} {a : Nat} {cs : List va_E} (hc : Chunk h a cs) (h0 : 0 < cs.length) : a + cs.length ≤ h.length := by
  have h1 := hc (cs.length - 1) (cs[cs.length - 1]'(by omega)) (List.getElem?_eq_getElem (by omega))
  have := (List.getElem?_eq_some_iff.mp h1).1
  omega
theorem Chunk.put {h : Hp} {a : Nat} {cs : List va_E} (hl : a + cs.length ≤ h.length) : Chunk (putC h a cs) a cs := by
  intro j e hj
  have hlt := (List.getElem?_eq_some_iff.mp hj).1
  rw [putC_in _ _ _ _ hl hlt]
  exact hj
theorem Chunk.off {h : Hp} {a b : Nat} {cs ds : List va_E} (hc : Chunk h a cs) (hd : a + cs.length ≤ b ∨ b + ds.length ≤ a) : Chunk (putC h b ds) a cs := by
  intro j e hj
  have hlt := (List.getElem?_eq_some_iff.mp hj).1
  rw [putC_out _ _ _ _ (by omega)]
  exact hc j e hj
theorem hp_ext {h1 h2 : Hp} (q : ∀ k : Nat, h1[k]? = h2[k]?) : h1 = h2 := List.ext_getElem? q
theorem putC_self {h : Hp} {a : Nat} {cs : List va_E} (hc : Chunk h a cs) : putC h a cs = h := by
  refine hp_ext fun k => ?_
  by_cases hk : k < a ∨ a + cs.length ≤ k
  · exact putC_out _ _ _ _ hk
  · have h0 : 0 < cs.length := by omega
    have hle := hc.le h0
    obtain ⟨j, rfl⟩ : ∃ j, k = a + j := ⟨k - a, by omega⟩
    rw [putC_in _ _ _ _ hle (by omega)]
    have hj : j < cs.length := by omega
    rw [List.getElem?_eq_getElem hj]
    exact (hc j _ (List.getElem?_eq_getElem hj)).symm
theorem putC_putC {h : Hp} {a : Nat} {cs ds : List va_E} (hl : cs.length = ds.length) (hle : a + cs.length ≤ h.length) : putC (putC h a cs) a ds = putC h a ds := by
  refine hp_ext fun k => ?_
  by_cases hk : k < a ∨ a + cs.length ≤ k
  · rw [putC_out _ _ _ _ (by omega), putC_out _ _ _ _ hk, putC_out _ _ _ _ (by omega)]
  · obtain ⟨j, rfl⟩ : ∃ j, k = a + j := ⟨k - a, by omega⟩
    rw [putC_in _ _ _ _ (by rw [putC_len]; omega) (by omega), putC_in _ _ _ _ (by omega) (by omega)]
theorem putC_swap {h : Hp} {a b : Nat} {cs ds : List va_E} (hd : a + cs.length ≤ b ∨ b + ds.length ≤ a) (h1 : a + cs.length ≤ h.length) (h2 : b + ds.length ≤ h.length) : putC (putC h a cs) b ds = putC (putC h b ds) a cs := by
  refine hp_ext fun k => ?_
  by_cases ha : k < a ∨ a + cs.length ≤ k
  · rw [putC_out cs _ a k ha]
    by_cases hb : k < b ∨ b + ds.length ≤ k
    · rw [putC_out ds _ b k hb, putC_out ds _ b k hb, putC_out cs _ a k ha]
    · obtain ⟨j, rfl⟩ : ∃ j, k = b + j := ⟨k - b, by omega⟩
      rw [putC_in _ _ _ _ (by rw [putC_len]; omega) (by omega), putC_in _ _ _ _ (by omega) (by omega)]
  · rw [putC_out ds _ b k (by omega)]
    obtain ⟨j, rfl⟩ : ∃ j, k = a + j := ⟨k - a, by omega⟩
    rw [putC_in _ _ _ _ (by omega) (by omega), putC_in _ _ _ _ (by rw [putC_len]; omega) (by omega)]
/-- one cell of a chunk written -/
theorem Chunk.set {h : Hp} {a j : Nat} {cs : List va_E} {e : va_E} (hc : Chunk h a cs) (hj : j < cs.length) : h.set (a + j) e = putC h a (cs.set j e) := by
  have hle := hc.le (by omega)
  refine hp_ext fun k => ?_
  by_cases hk : k < a ∨ a + cs.length ≤ k
  · rw [putC_out _ _ _ _ (by rw [List.length_set]; exact hk), List.getElem?_set_ne (by omega)]
  · obtain ⟨i, rfl⟩ : ∃ i, k = a + i := ⟨k - a, by omega⟩
    rw [putC_in _ _ _ _ (by rw [List.length_set]; omega) (by rw [List.length_set]; omega)]
    by_cases hij : i = j
    · subst hij
      rw [List.getElem?_set_self (by omega), List.getElem?_set_self hj]
    · rw [List.getElem?_set_ne (by omega), List.getElem?_set_ne (by omega)]
      have hi : i < cs.length := by omega
      rw [List.getElem?_eq_getElem hi]
      exact hc i _ (List.getElem?_eq_getElem hi)
/-! reading and writing by index numbers -/
theorem aI_of {h : Hp} {t a n k : Nat} {f : Nat → Int32} (q : aF h t a = some (n, f)) (hk : k < n) (hn : n < 2 ^ 31) : aI h t a (nI k) = some (f k) := by
  unfold aI
  rw [q]
  simp only [ixo_nI hk hn, if_true]
  rw [nI_clamp (by omega)]
theorem uI_of {h : Hp} {t a n k : Nat} {f : Nat → Int32} {x : Int32} (q : aF h t a = some (n, f)) (hk : k < n) (hn : n < 2 ^ 31) : uI h t a (nI k) x = some (h.set a (.inl (t, n, .inl (upd f k (narT t x))))) := by
  unfold uI
  rw [q]
  simp only [ixo_nI hk hn, if_true]
  rw [nI_clamp (by omega)]
theorem nI_lit (n : Nat) : (OfNat.ofNat n : Int32) = nI n := rfl
theorem nI_z : (0 : Int32) = nI 0 := rfl
theorem nI_o : (1 : Int32) = nI 1 := rfl
theorem nI_s (k : Nat) : nI k + 1 = nI (k + 1) := nI_1 k
/-! calls used in a block's condition -/
theorem use_i {g : GG} {d D kc ks mc ms : Nat} {y : MethodName} {ws : List Cond} {al : List Value} {h h' : Hp} {r : Int32} {Pt : String → Hp → Prop} {Z : Nat → Nat → Int32 → Hp → Prop} (hc : CT g d y ws al h 0 0 (fun v h2 => v = some (.int r) ∧ h2 = h') noT) (hd : d + 1 ≤ D) (hk : kc ≤ mc ∧ ks ≤ ms) (hz : Z 0 0 r h') :
    ∃ d1 P1 E1 m1 n1, CT g d1 y ws al h m1 n1 P1 E1 ∧ (d1 + 1 ≤ D ∧ kc + m1 ≤ mc ∧ ks + n1 ≤ ms) ∧ (∀ E h', E1 E h' → Pt E h') ∧ (∀ v h1, P1 v h1 → ∃ x, v = some (.int x) ∧ Z m1 n1 x h1) :=
  ⟨d, _, _, 0, 0, hc, ⟨hd, hk.1, hk.2⟩, fun _ _ q => q.elim, fun v h1 q => ⟨r, q.1, by rw [q.2]; exact hz⟩⟩
theorem use_v {g : GG} {d D kc ks mc ms : Nat} {y : MethodName} {ws : List Cond} {al : List Value} {h : Hp} {P : Hp → Prop} {Pt : String → Hp → Prop} {Z : Nat → Nat → Hp → Prop} (hc : CT g d y ws al h 0 0 (fun v h2 => v = none ∧ P h2) noT) (hd : d + 1 ≤ D) (hk : kc ≤ mc ∧ ks ≤ ms) (hz : ∀ h', P h' → Z 0 0 h') :
    ∃ d1 P1 E1 m1 n1, CT g d1 y ws al h m1 n1 P1 E1 ∧ (d1 + 1 ≤ D ∧ kc + m1 ≤ mc ∧ ks + n1 ≤ ms) ∧ (∀ E h', E1 E h' → Pt E h') ∧ (∀ v h1, P1 v h1 → v = none ∧ Z m1 n1 h1) :=
  ⟨d, _, _, 0, 0, hc, ⟨hd, hk.1, hk.2⟩, fun _ _ q => q.elim, fun v h1 q => ⟨q.1, hz _ q.2⟩⟩
theorem use_iP {g : GG} {d D kc ks mc ms : Nat} {y : MethodName} {ws : List Cond} {al : List Value} {h : Hp} {P : Int32 → Hp → Prop} {Pt : String → Hp → Prop} {Z : Nat → Nat → Int32 → Hp → Prop} (hc : CT g d y ws al h 0 0 (fun v h2 => ∃ r, v = some (.int r) ∧ P r h2) noT) (hd : d + 1 ≤ D) (hk : kc ≤ mc ∧ ks ≤ ms) (hz : ∀ r h', P r h' → Z 0 0 r h') :
    ∃ d1 P1 E1 m1 n1, CT g d1 y ws al h m1 n1 P1 E1 ∧ (d1 + 1 ≤ D ∧ kc + m1 ≤ mc ∧ ks + n1 ≤ ms) ∧ (∀ E h', E1 E h' → Pt E h') ∧ (∀ v h1, P1 v h1 → ∃ x, v = some (.int x) ∧ Z m1 n1 x h1) :=
  ⟨d, _, _, 0, 0, hc, ⟨hd, hk.1, hk.2⟩, fun _ _ q => q.elim, fun v h1 q => by obtain ⟨r, q1, q2⟩ := q; exact ⟨r, q1, hz r h1 q2⟩⟩
/-- .. of a nest mate's static method -/
theorem use_iN {g : GG} {d D kc ks mc ms : Nat} {y : MethodName} {ws : List Cond} {al : List Value} {h h' : Hp} {r : Int32} {Z : Nat → Nat → Int32 → Hp → Prop} (hc : CT g d y ws al h 0 0 (fun v h2 => v = some (.int r) ∧ h2 = h') noT) (hd : d + 1 ≤ D) (hk : kc ≤ mc ∧ ks ≤ ms) (hz : Z 0 0 r h') :
    ∃ d1 P1 m1 n1, CT g d1 y ws al h m1 n1 P1 noT ∧ (d1 + 1 ≤ D ∧ kc + m1 ≤ mc ∧ ks + n1 ≤ ms) ∧ (∀ v h1, P1 v h1 → ∃ x, v = some (.int x) ∧ Z m1 n1 x h1) :=
  ⟨d, _, 0, 0, hc, ⟨hd, hk.1, hk.2⟩, fun v h1 q => ⟨r, q.1, by rw [q.2]; exact hz⟩⟩
theorem CT.mono {g : GG} {d : Nat} {y : MethodName} {ws : List Cond} {al : List Value} {h : Hp} {mc ms : Nat} {P P' : Option Value → Hp → Prop} {E E' : String → Hp → Prop} (hc : CT g d y ws al h mc ms P E) (h1 : ∀ v h2, P v h2 → P' v h2) (h2 : ∀ v h2, E v h2 → E' v h2) : CT g d y ws al h mc ms P' E' := by
  intro p e ha hcs hk s m args below hf happ hP hK
  obtain ⟨n, o, q1, q2, q3, q4⟩ := hc p e ha hcs hk s m args below hf happ hP hK
  refine ⟨n, o, q1, q2, q3, ?_⟩
  rcases q4 with ⟨⟨v, h', a1, a2, a3⟩, b⟩ | ⟨q, a0, E1, ce, L, ⟨h', a1, a2⟩, b⟩
  · exact Or.inl ⟨⟨v, h', a1, h1 _ _ a2, a3⟩, b⟩
  · exact Or.inr ⟨q, a0, E1, ce, L, ⟨h', h2 _ _ a1, a2⟩, b⟩
