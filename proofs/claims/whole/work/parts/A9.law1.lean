/-! THE LAW: what always holds between its steps -/
section LW1
variable {g : GG} {h h2 h' : Hp} {s : CoreV} {x : ScrV} {R : RefV} {m : Res} {cd : Bool → Int32}
theorem CA.lo83 (q : CA [] h s x) (e : ∀ k, k < 83 → h2[k]? = h[k]?) : CA [] h2 s x := by
  have t := tb_or s
  have sm : ∀ {a n : Nat} {cs : List va_E}, Chunk h a cs → cs.length = n → a + n ≤ 83 → Chunk h2 a cs := fun {a n cs} q1 q2 q3 => q1.same fun k k1 k2 => e k (by omega)
  exact ⟨⟨Nat.zero_le _, fun k _ hk => absurd hk (Nat.not_lt_zero _)⟩, sm q.ob (n := 1) rfl (by decide), sm q.tp (n := 1) rfl (by decide), sm q.t (n := 12) rfl (by omega), sm q.d (n := 12) rfl (by omega), sm q.mo (n := 1) rfl (by decide), sm q.l (n := 7) rfl (by decide), sm q.p (n := 2) rfl (by decide), sm q.sn (n := 4) rfl (by decide), sm q.mk (n := 1) rfl (by decide), sm q.l2 (n := 7) rfl (by decide), sm q.p2 (n := 2) rfl (by decide), sm q.sn2 (n := 4) rfl (by decide), sm q.tr (n := 7) rfl (by decide), sm q.be (n := 7) rfl (by decide), sm q.gu (n := 1) rfl (by decide), sm q.gl (n := 7) rfl (by decide), sm q.lk (n := 1) rfl (by decide), sm q.lo (n := 1) rfl (by decide), sm q.hi (n := 1) rfl (by decide), sm q.se (n := 3) rfl (by decide), sm q.ga (n := 1) rfl (by decide)⟩
theorem CA.nil {h0 : Hp} (q : CA h0 h s x) : CA [] h s x := ⟨⟨Nat.zero_le _, fun k _ hk => absurd hk (Nat.not_lt_zero _)⟩, q.2⟩
def ouC (f : JF) : List va_E := [.inl (2, 1, .inr (.inl f))]
def LI (h : Hp) (s : CoreV) (x : ScrV) (R : RefV) : Prop := CA [] h s x ∧ RA h 83 R ∧ (∃ f, Chunk h 114 (ouC f)) ∧ RS s R ∧ IV s
theorem fr_ra {R : RefV} (q : FR h h') (a : RA h 83 R) : RA h' 83 R := Chunk.same a fun k k1 k2 => q.2 k (by omega) (by
  have := a.le (by rw [refC_len]; omega)
  omega)
theorem fr_ou {f : JF} (q : FR h h') (a : Chunk h 114 (ouC f)) : Chunk h' 114 (ouC f) := a.same fun k k1 k2 => q.2 k (by omega) (by
  have e : (ouC f).length = 1 := rfl
  have := a.le (by rw [e]; omega)
  omega)
theorem ou_w {f : JF} (a : Chunk h 114 (ouC f)) (v : Int64) : uJ h 114 0 v = some (putC h 114 (ouC (vp_updL f 0 v))) := by
  have e : aG h 114 = some (1, f) := by unfold aG; rw [show h[114]? = _ from a 0 _ rfl]; rfl
  unfold uJ
  rw [e]
  rfl
theorem ou_r {f : JF} (a : Chunk h 114 (ouC f)) : aJ h 114 0 = some (f 0) := by
  have e : aG h 114 = some (1, f) := by unfold aG; rw [show h[114]? = _ from a 0 _ rfl]; rfl
  unfold aJ
  rw [e]
  rfl
theorem ou_put {f f' : JF} (a : Chunk h 114 (ouC f)) : Chunk (putC h 114 (ouC f')) 114 (ouC f') := a.putN (n := 0) rfl rfl
theorem ra_ou {f' : JF} (a : RA h 83 R) : RA (putC h 114 (ouC f')) 83 R := Chunk.same a fun k k1 k2 => putC_out _ _ _ _ (by rw [refC_len] at k2; omega)
theorem ca_ou {f' : JF} (a : CA [] h s x) : CA [] (putC h 114 (ouC f')) s x := a.lo83 fun k hk => putC_out _ _ _ _ (by omega)
theorem ca_pR {R' : RefV} (a : CA [] h s x) : CA [] (pR h 83 R') s x := a.lo83 fun k hk => putC_out _ _ _ _ (by omega)
theorem ou_pR {f : JF} {R' : RefV} (a : Chunk h 114 (ouC f)) : Chunk (pR h 83 R') 114 (ouC f) := a.same fun k k1 k2 => putC_out _ _ _ _ (by rw [refC_len]; have e : (ouC f).length = 1 := rfl; omega)
/-- after a helper -/
def PL (R : RefV) (s : CoreV) (m : Res) (cd : Bool → Int32) (v : Option Value) (h2 : Hp) : Prop := ∃ k f, v = some (.int k) ∧ RA h2 83 R ∧ Chunk h2 114 (ouC f) ∧ (match m with
  | .inl p => k = 0 ∧ f 0 = Int32.toInt64 p.1 ∧ ∃ x', CA [] h2 p.2 x'
  | .inr b => k = cd b ∧ ∃ x', CA [] h2 s x')
theorem hl_kk (l : LI h s x R) : ∀ v h', PrC h m v h' → ∃ a h2, v = some (.int a) ∧ uJ h' 114 0 (Int32.toInt64 a) = some h2 ∧ PL R s m cd (some (.int 0)) h2 := by
  intro v h' q
  obtain ⟨a, s', x', em, ev, c⟩ := q
  obtain ⟨_, ra, ⟨f, ou⟩, _, _⟩ := l
  have ou' := fr_ou c.fr ou
  refine ⟨a, _, ev, ou_w ou' _, 0, _, rfl, ra_ou (fr_ra c.fr ra), ou_put ou', ?_⟩
  rw [em]
  exact ⟨rfl, rfl, x', ca_ou c.nil⟩
theorem hl_x (l : LI h s x R) {E : String} (q : PtC h s m E h') : ∃ b, m = .inr b ∧ E = nmE b ∧ ∀ k, k = cd b → PL R s m cd (some (.int k)) h' := by
  obtain ⟨b, x', em, ee, c⟩ := q
  obtain ⟨_, ra, ⟨f, ou⟩, _, _⟩ := l
  refine ⟨b, em, ee, fun k hk => ⟨k, f, rfl, fr_ra c.fr ra, fr_ou c.fr ou, ?_⟩⟩
  rw [em]
  exact ⟨hk, x', c.nil⟩
theorem hl_2 (l : LI h s x R) : ∀ E h', PtC h s m E h' → (E = "java/util/NoSuchElementException" ∧ PL R s m cd2 (some (.int 1)) h') ∨ (E = "java/lang/IllegalArgumentException" ∧ PL R s m cd2 (some (.int 2)) h') := by
  intro E h' q
  obtain ⟨b, em, ee, k⟩ := hl_x (cd := cd2) l q
  cases b with
  | true => exact Or.inl ⟨ee, k 1 rfl⟩
  | false => exact Or.inr ⟨ee, k 2 rfl⟩
theorem hl_N (l : LI h s x R) (hm : ∀ b, m = .inr b → b = true) : ∀ E h', PtC h s m E h' → E = "java/util/NoSuchElementException" ∧ PL R s m cd2 (some (.int 1)) h' := by
  intro E h' q
  obtain ⟨b, em, ee, k⟩ := hl_x (cd := cd2) l q
  have := hm b em
  subst this
  exact ⟨ee, k 1 rfl⟩
theorem hl_I (l : LI h s x R) (hm : ∀ b, m = .inr b → b = false) : ∀ E h', PtC h s m E h' → E = "java/lang/IllegalArgumentException" ∧ PL R s m cd1 (some (.int 1)) h' := by
  intro E h' q
  obtain ⟨b, em, ee, k⟩ := hl_x (cd := cd1) l q
  have := hm b em
  subst this
  exact ⟨ee, k 1 rfl⟩
/-- after the reference's own -/
def PM (s : CoreV) (m : Res) (k v6 : Int32) (h4 : Hp) : Prop := ∃ s' x' R' f, LI h4 s' x' R' ∧ Chunk h4 114 (ouC f) ∧ ri R' 0 = k ∧ (k = 0 → f 0 = Int32.toInt64 v6)
theorem pl_pm {k : Int32} {v : Option Value} (hc : ∀ b, ¬ cd b = 0) (hI : IV s) (hiv : ∀ p, m = .inl p → IV p.2) (q : PL R s m cd (some (.int k)) h) (w : PrM h 83 cd s m v h2) : ∃ v6, v = some (.int v6) ∧ PM s m k v6 h2 := by
  obtain ⟨k', f, ek, ra, ou, q⟩ := q
  have ek' : k' = k := by cases ek; rfl
  subst ek'
  obtain ⟨R', e, w⟩ := w
  rw [e]
  cases m with
  | inl p =>
    obtain ⟨k0, f0, x', c⟩ := q
    obtain ⟨ev, z, rs⟩ := w
    exact ⟨p.1, ev, p.2, x', R', f, ⟨ca_pR c, ra.put R', ⟨f, ou_pR ou⟩, rs, hiv p rfl⟩, ou_pR ou, z.trans k0.symm, fun _ => f0⟩
  | inr b =>
    obtain ⟨k0, x', c⟩ := q
    obtain ⟨⟨a, ev⟩, z, rs⟩ := w
    exact ⟨a, ev, s, x', R', f, ⟨ca_pR c, ra.put R', ⟨f, ou_pR ou⟩, rs, hI⟩, ou_pR ou, z.trans k0.symm, fun e => absurd (k0.symm.trans e) (hc b)⟩
theorem lg_cmp_self (v : Int64) : lg_cmp v v = 0 := by simp [lg_cmp]
theorem lw_tail {Rm : Room} {k v6 : Int32} {kc ks : Nat} {V F1 F2 : Nat → Nat → Hp → Prop} (hg : GOK g) (hr : 20 ≤ Rm.frames ∧ 2000 ≤ Rm.locals) (hk : kc ≤ Rm.cells ∧ ks ≤ Rm.slots) (q : PM s m k v6 h) (z : ∀ s' x' R', LI h s' x' R' → V 0 0 h) :
    ∃ fs6, oF h 83 11 = some fs6 ∧ ∃ d6 P6 m6 n6, CT g d6 yX12_thrown (wsC yX12_thrown cX12_thrown 1 (some .int)) [.ref 83] h m6 n6 P6 noT ∧ ((d6 + 1 ≤ Rm.frames ∧ 60 * (d6 + 1) + 200 ≤ Rm.locals) ∧ kc + m6 ≤ Rm.cells ∧ ks + n6 ≤ Rm.slots) ∧ (∀ v h6, P6 v h6 → ∃ v8, v = some (.int v8) ∧ ((v8 = k → ((¬ k = 0 → V m6 n6 h6) ∧ (k = 0 → ∃ v9, aJ h6 114 (0 : Int32) = some v9 ∧ ((lg_cmp v9 (Int32.toInt64 v6) = 0 → V m6 n6 h6) ∧ (¬ lg_cmp v9 (Int32.toInt64 v6) = 0 → F1 m6 n6 h6))))) ∧ (¬ v8 = k → F2 m6 n6 h6))) := by
  obtain ⟨s', x', R', f, li, ou, ek, e0⟩ := q
  refine ⟨_, li.2.1.o, 9, _, 0, 0, r_thrown hg (by omega) li.2.1, ⟨⟨by omega, by omega⟩, hk⟩, fun v h6 q => ⟨_, q.1, ?_⟩⟩
  rw [q.2, ek]
  refine ⟨fun _ => ⟨fun _ => z s' x' R' li, fun y => ⟨_, ou_r ou, fun _ => z s' x' R' li, fun y2 => ?_⟩⟩, fun y => absurd rfl y⟩
  rw [e0 y] at y2
  exact absurd (lg_cmp_self _) y2
/-- a call of the class that doesn't throw -/
theorem no_thr {d : Nat} {y : MethodName} {ws : List Cond} {al : List Value} {mc ms : Nat} {P : Option Value → Hp → Prop} (hm : ∀ b, ¬ m = .inr b) (c : CT g d y ws al h mc ms P (PtC h s m)) : CT g d y ws al h mc ms P noT := c.mono (fun _ _ q => q) (fun _ _ q => by obtain ⟨b, _, em, _⟩ := q; exact absurd em (hm b))
/-- .. and what is then so -/
def PD (R : RefV) (m : Res) (v : Option Value) (h2 : Hp) : Prop := ∃ p x', m = .inl p ∧ v = some (.int p.1) ∧ CA [] h2 p.2 x' ∧ RA h2 83 R ∧ ∃ f, Chunk h2 114 (ouC f)
theorem pd_of {v : Option Value} (l : LI h s x R) (q : PrC h m v h2) : PD R m v h2 := by
  obtain ⟨a, s', x', em, ev, c⟩ := q
  obtain ⟨_, ra, ⟨f, ou⟩, _, _⟩ := l
  exact ⟨(a, s'), x', em, ev, c.nil, fr_ra c.fr ra, f, fr_ou c.fr ou⟩
theorem pd_li {v : Option Value} {p : Int32 × CoreV} {x' : ScrV} {f : JF} (hiv : IV p.2) (c : CA [] h p.2 x') (ra : RA h 83 R) (ou : Chunk h 114 (ouC f)) (w : PrM h 83 cd s (.inl p) v h2) : v = some (.int p.1) ∧ ∃ R', LI h2 p.2 x' R' := by
  obtain ⟨R', e, ev, z, rs⟩ := w
  rw [e]
  exact ⟨ev, R', ca_pR c, ra.put R', ⟨f, ou_pR ou⟩, rs, hiv⟩
end LW1
