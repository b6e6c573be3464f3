/-! THE CLASS'S WHOLE STATE: its chunks from cell 0 on (83 cells); s what is told of it, x what is but scratch; h0: the heap whose cells from 83 on stay -/
abbrev OwnV : Type := Nat × Int32 × Int32 × Int32 × Int32 × Bool × Int32
abbrev CoreV : Type := OwnV × AF × ToldV × LandV × PastV × SeenV × LandV × PastV × SeenV
abbrev JF : Type := Nat → Int64
abbrev KScr : Type := AF × AF × AF × AF
abbrev ScrV : Type := KScr × ToldV × LandV × LandV × (Int32 × Int32) × LandV × AF × JF × JF × (AF × AF × Int32) × AF × Int32
abbrev sO (s : CoreV) : OwnV := s.1
abbrev sTp (s : CoreV) : AF := s.2.1
abbrev sT (s : CoreV) : ToldV := s.2.2.1
abbrev sL (s : CoreV) : LandV := s.2.2.2.1
abbrev sP (s : CoreV) : PastV := s.2.2.2.2.1
abbrev sS (s : CoreV) : SeenV := s.2.2.2.2.2.1
abbrev sL2 (s : CoreV) : LandV := s.2.2.2.2.2.2.1
abbrev sP2 (s : CoreV) : PastV := s.2.2.2.2.2.2.2.1
abbrev sS2 (s : CoreV) : SeenV := s.2.2.2.2.2.2.2.2
def usO (s : CoreV) (z : OwnV) : CoreV := (z, sTp s, sT s, sL s, sP s, sS s, sL2 s, sP2 s, sS2 s)
def usTp (s : CoreV) (z : AF) : CoreV := (sO s, z, sT s, sL s, sP s, sS s, sL2 s, sP2 s, sS2 s)
def usT (s : CoreV) (z : ToldV) : CoreV := (sO s, sTp s, z, sL s, sP s, sS s, sL2 s, sP2 s, sS2 s)
def usL (s : CoreV) (z : LandV) : CoreV := (sO s, sTp s, sT s, z, sP s, sS s, sL2 s, sP2 s, sS2 s)
def usP (s : CoreV) (z : PastV) : CoreV := (sO s, sTp s, sT s, sL s, z, sS s, sL2 s, sP2 s, sS2 s)
def usS (s : CoreV) (z : SeenV) : CoreV := (sO s, sTp s, sT s, sL s, sP s, z, sL2 s, sP2 s, sS2 s)
def usL2 (s : CoreV) (z : LandV) : CoreV := (sO s, sTp s, sT s, sL s, sP s, sS s, z, sP2 s, sS2 s)
def usP2 (s : CoreV) (z : PastV) : CoreV := (sO s, sTp s, sT s, sL s, sP s, sS s, sL2 s, z, sS2 s)
def usS2 (s : CoreV) (z : SeenV) : CoreV := (sO s, sTp s, sT s, sL s, sP s, sS s, sL2 s, sP2 s, z)
abbrev xK (x : ScrV) : KScr := x.1
abbrev xD (x : ScrV) : ToldV := x.2.1
abbrev xTr (x : ScrV) : LandV := x.2.2.1
abbrev xBe (x : ScrV) : LandV := x.2.2.2.1
abbrev xG (x : ScrV) : Int32 × Int32 := x.2.2.2.2.1
abbrev xGL (x : ScrV) : LandV := x.2.2.2.2.2.1
abbrev xLk (x : ScrV) : AF := x.2.2.2.2.2.2.1
abbrev xLo (x : ScrV) : JF := x.2.2.2.2.2.2.2.1
abbrev xHi (x : ScrV) : JF := x.2.2.2.2.2.2.2.2.1
abbrev xSe (x : ScrV) : AF × AF × Int32 := x.2.2.2.2.2.2.2.2.2.1
abbrev xGa (x : ScrV) : AF := x.2.2.2.2.2.2.2.2.2.2.1
abbrev xSd (x : ScrV) : Int32 := x.2.2.2.2.2.2.2.2.2.2.2
def uxK (x : ScrV) (z : KScr) : ScrV := (z, xD x, xTr x, xBe x, xG x, xGL x, xLk x, xLo x, xHi x, xSe x, xGa x, xSd x)
def uxD (x : ScrV) (z : ToldV) : ScrV := (xK x, z, xTr x, xBe x, xG x, xGL x, xLk x, xLo x, xHi x, xSe x, xGa x, xSd x)
def uxTr (x : ScrV) (z : LandV) : ScrV := (xK x, xD x, z, xBe x, xG x, xGL x, xLk x, xLo x, xHi x, xSe x, xGa x, xSd x)
def uxBe (x : ScrV) (z : LandV) : ScrV := (xK x, xD x, xTr x, z, xG x, xGL x, xLk x, xLo x, xHi x, xSe x, xGa x, xSd x)
def uxG (x : ScrV) (z : Int32 × Int32) : ScrV := (xK x, xD x, xTr x, xBe x, z, xGL x, xLk x, xLo x, xHi x, xSe x, xGa x, xSd x)
def uxGL (x : ScrV) (z : LandV) : ScrV := (xK x, xD x, xTr x, xBe x, xG x, z, xLk x, xLo x, xHi x, xSe x, xGa x, xSd x)
def uxLk (x : ScrV) (z : AF) : ScrV := (xK x, xD x, xTr x, xBe x, xG x, xGL x, z, xLo x, xHi x, xSe x, xGa x, xSd x)
def uxLo (x : ScrV) (z : JF) : ScrV := (xK x, xD x, xTr x, xBe x, xG x, xGL x, xLk x, z, xHi x, xSe x, xGa x, xSd x)
def uxHi (x : ScrV) (z : JF) : ScrV := (xK x, xD x, xTr x, xBe x, xG x, xGL x, xLk x, xLo x, z, xSe x, xGa x, xSd x)
def uxSe (x : ScrV) (z : AF × AF × Int32) : ScrV := (xK x, xD x, xTr x, xBe x, xG x, xGL x, xLk x, xLo x, xHi x, z, xGa x, xSd x)
def uxGa (x : ScrV) (z : AF) : ScrV := (xK x, xD x, xTr x, xBe x, xG x, xGL x, xLk x, xLo x, xHi x, xSe x, z, xSd x)
def uxSd (x : ScrV) (z : Int32) : ScrV := (xK x, xD x, xTr x, xBe x, xG x, xGL x, xLk x, xLo x, xHi x, xSe x, xGa x, z)
abbrev oTl (o : OwnV) : Nat := o.1
abbrev oFp (o : OwnV) : Int32 := o.2.1
abbrev oRt (o : OwnV) : Int32 := o.2.2.1
abbrev oRa (o : OwnV) : Int32 := o.2.2.2.1
abbrev oRs (o : OwnV) : Int32 := o.2.2.2.2.1
abbrev oSw (o : OwnV) : Bool := o.2.2.2.2.2.1
abbrev oHi (o : OwnV) : Int32 := o.2.2.2.2.2.2
def uoTl (o : OwnV) (z : Nat) : OwnV := (z, oFp o, oRt o, oRa o, oRs o, oSw o, oHi o)
def uoFp (o : OwnV) (z : Int32) : OwnV := (oTl o, z, oRt o, oRa o, oRs o, oSw o, oHi o)
def uoRt (o : OwnV) (z : Int32) : OwnV := (oTl o, oFp o, z, oRa o, oRs o, oSw o, oHi o)
def uoRa (o : OwnV) (z : Int32) : OwnV := (oTl o, oFp o, oRt o, z, oRs o, oSw o, oHi o)
def uoRs (o : OwnV) (z : Int32) : OwnV := (oTl o, oFp o, oRt o, oRa o, z, oSw o, oHi o)
def uoSw (o : OwnV) (z : Bool) : OwnV := (oTl o, oFp o, oRt o, oRa o, oRs o, z, oHi o)
def uoHi (o : OwnV) (z : Int32) : OwnV := (oTl o, oFp o, oRt o, oRa o, oRs o, oSw o, z)
def tb (s : CoreV) : Nat := if oSw (sO s) then 14 else 2
def db (s : CoreV) : Nat := if oSw (sO s) then 2 else 14
theorem tb_or (s : CoreV) : (tb s = 2 ∧ db s = 14) ∨ (tb s = 14 ∧ db s = 2) := by unfold tb db; cases oSw (sO s) <;> simp
/-- Told with its scratch: waiting; figures, ways, fewest of its knots -/
def tK4 (T : ToldV) (z : KScr) : ToldV := (tN_ T, tW T, tWk T, tWg T, tKg T, tSk T, ((tK T).1, (tK T).2.1, (tK T).2.2.1, z.2.1, z.2.2.1, z.2.2.2), tFr T, tPl T, tCo T, tCl T, z.1)
def tO (s : CoreV) (x : ScrV) : ToldV := tK4 (sT s) (xK x)
def objC (s : CoreV) (x : ScrV) : List va_E := [.inr (10, [.ref 1, .int (nI (oTl (sO s))), .int (oFp (sO s)), .int (oRt (sO s)), .int (oRa (sO s)), .int (oRs (sO s)), .ref (tb s), .ref (db s), .ref 26, .ref 40, .int (oHi (sO s)), .ref 54, .ref 61, .ref 68, .int (xSd x), .ref 79, .ref 82])]
def tapC (f : AF) : List va_E := [.inl (1, 700, .inl f)]
def momC (a : Nat) : List va_E := [.inr (3, [.ref (a + 1), .ref (a + 8), .ref (a + 10)])]
def gueC (q : Int32 × Int32) : List va_E := [.inr (0, [.int q.1, .int q.2, .ref 69, .ref 76, .ref 77, .ref 78])]
def arrC (n : Nat) (f : AF) : List va_E := [.inl (0, n, .inl f)]
def lonC (f : JF) : List va_E := [.inl (2, 12, .inr (.inl f))]
def senC (z : AF × AF × Int32) : List va_E := [.inr (8, [.ref 80, .ref 81, .int z.2.2]), .inl (0, 64, .inl z.1), .inl (0, 6, .inl z.2.1)]
def FR (h0 h : Hp) : Prop := h0.length ≤ h.length ∧ ∀ k, 83 ≤ k → k < h0.length → h[k]? = h0[k]?
def CA (h0 h : Hp) (s : CoreV) (x : ScrV) : Prop :=
  FR h0 h ∧ Chunk h 0 (objC s x) ∧ Chunk h 1 (tapC (sTp s)) ∧ Chunk h (tb s) (toldC (tb s) (tO s x)) ∧ Chunk h (db s) (toldC (db s) (xD x)) ∧ Chunk h 26 (momC 26) ∧ Chunk h 27 (landC 27 (sL s)) ∧ Chunk h 34 (pastC 34 (sP s)) ∧ Chunk h 36 (seenC 36 (sS s)) ∧ Chunk h 40 (momC 40) ∧ Chunk h 41 (landC 41 (sL2 s)) ∧ Chunk h 48 (pastC 48 (sP2 s)) ∧ Chunk h 50 (seenC 50 (sS2 s)) ∧ Chunk h 54 (landC 54 (xTr x)) ∧ Chunk h 61 (landC 61 (xBe x)) ∧ Chunk h 68 (gueC (xG x)) ∧ Chunk h 69 (landC 69 (xGL x)) ∧ Chunk h 76 (arrC 12 (xLk x)) ∧ Chunk h 77 (lonC (xLo x)) ∧ Chunk h 78 (lonC (xHi x)) ∧ Chunk h 79 (senC (xSe x)) ∧ Chunk h 82 (arrC 8 (xGa x))
section CAs
variable {h0 h : Hp} {s : CoreV} {x : ScrV}
theorem CA.fr (q : CA h0 h s x) : FR h0 h := q.1
theorem CA.ob (q : CA h0 h s x) : Chunk h 0 (objC s x) := q.2.1
theorem CA.tp (q : CA h0 h s x) : Chunk h 1 (tapC (sTp s)) := q.2.2.1
theorem CA.t (q : CA h0 h s x) : TA h (tb s) (tO s x) := q.2.2.2.1
theorem CA.d (q : CA h0 h s x) : TA h (db s) (xD x) := q.2.2.2.2.1
theorem CA.mo (q : CA h0 h s x) : Chunk h 26 (momC 26) := q.2.2.2.2.2.1
theorem CA.l (q : CA h0 h s x) : LA h 27 (sL s) := q.2.2.2.2.2.2.1
theorem CA.p (q : CA h0 h s x) : PAt h 34 (sP s) := q.2.2.2.2.2.2.2.1
theorem CA.sn (q : CA h0 h s x) : SAt h 36 (sS s) := q.2.2.2.2.2.2.2.2.1
theorem CA.mk (q : CA h0 h s x) : Chunk h 40 (momC 40) := q.2.2.2.2.2.2.2.2.2.1
theorem CA.l2 (q : CA h0 h s x) : LA h 41 (sL2 s) := q.2.2.2.2.2.2.2.2.2.2.1
theorem CA.p2 (q : CA h0 h s x) : PAt h 48 (sP2 s) := q.2.2.2.2.2.2.2.2.2.2.2.1
theorem CA.sn2 (q : CA h0 h s x) : SAt h 50 (sS2 s) := q.2.2.2.2.2.2.2.2.2.2.2.2.1
theorem CA.tr (q : CA h0 h s x) : LA h 54 (xTr x) := q.2.2.2.2.2.2.2.2.2.2.2.2.2.1
theorem CA.be (q : CA h0 h s x) : LA h 61 (xBe x) := q.2.2.2.2.2.2.2.2.2.2.2.2.2.2.1
theorem CA.gu (q : CA h0 h s x) : Chunk h 68 (gueC (xG x)) := q.2.2.2.2.2.2.2.2.2.2.2.2.2.2.2.1
theorem CA.gl (q : CA h0 h s x) : LA h 69 (xGL x) := q.2.2.2.2.2.2.2.2.2.2.2.2.2.2.2.2.1
theorem CA.lk (q : CA h0 h s x) : Chunk h 76 (arrC 12 (xLk x)) := q.2.2.2.2.2.2.2.2.2.2.2.2.2.2.2.2.2.1
theorem CA.lo (q : CA h0 h s x) : Chunk h 77 (lonC (xLo x)) := q.2.2.2.2.2.2.2.2.2.2.2.2.2.2.2.2.2.2.1
theorem CA.hi (q : CA h0 h s x) : Chunk h 78 (lonC (xHi x)) := q.2.2.2.2.2.2.2.2.2.2.2.2.2.2.2.2.2.2.2.1
theorem CA.se (q : CA h0 h s x) : Chunk h 79 (senC (xSe x)) := q.2.2.2.2.2.2.2.2.2.2.2.2.2.2.2.2.2.2.2.2.1
theorem CA.ga (q : CA h0 h s x) : Chunk h 82 (arrC 8 (xGa x)) := q.2.2.2.2.2.2.2.2.2.2.2.2.2.2.2.2.2.2.2.2.2
theorem Chunk.offN {h : Hp} {a b n m : Nat} {cs ds : List va_E} (hc : Chunk h a cs) (h1 : cs.length = n) (h2 : ds.length = m) (hd : a + n ≤ b ∨ b + m ≤ a) : Chunk (putC h b ds) a cs := Chunk.off hc (by omega)
theorem FR.put {h0 h : Hp} {b m : Nat} {ds : List va_E} (q : FR h0 h) (h2 : ds.length = m) (hb : b + m ≤ 83) : FR h0 (putC h b ds) := ⟨by rw [putC_len]; exact q.1, fun k hk hl => by rw [putC_out _ _ _ _ (by omega)]; exact q.2 k hk hl⟩
theorem Chunk.putN {h : Hp} {a n : Nat} {cs ds : List va_E} (hc : Chunk h a cs) (h1 : cs.length = n + 1) (h2 : ds.length = n + 1) : Chunk (putC h a ds) a ds := Chunk.put (by have := hc.le (by omega); omega)
theorem Chunk.app {h : Hp} {a : Nat} {cs : List va_E} (hc : Chunk h a cs) (e : Hp) : Chunk (h ++ e) a cs := fun j z hj => by
  have := hc j z hj
  rw [List.getElem?_append_left (List.getElem?_eq_some_iff.mp this).1]; exact this
theorem FR.app {h0 h : Hp} (q : FR h0 h) (e : Hp) : FR h0 (h ++ e) := ⟨by rw [List.length_append]; have := q.1; omega, fun k hk hl => by rw [List.getElem?_append_left (by have := q.1; omega)]; exact q.2 k hk hl⟩
theorem CA.app (q : CA h0 h s x) (e : Hp) : CA h0 (h ++ e) s x := ⟨q.fr.app e, q.ob.app e, q.tp.app e, q.t.app e, q.d.app e, q.mo.app e, q.l.app e, q.p.app e, q.sn.app e, q.mk.app e, q.l2.app e, q.p2.app e, q.sn2.app e, q.tr.app e, q.be.app e, q.gu.app e, q.gl.app e, q.lk.app e, q.lo.app e, q.hi.app e, q.se.app e, q.ga.app e⟩
theorem CA.u_tp (q : CA h0 h s x) (z : AF) : CA h0 (putC h 1 (tapC z)) (usTp s z) x := ⟨q.fr.put (m := 1) rfl (by decide), q.ob.offN (n := 1) (m := 1) rfl rfl (by decide), q.tp.putN (n := 0) rfl rfl, q.t.offN (n := 12) (m := 1) rfl rfl (by have := tb_or s; omega), q.d.offN (n := 12) (m := 1) rfl rfl (by have := tb_or s; omega), q.mo.offN (n := 1) (m := 1) rfl rfl (by decide), q.l.offN (n := 7) (m := 1) rfl rfl (by decide), q.p.offN (n := 2) (m := 1) rfl rfl (by decide), q.sn.offN (n := 4) (m := 1) rfl rfl (by decide), q.mk.offN (n := 1) (m := 1) rfl rfl (by decide), q.l2.offN (n := 7) (m := 1) rfl rfl (by decide), q.p2.offN (n := 2) (m := 1) rfl rfl (by decide), q.sn2.offN (n := 4) (m := 1) rfl rfl (by decide), q.tr.offN (n := 7) (m := 1) rfl rfl (by decide), q.be.offN (n := 7) (m := 1) rfl rfl (by decide), q.gu.offN (n := 1) (m := 1) rfl rfl (by decide), q.gl.offN (n := 7) (m := 1) rfl rfl (by decide), q.lk.offN (n := 1) (m := 1) rfl rfl (by decide), q.lo.offN (n := 1) (m := 1) rfl rfl (by decide), q.hi.offN (n := 1) (m := 1) rfl rfl (by decide), q.se.offN (n := 3) (m := 1) rfl rfl (by decide), q.ga.offN (n := 1) (m := 1) rfl rfl (by decide)⟩
theorem CA.u_t (q : CA h0 h s x) (z : KScr) : CA h0 (putC h (tb s) (toldC (tb s) (tK4 (sT s) z))) s (uxK x z) := ⟨q.fr.put (m := 12) rfl (by have := tb_or s; omega), q.ob.offN (n := 1) (m := 12) rfl rfl (by have := tb_or s; omega), q.tp.offN (n := 1) (m := 12) rfl rfl (by have := tb_or s; omega), q.t.putN (n := 11) rfl rfl, q.d.offN (n := 12) (m := 12) rfl rfl (by have := tb_or s; omega), q.mo.offN (n := 1) (m := 12) rfl rfl (by have := tb_or s; omega), q.l.offN (n := 7) (m := 12) rfl rfl (by have := tb_or s; omega), q.p.offN (n := 2) (m := 12) rfl rfl (by have := tb_or s; omega), q.sn.offN (n := 4) (m := 12) rfl rfl (by have := tb_or s; omega), q.mk.offN (n := 1) (m := 12) rfl rfl (by have := tb_or s; omega), q.l2.offN (n := 7) (m := 12) rfl rfl (by have := tb_or s; omega), q.p2.offN (n := 2) (m := 12) rfl rfl (by have := tb_or s; omega), q.sn2.offN (n := 4) (m := 12) rfl rfl (by have := tb_or s; omega), q.tr.offN (n := 7) (m := 12) rfl rfl (by have := tb_or s; omega), q.be.offN (n := 7) (m := 12) rfl rfl (by have := tb_or s; omega), q.gu.offN (n := 1) (m := 12) rfl rfl (by have := tb_or s; omega), q.gl.offN (n := 7) (m := 12) rfl rfl (by have := tb_or s; omega), q.lk.offN (n := 1) (m := 12) rfl rfl (by have := tb_or s; omega), q.lo.offN (n := 1) (m := 12) rfl rfl (by have := tb_or s; omega), q.hi.offN (n := 1) (m := 12) rfl rfl (by have := tb_or s; omega), q.se.offN (n := 3) (m := 12) rfl rfl (by have := tb_or s; omega), q.ga.offN (n := 1) (m := 12) rfl rfl (by have := tb_or s; omega)⟩
theorem CA.u_d (q : CA h0 h s x) (z : ToldV) : CA h0 (putC h (db s) (toldC (db s) z)) s (uxD x z) := ⟨q.fr.put (m := 12) rfl (by have := tb_or s; omega), q.ob.offN (n := 1) (m := 12) rfl rfl (by have := tb_or s; omega), q.tp.offN (n := 1) (m := 12) rfl rfl (by have := tb_or s; omega), q.t.offN (n := 12) (m := 12) rfl rfl (by have := tb_or s; omega), q.d.putN (n := 11) rfl rfl, q.mo.offN (n := 1) (m := 12) rfl rfl (by have := tb_or s; omega), q.l.offN (n := 7) (m := 12) rfl rfl (by have := tb_or s; omega), q.p.offN (n := 2) (m := 12) rfl rfl (by have := tb_or s; omega), q.sn.offN (n := 4) (m := 12) rfl rfl (by have := tb_or s; omega), q.mk.offN (n := 1) (m := 12) rfl rfl (by have := tb_or s; omega), q.l2.offN (n := 7) (m := 12) rfl rfl (by have := tb_or s; omega), q.p2.offN (n := 2) (m := 12) rfl rfl (by have := tb_or s; omega), q.sn2.offN (n := 4) (m := 12) rfl rfl (by have := tb_or s; omega), q.tr.offN (n := 7) (m := 12) rfl rfl (by have := tb_or s; omega), q.be.offN (n := 7) (m := 12) rfl rfl (by have := tb_or s; omega), q.gu.offN (n := 1) (m := 12) rfl rfl (by have := tb_or s; omega), q.gl.offN (n := 7) (m := 12) rfl rfl (by have := tb_or s; omega), q.lk.offN (n := 1) (m := 12) rfl rfl (by have := tb_or s; omega), q.lo.offN (n := 1) (m := 12) rfl rfl (by have := tb_or s; omega), q.hi.offN (n := 1) (m := 12) rfl rfl (by have := tb_or s; omega), q.se.offN (n := 3) (m := 12) rfl rfl (by have := tb_or s; omega), q.ga.offN (n := 1) (m := 12) rfl rfl (by have := tb_or s; omega)⟩
theorem CA.u_l (q : CA h0 h s x) (z : LandV) : CA h0 (putC h 27 (landC 27 z)) (usL s z) x := ⟨q.fr.put (m := 7) rfl (by decide), q.ob.offN (n := 1) (m := 7) rfl rfl (by decide), q.tp.offN (n := 1) (m := 7) rfl rfl (by decide), q.t.offN (n := 12) (m := 7) rfl rfl (by have := tb_or s; omega), q.d.offN (n := 12) (m := 7) rfl rfl (by have := tb_or s; omega), q.mo.offN (n := 1) (m := 7) rfl rfl (by decide), q.l.putN (n := 6) rfl rfl, q.p.offN (n := 2) (m := 7) rfl rfl (by decide), q.sn.offN (n := 4) (m := 7) rfl rfl (by decide), q.mk.offN (n := 1) (m := 7) rfl rfl (by decide), q.l2.offN (n := 7) (m := 7) rfl rfl (by decide), q.p2.offN (n := 2) (m := 7) rfl rfl (by decide), q.sn2.offN (n := 4) (m := 7) rfl rfl (by decide), q.tr.offN (n := 7) (m := 7) rfl rfl (by decide), q.be.offN (n := 7) (m := 7) rfl rfl (by decide), q.gu.offN (n := 1) (m := 7) rfl rfl (by decide), q.gl.offN (n := 7) (m := 7) rfl rfl (by decide), q.lk.offN (n := 1) (m := 7) rfl rfl (by decide), q.lo.offN (n := 1) (m := 7) rfl rfl (by decide), q.hi.offN (n := 1) (m := 7) rfl rfl (by decide), q.se.offN (n := 3) (m := 7) rfl rfl (by decide), q.ga.offN (n := 1) (m := 7) rfl rfl (by decide)⟩
theorem CA.u_p (q : CA h0 h s x) (z : PastV) : CA h0 (putC h 34 (pastC 34 z)) (usP s z) x := ⟨q.fr.put (m := 2) rfl (by decide), q.ob.offN (n := 1) (m := 2) rfl rfl (by decide), q.tp.offN (n := 1) (m := 2) rfl rfl (by decide), q.t.offN (n := 12) (m := 2) rfl rfl (by have := tb_or s; omega), q.d.offN (n := 12) (m := 2) rfl rfl (by have := tb_or s; omega), q.mo.offN (n := 1) (m := 2) rfl rfl (by decide), q.l.offN (n := 7) (m := 2) rfl rfl (by decide), q.p.putN (n := 1) rfl rfl, q.sn.offN (n := 4) (m := 2) rfl rfl (by decide), q.mk.offN (n := 1) (m := 2) rfl rfl (by decide), q.l2.offN (n := 7) (m := 2) rfl rfl (by decide), q.p2.offN (n := 2) (m := 2) rfl rfl (by decide), q.sn2.offN (n := 4) (m := 2) rfl rfl (by decide), q.tr.offN (n := 7) (m := 2) rfl rfl (by decide), q.be.offN (n := 7) (m := 2) rfl rfl (by decide), q.gu.offN (n := 1) (m := 2) rfl rfl (by decide), q.gl.offN (n := 7) (m := 2) rfl rfl (by decide), q.lk.offN (n := 1) (m := 2) rfl rfl (by decide), q.lo.offN (n := 1) (m := 2) rfl rfl (by decide), q.hi.offN (n := 1) (m := 2) rfl rfl (by decide), q.se.offN (n := 3) (m := 2) rfl rfl (by decide), q.ga.offN (n := 1) (m := 2) rfl rfl (by decide)⟩
theorem CA.u_sn (q : CA h0 h s x) (z : SeenV) : CA h0 (putC h 36 (seenC 36 z)) (usS s z) x := ⟨q.fr.put (m := 4) rfl (by decide), q.ob.offN (n := 1) (m := 4) rfl rfl (by decide), q.tp.offN (n := 1) (m := 4) rfl rfl (by decide), q.t.offN (n := 12) (m := 4) rfl rfl (by have := tb_or s; omega), q.d.offN (n := 12) (m := 4) rfl rfl (by have := tb_or s; omega), q.mo.offN (n := 1) (m := 4) rfl rfl (by decide), q.l.offN (n := 7) (m := 4) rfl rfl (by decide), q.p.offN (n := 2) (m := 4) rfl rfl (by decide), q.sn.putN (n := 3) rfl rfl, q.mk.offN (n := 1) (m := 4) rfl rfl (by decide), q.l2.offN (n := 7) (m := 4) rfl rfl (by decide), q.p2.offN (n := 2) (m := 4) rfl rfl (by decide), q.sn2.offN (n := 4) (m := 4) rfl rfl (by decide), q.tr.offN (n := 7) (m := 4) rfl rfl (by decide), q.be.offN (n := 7) (m := 4) rfl rfl (by decide), q.gu.offN (n := 1) (m := 4) rfl rfl (by decide), q.gl.offN (n := 7) (m := 4) rfl rfl (by decide), q.lk.offN (n := 1) (m := 4) rfl rfl (by decide), q.lo.offN (n := 1) (m := 4) rfl rfl (by decide), q.hi.offN (n := 1) (m := 4) rfl rfl (by decide), q.se.offN (n := 3) (m := 4) rfl rfl (by decide), q.ga.offN (n := 1) (m := 4) rfl rfl (by decide)⟩
theorem CA.u_l2 (q : CA h0 h s x) (z : LandV) : CA h0 (putC h 41 (landC 41 z)) (usL2 s z) x := ⟨q.fr.put (m := 7) rfl (by decide), q.ob.offN (n := 1) (m := 7) rfl rfl (by decide), q.tp.offN (n := 1) (m := 7) rfl rfl (by decide), q.t.offN (n := 12) (m := 7) rfl rfl (by have := tb_or s; omega), q.d.offN (n := 12) (m := 7) rfl rfl (by have := tb_or s; omega), q.mo.offN (n := 1) (m := 7) rfl rfl (by decide), q.l.offN (n := 7) (m := 7) rfl rfl (by decide), q.p.offN (n := 2) (m := 7) rfl rfl (by decide), q.sn.offN (n := 4) (m := 7) rfl rfl (by decide), q.mk.offN (n := 1) (m := 7) rfl rfl (by decide), q.l2.putN (n := 6) rfl rfl, q.p2.offN (n := 2) (m := 7) rfl rfl (by decide), q.sn2.offN (n := 4) (m := 7) rfl rfl (by decide), q.tr.offN (n := 7) (m := 7) rfl rfl (by decide), q.be.offN (n := 7) (m := 7) rfl rfl (by decide), q.gu.offN (n := 1) (m := 7) rfl rfl (by decide), q.gl.offN (n := 7) (m := 7) rfl rfl (by decide), q.lk.offN (n := 1) (m := 7) rfl rfl (by decide), q.lo.offN (n := 1) (m := 7) rfl rfl (by decide), q.hi.offN (n := 1) (m := 7) rfl rfl (by decide), q.se.offN (n := 3) (m := 7) rfl rfl (by decide), q.ga.offN (n := 1) (m := 7) rfl rfl (by decide)⟩
theorem CA.u_p2 (q : CA h0 h s x) (z : PastV) : CA h0 (putC h 48 (pastC 48 z)) (usP2 s z) x := ⟨q.fr.put (m := 2) rfl (by decide), q.ob.offN (n := 1) (m := 2) rfl rfl (by decide), q.tp.offN (n := 1) (m := 2) rfl rfl (by decide), q.t.offN (n := 12) (m := 2) rfl rfl (by have := tb_or s; omega), q.d.offN (n := 12) (m := 2) rfl rfl (by have := tb_or s; omega), q.mo.offN (n := 1) (m := 2) rfl rfl (by decide), q.l.offN (n := 7) (m := 2) rfl rfl (by decide), q.p.offN (n := 2) (m := 2) rfl rfl (by decide), q.sn.offN (n := 4) (m := 2) rfl rfl (by decide), q.mk.offN (n := 1) (m := 2) rfl rfl (by decide), q.l2.offN (n := 7) (m := 2) rfl rfl (by decide), q.p2.putN (n := 1) rfl rfl, q.sn2.offN (n := 4) (m := 2) rfl rfl (by decide), q.tr.offN (n := 7) (m := 2) rfl rfl (by decide), q.be.offN (n := 7) (m := 2) rfl rfl (by decide), q.gu.offN (n := 1) (m := 2) rfl rfl (by decide), q.gl.offN (n := 7) (m := 2) rfl rfl (by decide), q.lk.offN (n := 1) (m := 2) rfl rfl (by decide), q.lo.offN (n := 1) (m := 2) rfl rfl (by decide), q.hi.offN (n := 1) (m := 2) rfl rfl (by decide), q.se.offN (n := 3) (m := 2) rfl rfl (by decide), q.ga.offN (n := 1) (m := 2) rfl rfl (by decide)⟩
theorem CA.u_sn2 (q : CA h0 h s x) (z : SeenV) : CA h0 (putC h 50 (seenC 50 z)) (usS2 s z) x := ⟨q.fr.put (m := 4) rfl (by decide), q.ob.offN (n := 1) (m := 4) rfl rfl (by decide), q.tp.offN (n := 1) (m := 4) rfl rfl (by decide), q.t.offN (n := 12) (m := 4) rfl rfl (by have := tb_or s; omega), q.d.offN (n := 12) (m := 4) rfl rfl (by have := tb_or s; omega), q.mo.offN (n := 1) (m := 4) rfl rfl (by decide), q.l.offN (n := 7) (m := 4) rfl rfl (by decide), q.p.offN (n := 2) (m := 4) rfl rfl (by decide), q.sn.offN (n := 4) (m := 4) rfl rfl (by decide), q.mk.offN (n := 1) (m := 4) rfl rfl (by decide), q.l2.offN (n := 7) (m := 4) rfl rfl (by decide), q.p2.offN (n := 2) (m := 4) rfl rfl (by decide), q.sn2.putN (n := 3) rfl rfl, q.tr.offN (n := 7) (m := 4) rfl rfl (by decide), q.be.offN (n := 7) (m := 4) rfl rfl (by decide), q.gu.offN (n := 1) (m := 4) rfl rfl (by decide), q.gl.offN (n := 7) (m := 4) rfl rfl (by decide), q.lk.offN (n := 1) (m := 4) rfl rfl (by decide), q.lo.offN (n := 1) (m := 4) rfl rfl (by decide), q.hi.offN (n := 1) (m := 4) rfl rfl (by decide), q.se.offN (n := 3) (m := 4) rfl rfl (by decide), q.ga.offN (n := 1) (m := 4) rfl rfl (by decide)⟩
theorem CA.u_tr (q : CA h0 h s x) (z : LandV) : CA h0 (putC h 54 (landC 54 z)) s (uxTr x z) := ⟨q.fr.put (m := 7) rfl (by decide), q.ob.offN (n := 1) (m := 7) rfl rfl (by decide), q.tp.offN (n := 1) (m := 7) rfl rfl (by decide), q.t.offN (n := 12) (m := 7) rfl rfl (by have := tb_or s; omega), q.d.offN (n := 12) (m := 7) rfl rfl (by have := tb_or s; omega), q.mo.offN (n := 1) (m := 7) rfl rfl (by decide), q.l.offN (n := 7) (m := 7) rfl rfl (by decide), q.p.offN (n := 2) (m := 7) rfl rfl (by decide), q.sn.offN (n := 4) (m := 7) rfl rfl (by decide), q.mk.offN (n := 1) (m := 7) rfl rfl (by decide), q.l2.offN (n := 7) (m := 7) rfl rfl (by decide), q.p2.offN (n := 2) (m := 7) rfl rfl (by decide), q.sn2.offN (n := 4) (m := 7) rfl rfl (by decide), q.tr.putN (n := 6) rfl rfl, q.be.offN (n := 7) (m := 7) rfl rfl (by decide), q.gu.offN (n := 1) (m := 7) rfl rfl (by decide), q.gl.offN (n := 7) (m := 7) rfl rfl (by decide), q.lk.offN (n := 1) (m := 7) rfl rfl (by decide), q.lo.offN (n := 1) (m := 7) rfl rfl (by decide), q.hi.offN (n := 1) (m := 7) rfl rfl (by decide), q.se.offN (n := 3) (m := 7) rfl rfl (by decide), q.ga.offN (n := 1) (m := 7) rfl rfl (by decide)⟩
theorem CA.u_be (q : CA h0 h s x) (z : LandV) : CA h0 (putC h 61 (landC 61 z)) s (uxBe x z) := ⟨q.fr.put (m := 7) rfl (by decide), q.ob.offN (n := 1) (m := 7) rfl rfl (by decide), q.tp.offN (n := 1) (m := 7) rfl rfl (by decide), q.t.offN (n := 12) (m := 7) rfl rfl (by have := tb_or s; omega), q.d.offN (n := 12) (m := 7) rfl rfl (by have := tb_or s; omega), q.mo.offN (n := 1) (m := 7) rfl rfl (by decide), q.l.offN (n := 7) (m := 7) rfl rfl (by decide), q.p.offN (n := 2) (m := 7) rfl rfl (by decide), q.sn.offN (n := 4) (m := 7) rfl rfl (by decide), q.mk.offN (n := 1) (m := 7) rfl rfl (by decide), q.l2.offN (n := 7) (m := 7) rfl rfl (by decide), q.p2.offN (n := 2) (m := 7) rfl rfl (by decide), q.sn2.offN (n := 4) (m := 7) rfl rfl (by decide), q.tr.offN (n := 7) (m := 7) rfl rfl (by decide), q.be.putN (n := 6) rfl rfl, q.gu.offN (n := 1) (m := 7) rfl rfl (by decide), q.gl.offN (n := 7) (m := 7) rfl rfl (by decide), q.lk.offN (n := 1) (m := 7) rfl rfl (by decide), q.lo.offN (n := 1) (m := 7) rfl rfl (by decide), q.hi.offN (n := 1) (m := 7) rfl rfl (by decide), q.se.offN (n := 3) (m := 7) rfl rfl (by decide), q.ga.offN (n := 1) (m := 7) rfl rfl (by decide)⟩
theorem CA.u_gu (q : CA h0 h s x) (z : Int32 × Int32) : CA h0 (putC h 68 (gueC z)) s (uxG x z) := ⟨q.fr.put (m := 1) rfl (by decide), q.ob.offN (n := 1) (m := 1) rfl rfl (by decide), q.tp.offN (n := 1) (m := 1) rfl rfl (by decide), q.t.offN (n := 12) (m := 1) rfl rfl (by have := tb_or s; omega), q.d.offN (n := 12) (m := 1) rfl rfl (by have := tb_or s; omega), q.mo.offN (n := 1) (m := 1) rfl rfl (by decide), q.l.offN (n := 7) (m := 1) rfl rfl (by decide), q.p.offN (n := 2) (m := 1) rfl rfl (by decide), q.sn.offN (n := 4) (m := 1) rfl rfl (by decide), q.mk.offN (n := 1) (m := 1) rfl rfl (by decide), q.l2.offN (n := 7) (m := 1) rfl rfl (by decide), q.p2.offN (n := 2) (m := 1) rfl rfl (by decide), q.sn2.offN (n := 4) (m := 1) rfl rfl (by decide), q.tr.offN (n := 7) (m := 1) rfl rfl (by decide), q.be.offN (n := 7) (m := 1) rfl rfl (by decide), q.gu.putN (n := 0) rfl rfl, q.gl.offN (n := 7) (m := 1) rfl rfl (by decide), q.lk.offN (n := 1) (m := 1) rfl rfl (by decide), q.lo.offN (n := 1) (m := 1) rfl rfl (by decide), q.hi.offN (n := 1) (m := 1) rfl rfl (by decide), q.se.offN (n := 3) (m := 1) rfl rfl (by decide), q.ga.offN (n := 1) (m := 1) rfl rfl (by decide)⟩
theorem CA.u_gl (q : CA h0 h s x) (z : LandV) : CA h0 (putC h 69 (landC 69 z)) s (uxGL x z) := ⟨q.fr.put (m := 7) rfl (by decide), q.ob.offN (n := 1) (m := 7) rfl rfl (by decide), q.tp.offN (n := 1) (m := 7) rfl rfl (by decide), q.t.offN (n := 12) (m := 7) rfl rfl (by have := tb_or s; omega), q.d.offN (n := 12) (m := 7) rfl rfl (by have := tb_or s; omega), q.mo.offN (n := 1) (m := 7) rfl rfl (by decide), q.l.offN (n := 7) (m := 7) rfl rfl (by decide), q.p.offN (n := 2) (m := 7) rfl rfl (by decide), q.sn.offN (n := 4) (m := 7) rfl rfl (by decide), q.mk.offN (n := 1) (m := 7) rfl rfl (by decide), q.l2.offN (n := 7) (m := 7) rfl rfl (by decide), q.p2.offN (n := 2) (m := 7) rfl rfl (by decide), q.sn2.offN (n := 4) (m := 7) rfl rfl (by decide), q.tr.offN (n := 7) (m := 7) rfl rfl (by decide), q.be.offN (n := 7) (m := 7) rfl rfl (by decide), q.gu.offN (n := 1) (m := 7) rfl rfl (by decide), q.gl.putN (n := 6) rfl rfl, q.lk.offN (n := 1) (m := 7) rfl rfl (by decide), q.lo.offN (n := 1) (m := 7) rfl rfl (by decide), q.hi.offN (n := 1) (m := 7) rfl rfl (by decide), q.se.offN (n := 3) (m := 7) rfl rfl (by decide), q.ga.offN (n := 1) (m := 7) rfl rfl (by decide)⟩
theorem CA.u_lk (q : CA h0 h s x) (z : AF) : CA h0 (putC h 76 (arrC 12 z)) s (uxLk x z) := ⟨q.fr.put (m := 1) rfl (by decide), q.ob.offN (n := 1) (m := 1) rfl rfl (by decide), q.tp.offN (n := 1) (m := 1) rfl rfl (by decide), q.t.offN (n := 12) (m := 1) rfl rfl (by have := tb_or s; omega), q.d.offN (n := 12) (m := 1) rfl rfl (by have := tb_or s; omega), q.mo.offN (n := 1) (m := 1) rfl rfl (by decide), q.l.offN (n := 7) (m := 1) rfl rfl (by decide), q.p.offN (n := 2) (m := 1) rfl rfl (by decide), q.sn.offN (n := 4) (m := 1) rfl rfl (by decide), q.mk.offN (n := 1) (m := 1) rfl rfl (by decide), q.l2.offN (n := 7) (m := 1) rfl rfl (by decide), q.p2.offN (n := 2) (m := 1) rfl rfl (by decide), q.sn2.offN (n := 4) (m := 1) rfl rfl (by decide), q.tr.offN (n := 7) (m := 1) rfl rfl (by decide), q.be.offN (n := 7) (m := 1) rfl rfl (by decide), q.gu.offN (n := 1) (m := 1) rfl rfl (by decide), q.gl.offN (n := 7) (m := 1) rfl rfl (by decide), q.lk.putN (n := 0) rfl rfl, q.lo.offN (n := 1) (m := 1) rfl rfl (by decide), q.hi.offN (n := 1) (m := 1) rfl rfl (by decide), q.se.offN (n := 3) (m := 1) rfl rfl (by decide), q.ga.offN (n := 1) (m := 1) rfl rfl (by decide)⟩
theorem CA.u_lo (q : CA h0 h s x) (z : JF) : CA h0 (putC h 77 (lonC z)) s (uxLo x z) := ⟨q.fr.put (m := 1) rfl (by decide), q.ob.offN (n := 1) (m := 1) rfl rfl (by decide), q.tp.offN (n := 1) (m := 1) rfl rfl (by decide), q.t.offN (n := 12) (m := 1) rfl rfl (by have := tb_or s; omega), q.d.offN (n := 12) (m := 1) rfl rfl (by have := tb_or s; omega), q.mo.offN (n := 1) (m := 1) rfl rfl (by decide), q.l.offN (n := 7) (m := 1) rfl rfl (by decide), q.p.offN (n := 2) (m := 1) rfl rfl (by decide), q.sn.offN (n := 4) (m := 1) rfl rfl (by decide), q.mk.offN (n := 1) (m := 1) rfl rfl (by decide), q.l2.offN (n := 7) (m := 1) rfl rfl (by decide), q.p2.offN (n := 2) (m := 1) rfl rfl (by decide), q.sn2.offN (n := 4) (m := 1) rfl rfl (by decide), q.tr.offN (n := 7) (m := 1) rfl rfl (by decide), q.be.offN (n := 7) (m := 1) rfl rfl (by decide), q.gu.offN (n := 1) (m := 1) rfl rfl (by decide), q.gl.offN (n := 7) (m := 1) rfl rfl (by decide), q.lk.offN (n := 1) (m := 1) rfl rfl (by decide), q.lo.putN (n := 0) rfl rfl, q.hi.offN (n := 1) (m := 1) rfl rfl (by decide), q.se.offN (n := 3) (m := 1) rfl rfl (by decide), q.ga.offN (n := 1) (m := 1) rfl rfl (by decide)⟩
theorem CA.u_hi (q : CA h0 h s x) (z : JF) : CA h0 (putC h 78 (lonC z)) s (uxHi x z) := ⟨q.fr.put (m := 1) rfl (by decide), q.ob.offN (n := 1) (m := 1) rfl rfl (by decide), q.tp.offN (n := 1) (m := 1) rfl rfl (by decide), q.t.offN (n := 12) (m := 1) rfl rfl (by have := tb_or s; omega), q.d.offN (n := 12) (m := 1) rfl rfl (by have := tb_or s; omega), q.mo.offN (n := 1) (m := 1) rfl rfl (by decide), q.l.offN (n := 7) (m := 1) rfl rfl (by decide), q.p.offN (n := 2) (m := 1) rfl rfl (by decide), q.sn.offN (n := 4) (m := 1) rfl rfl (by decide), q.mk.offN (n := 1) (m := 1) rfl rfl (by decide), q.l2.offN (n := 7) (m := 1) rfl rfl (by decide), q.p2.offN (n := 2) (m := 1) rfl rfl (by decide), q.sn2.offN (n := 4) (m := 1) rfl rfl (by decide), q.tr.offN (n := 7) (m := 1) rfl rfl (by decide), q.be.offN (n := 7) (m := 1) rfl rfl (by decide), q.gu.offN (n := 1) (m := 1) rfl rfl (by decide), q.gl.offN (n := 7) (m := 1) rfl rfl (by decide), q.lk.offN (n := 1) (m := 1) rfl rfl (by decide), q.lo.offN (n := 1) (m := 1) rfl rfl (by decide), q.hi.putN (n := 0) rfl rfl, q.se.offN (n := 3) (m := 1) rfl rfl (by decide), q.ga.offN (n := 1) (m := 1) rfl rfl (by decide)⟩
theorem CA.u_se (q : CA h0 h s x) (z : AF × AF × Int32) : CA h0 (putC h 79 (senC z)) s (uxSe x z) := ⟨q.fr.put (m := 3) rfl (by decide), q.ob.offN (n := 1) (m := 3) rfl rfl (by decide), q.tp.offN (n := 1) (m := 3) rfl rfl (by decide), q.t.offN (n := 12) (m := 3) rfl rfl (by have := tb_or s; omega), q.d.offN (n := 12) (m := 3) rfl rfl (by have := tb_or s; omega), q.mo.offN (n := 1) (m := 3) rfl rfl (by decide), q.l.offN (n := 7) (m := 3) rfl rfl (by decide), q.p.offN (n := 2) (m := 3) rfl rfl (by decide), q.sn.offN (n := 4) (m := 3) rfl rfl (by decide), q.mk.offN (n := 1) (m := 3) rfl rfl (by decide), q.l2.offN (n := 7) (m := 3) rfl rfl (by decide), q.p2.offN (n := 2) (m := 3) rfl rfl (by decide), q.sn2.offN (n := 4) (m := 3) rfl rfl (by decide), q.tr.offN (n := 7) (m := 3) rfl rfl (by decide), q.be.offN (n := 7) (m := 3) rfl rfl (by decide), q.gu.offN (n := 1) (m := 3) rfl rfl (by decide), q.gl.offN (n := 7) (m := 3) rfl rfl (by decide), q.lk.offN (n := 1) (m := 3) rfl rfl (by decide), q.lo.offN (n := 1) (m := 3) rfl rfl (by decide), q.hi.offN (n := 1) (m := 3) rfl rfl (by decide), q.se.putN (n := 2) rfl rfl, q.ga.offN (n := 1) (m := 3) rfl rfl (by decide)⟩
theorem CA.u_ga (q : CA h0 h s x) (z : AF) : CA h0 (putC h 82 (arrC 8 z)) s (uxGa x z) := ⟨q.fr.put (m := 1) rfl (by decide), q.ob.offN (n := 1) (m := 1) rfl rfl (by decide), q.tp.offN (n := 1) (m := 1) rfl rfl (by decide), q.t.offN (n := 12) (m := 1) rfl rfl (by have := tb_or s; omega), q.d.offN (n := 12) (m := 1) rfl rfl (by have := tb_or s; omega), q.mo.offN (n := 1) (m := 1) rfl rfl (by decide), q.l.offN (n := 7) (m := 1) rfl rfl (by decide), q.p.offN (n := 2) (m := 1) rfl rfl (by decide), q.sn.offN (n := 4) (m := 1) rfl rfl (by decide), q.mk.offN (n := 1) (m := 1) rfl rfl (by decide), q.l2.offN (n := 7) (m := 1) rfl rfl (by decide), q.p2.offN (n := 2) (m := 1) rfl rfl (by decide), q.sn2.offN (n := 4) (m := 1) rfl rfl (by decide), q.tr.offN (n := 7) (m := 1) rfl rfl (by decide), q.be.offN (n := 7) (m := 1) rfl rfl (by decide), q.gu.offN (n := 1) (m := 1) rfl rfl (by decide), q.gl.offN (n := 7) (m := 1) rfl rfl (by decide), q.lk.offN (n := 1) (m := 1) rfl rfl (by decide), q.lo.offN (n := 1) (m := 1) rfl rfl (by decide), q.hi.offN (n := 1) (m := 1) rfl rfl (by decide), q.se.offN (n := 3) (m := 1) rfl rfl (by decide), q.ga.putN (n := 0) rfl rfl⟩
theorem CA.u_ob (q : CA h0 h s x) (z : OwnV) (y : Int32) (hz : oSw z = oSw (sO s)) : CA h0 (putC h 0 (objC (usO s z) (uxSd x y))) (usO s z) (uxSd x y) := by
  have e1 : tb (usO s z) = tb s := by show (if oSw z then 14 else 2) = _; rw [hz]; rfl
  have e2 : db (usO s z) = db s := by show (if oSw z then 2 else 14) = _; rw [hz]; rfl
  unfold CA
  rw [e1, e2]
  exact ⟨q.fr.put (m := 1) rfl (by decide), q.ob.putN (n := 0) rfl rfl, q.tp.offN (n := 1) (m := 1) rfl rfl (by decide), q.t.offN (n := 12) (m := 1) rfl rfl (by have := tb_or s; omega), q.d.offN (n := 12) (m := 1) rfl rfl (by have := tb_or s; omega), q.mo.offN (n := 1) (m := 1) rfl rfl (by decide), q.l.offN (n := 7) (m := 1) rfl rfl (by decide), q.p.offN (n := 2) (m := 1) rfl rfl (by decide), q.sn.offN (n := 4) (m := 1) rfl rfl (by decide), q.mk.offN (n := 1) (m := 1) rfl rfl (by decide), q.l2.offN (n := 7) (m := 1) rfl rfl (by decide), q.p2.offN (n := 2) (m := 1) rfl rfl (by decide), q.sn2.offN (n := 4) (m := 1) rfl rfl (by decide), q.tr.offN (n := 7) (m := 1) rfl rfl (by decide), q.be.offN (n := 7) (m := 1) rfl rfl (by decide), q.gu.offN (n := 1) (m := 1) rfl rfl (by decide), q.gl.offN (n := 7) (m := 1) rfl rfl (by decide), q.lk.offN (n := 1) (m := 1) rfl rfl (by decide), q.lo.offN (n := 1) (m := 1) rfl rfl (by decide), q.hi.offN (n := 1) (m := 1) rfl rfl (by decide), q.se.offN (n := 3) (m := 1) rfl rfl (by decide), q.ga.offN (n := 1) (m := 1) rfl rfl (by decide)⟩
theorem CA.o (q : CA h0 h s x) : oF h 0 10 = some [.ref 1, .int (nI (oTl (sO s))), .int (oFp (sO s)), .int (oRt (sO s)), .int (oRa (sO s)), .int (oRs (sO s)), .ref (tb s), .ref (db s), .ref 26, .ref 40, .int (oHi (sO s)), .ref 54, .ref 61, .ref 68, .int (xSd x), .ref 79, .ref 82] := oF_of (q.ob 0 _ rfl)
theorem CA.g0 (q : CA h0 h s x) : gN h 0 10 0 = some 1 := by unfold gN; rw [q.o]; rfl
theorem CA.g1 (q : CA h0 h s x) : gI h 0 10 1 = some (nI (oTl (sO s))) := by unfold gI; rw [q.o]; rfl
theorem CA.g2 (q : CA h0 h s x) : gI h 0 10 2 = some (oFp (sO s)) := by unfold gI; rw [q.o]; rfl
theorem CA.g3 (q : CA h0 h s x) : gI h 0 10 3 = some (oRt (sO s)) := by unfold gI; rw [q.o]; rfl
theorem CA.g4 (q : CA h0 h s x) : gI h 0 10 4 = some (oRa (sO s)) := by unfold gI; rw [q.o]; rfl
theorem CA.g5 (q : CA h0 h s x) : gI h 0 10 5 = some (oRs (sO s)) := by unfold gI; rw [q.o]; rfl
theorem CA.g6 (q : CA h0 h s x) : gN h 0 10 6 = some (tb s) := by unfold gN; rw [q.o]; rfl
theorem CA.g7 (q : CA h0 h s x) : gN h 0 10 7 = some (db s) := by unfold gN; rw [q.o]; rfl
theorem CA.g8 (q : CA h0 h s x) : gN h 0 10 8 = some 26 := by unfold gN; rw [q.o]; rfl
theorem CA.g9 (q : CA h0 h s x) : gN h 0 10 9 = some 40 := by unfold gN; rw [q.o]; rfl
theorem CA.g10 (q : CA h0 h s x) : gI h 0 10 10 = some (oHi (sO s)) := by unfold gI; rw [q.o]; rfl
theorem CA.g11 (q : CA h0 h s x) : gN h 0 10 11 = some 54 := by unfold gN; rw [q.o]; rfl
theorem CA.g12 (q : CA h0 h s x) : gN h 0 10 12 = some 61 := by unfold gN; rw [q.o]; rfl
theorem CA.g13 (q : CA h0 h s x) : gN h 0 10 13 = some 68 := by unfold gN; rw [q.o]; rfl
theorem CA.g14 (q : CA h0 h s x) : gI h 0 10 14 = some (xSd x) := by unfold gI; rw [q.o]; rfl
theorem CA.g15 (q : CA h0 h s x) : gN h 0 10 15 = some 79 := by unfold gN; rw [q.o]; rfl
theorem CA.g16 (q : CA h0 h s x) : gN h 0 10 16 = some 82 := by unfold gN; rw [q.o]; rfl
theorem CA.w1 (q : CA h0 h s x) (z : Nat) : ∃ h2, pF h 0 10 1 (.int (nI z)) = some h2 ∧ CA h0 h2 (usO s (uoTl (sO s) z)) x := by
  refine ⟨_, ?_, q.u_ob (uoTl (sO s) z) (xSd x) rfl⟩
  unfold pF
  rw [q.o]
  simp only [List.length_cons, List.length_nil, Nat.zero_add, Nat.reduceAdd, Nat.reduceLT, Nat.zero_lt_succ, if_true]
  rw [show h.set 0 = h.set (0 + 0) from rfl, q.ob.set (j := 0) (by simp [objC])]
  rfl
theorem CA.w2 (q : CA h0 h s x) (z : Int32) : ∃ h2, pF h 0 10 2 (.int z) = some h2 ∧ CA h0 h2 (usO s (uoFp (sO s) z)) x := by
  refine ⟨_, ?_, q.u_ob (uoFp (sO s) z) (xSd x) rfl⟩
  unfold pF
  rw [q.o]
  simp only [List.length_cons, List.length_nil, Nat.zero_add, Nat.reduceAdd, Nat.reduceLT, Nat.zero_lt_succ, if_true]
  rw [show h.set 0 = h.set (0 + 0) from rfl, q.ob.set (j := 0) (by simp [objC])]
  rfl
theorem CA.w3 (q : CA h0 h s x) (z : Int32) : ∃ h2, pF h 0 10 3 (.int z) = some h2 ∧ CA h0 h2 (usO s (uoRt (sO s) z)) x := by
  refine ⟨_, ?_, q.u_ob (uoRt (sO s) z) (xSd x) rfl⟩
  unfold pF
  rw [q.o]
  simp only [List.length_cons, List.length_nil, Nat.zero_add, Nat.reduceAdd, Nat.reduceLT, Nat.zero_lt_succ, if_true]
  rw [show h.set 0 = h.set (0 + 0) from rfl, q.ob.set (j := 0) (by simp [objC])]
  rfl
theorem CA.w4 (q : CA h0 h s x) (z : Int32) : ∃ h2, pF h 0 10 4 (.int z) = some h2 ∧ CA h0 h2 (usO s (uoRa (sO s) z)) x := by
  refine ⟨_, ?_, q.u_ob (uoRa (sO s) z) (xSd x) rfl⟩
  unfold pF
  rw [q.o]
  simp only [List.length_cons, List.length_nil, Nat.zero_add, Nat.reduceAdd, Nat.reduceLT, Nat.zero_lt_succ, if_true]
  rw [show h.set 0 = h.set (0 + 0) from rfl, q.ob.set (j := 0) (by simp [objC])]
  rfl
theorem CA.w5 (q : CA h0 h s x) (z : Int32) : ∃ h2, pF h 0 10 5 (.int z) = some h2 ∧ CA h0 h2 (usO s (uoRs (sO s) z)) x := by
  refine ⟨_, ?_, q.u_ob (uoRs (sO s) z) (xSd x) rfl⟩
  unfold pF
  rw [q.o]
  simp only [List.length_cons, List.length_nil, Nat.zero_add, Nat.reduceAdd, Nat.reduceLT, Nat.zero_lt_succ, if_true]
  rw [show h.set 0 = h.set (0 + 0) from rfl, q.ob.set (j := 0) (by simp [objC])]
  rfl
theorem CA.w10 (q : CA h0 h s x) (z : Int32) : ∃ h2, pF h 0 10 10 (.int z) = some h2 ∧ CA h0 h2 (usO s (uoHi (sO s) z)) x := by
  refine ⟨_, ?_, q.u_ob (uoHi (sO s) z) (xSd x) rfl⟩
  unfold pF
  rw [q.o]
  simp only [List.length_cons, List.length_nil, Nat.zero_add, Nat.reduceAdd, Nat.reduceLT, Nat.zero_lt_succ, if_true]
  rw [show h.set 0 = h.set (0 + 0) from rfl, q.ob.set (j := 0) (by simp [objC])]
  rfl
theorem CA.w14 (q : CA h0 h s x) (z : Int32) : ∃ h2, pF h 0 10 14 (.int z) = some h2 ∧ CA h0 h2 s (uxSd x z) := by
  refine ⟨_, ?_, q.u_ob (sO s) z rfl⟩
  unfold pF
  rw [q.o]
  simp only [List.length_cons, List.length_nil, Nat.zero_add, Nat.reduceAdd, Nat.reduceLT, Nat.zero_lt_succ, if_true]
  rw [show h.set 0 = h.set (0 + 0) from rfl, q.ob.set (j := 0) (by simp [objC])]
  rfl
theorem mom_o {h : Hp} {a : Nat} (q : Chunk h a (momC a)) : oF h a 3 = some [.ref (a + 1), .ref (a + 8), .ref (a + 10)] := oF_of (q 0 _ rfl)
theorem mom_0 {h : Hp} {a : Nat} (q : Chunk h a (momC a)) : gN h a 3 0 = some (a + 1) := by unfold gN; rw [mom_o q]; rfl
theorem mom_1 {h : Hp} {a : Nat} (q : Chunk h a (momC a)) : gN h a 3 1 = some (a + 8) := by unfold gN; rw [mom_o q]; rfl
theorem mom_2 {h : Hp} {a : Nat} (q : Chunk h a (momC a)) : gN h a 3 2 = some (a + 10) := by unfold gN; rw [mom_o q]; rfl
theorem CA.m0 (q : CA h0 h s x) : gN h 26 3 0 = some 27 := mom_0 q.mo
theorem CA.m1 (q : CA h0 h s x) : gN h 26 3 1 = some 34 := mom_1 q.mo
theorem CA.m2 (q : CA h0 h s x) : gN h 26 3 2 = some 36 := mom_2 q.mo
theorem CA.n0 (q : CA h0 h s x) : gN h 40 3 0 = some 41 := mom_0 q.mk
theorem CA.n1 (q : CA h0 h s x) : gN h 40 3 1 = some 48 := mom_1 q.mk
theorem CA.n2 (q : CA h0 h s x) : gN h 40 3 2 = some 50 := mom_2 q.mk
end CAs
