/-! THE CLASS'S CONSTRUCTOR -/
section INC
variable {g : GG} {h0 h h2 : Hp} {s : CoreV} {x : ScrV} {T' : ToldV} {L' : LandV} {d ci k : Nat} {fs : List Value} {v : Value} {q : Hp}
theorem CA.gM (q : CA h0 h s x) (o : OutW (tb s) (tb s) 27 h h2) (a : TA h2 (tb s) T') (c : LA h2 27 L') : CA h0 h2 (usL (usT s T') L') (uxK x (ksT T')) := by
  have t := tb_or s
  have e : (toldC (db s) (xD x)).length = 12 := rfl
  have dd : TA h2 (db s) (xD x) := q.d.same fun k k1 k2 => o.2 k (by omega) (by omega) (by omega)
  have ek : ∀ k, (k < tb s ∨ tb s + 12 ≤ k) → (k < 27 ∨ 27 + 7 ≤ k) → h2[k]? = h[k]? := fun k k1 k2 => o.2 k (by omega) k1 k2
  have sm : ∀ {a n : Nat} {cs : List va_E}, Chunk h a cs → cs.length = n → a + n ≤ 83 → (a + n ≤ 2 ∨ 26 ≤ a) → (a + n ≤ 27 ∨ 34 ≤ a) → Chunk h2 a cs := fun {a n cs} q1 q2 q3 q4 q5 => q1.same fun k k1 k2 => ek k (by omega) (by omega)
  exact ⟨⟨by have := q.fr.1; have := o.1; omega, fun k hk hk2 => by rw [ek k (by omega) (by omega)]; exact q.fr.2 k hk hk2⟩, sm q.ob (n := 1) rfl (by decide) (by decide) (by decide), sm q.tp (n := 1) rfl (by decide) (by decide) (by decide), a, dd, sm q.mo (n := 1) rfl (by decide) (by decide) (by decide), c, sm q.p (n := 2) rfl (by decide) (by decide) (by decide), sm q.sn (n := 4) rfl (by decide) (by decide) (by decide), sm q.mk (n := 1) rfl (by decide) (by decide) (by decide), sm q.l2 (n := 7) rfl (by decide) (by decide) (by decide), sm q.p2 (n := 2) rfl (by decide) (by decide) (by decide), sm q.sn2 (n := 4) rfl (by decide) (by decide) (by decide), sm q.tr (n := 7) rfl (by decide) (by decide) (by decide), sm q.be (n := 7) rfl (by decide) (by decide) (by decide), sm q.gu (n := 1) rfl (by decide) (by decide) (by decide), sm q.gl (n := 7) rfl (by decide) (by decide) (by decide), sm q.lk (n := 1) rfl (by decide) (by decide) (by decide), sm q.lo (n := 1) rfl (by decide) (by decide) (by decide), sm q.hi (n := 1) rfl (by decide) (by decide) (by decide), sm q.se (n := 3) rfl (by decide) (by decide) (by decide), sm q.ga (n := 1) rfl (by decide) (by decide) (by decide)⟩
theorem pF0 (hk : k < fs.length) : pF (.inr (ci, fs) :: q) 0 ci k v = some (.inr (ci, fs.set k v) :: q) := pFm (p := []) hk
theorem pF0a {x : Hp} (hk : k < fs.length) : pF ((.inr (ci, fs) :: q) ++ x) 0 ci k v = some (.inr (ci, fs.set k v) :: (q ++ x)) := pFa (p := []) hk
def s00 : CoreV := ((0, -1, 0, 0, 0, false, 0), zF, zT, zL, (0, 0, zF), (0, zF, zF, zF), zL, (0, 0, zF), (0, zF, zF, zF))
def x00 : ScrV := ((zF, zF, zF, zF), zT, zL, zL, (0, 0), zL, zF, (fun _ => 0), (fun _ => 0), (zF, zF, 0), zF, 0)
def H00 : Hp := objC s00 x00 ++ (tapC zF ++ (toldC 2 zT ++ (toldC 14 zT ++ (momC 26 ++ (landC 27 zL ++ (pastC 34 (0, 0, zF) ++ (seenC 36 (0, zF, zF, zF) ++ (momC 40 ++ (landC 41 zL ++ (pastC 48 (0, 0, zF) ++ (seenC 50 (0, zF, zF, zF) ++ (landC 54 zL ++ (landC 61 zL ++ (gueC (0, 0) ++ (landC 69 zL ++ (arrC 12 zF ++ (lonC (fun _ => 0) ++ (lonC (fun _ => 0) ++ (senC (zF, zF, 0) ++ arrC 8 zF)))))))))))))))))))
theorem Chunk.at_ {a b cs : List va_E} {n : Nat} (e : a.length = n) : Chunk (a ++ (cs ++ b)) n cs := fun j z hj => by
  have hl := (List.getElem?_eq_some_iff.mp hj).1
  rw [← e, List.getElem?_append_right (by omega), Nat.add_sub_cancel_left, List.getElem?_append_left hl]
  exact hj
theorem Chunk.cut {n : Nat} {cs : List va_E} (e : (h.drop n).take cs.length = cs) : Chunk h n cs := fun j z hj => by
  have hl := (List.getElem?_eq_some_iff.mp hj).1
  rw [← e, List.getElem?_take_of_lt hl, List.getElem?_drop] at hj
  exact hj
theorem CA_00 : CA [] H00 s00 x00 := ⟨⟨Nat.zero_le _, fun k _ hk => absurd hk (Nat.not_lt_zero _)⟩, Chunk.cut rfl, Chunk.cut rfl, Chunk.cut rfl, Chunk.cut rfl, Chunk.cut rfl, Chunk.cut rfl, Chunk.cut rfl, Chunk.cut rfl, Chunk.cut rfl, Chunk.cut rfl, Chunk.cut rfl, Chunk.cut rfl, Chunk.cut rfl, Chunk.cut rfl, Chunk.cut rfl, Chunk.cut rfl, Chunk.cut rfl, Chunk.cut rfl, Chunk.cut rfl, Chunk.cut rfl, Chunk.cut rfl⟩
def s01 : CoreV := usL (usT s00 (rgT zT)) (rgL zT zL)
theorem i_cls (hg : GOK g) (hd : 12 ≤ d) : CT g d yX11_init (wsC yX11_init cX11_init 1 none) [.ref 0] [.inr (10, [.null, .int 0, .int 0, .int 0, .int 0, .int 0, .null, .null, .null, .null, .int 0, .null, .null, .null, .int 0, .null, .null])] 100 8000 (fun r h2 => r = none ∧ h2.length = 83 ∧ CA [] h2 s01 (uxK x00 (ksT (rgT zT)))) noT := by
  refine CT_ofB (by decide +kernel) (Nat.le_of_ble_eq_true rfl) rfl fun K X => ?_
  refine b_X11_init_0 hg (by omega) (by omega) X _ _ ⟨by omega, _, pF0a (by simp), _, pF0 (by simp), _, pF0 (by simp), ?_⟩
  refine b_X11_init_23 hg (by omega) (by omega) X _ _ ⟨_, pF0 (by simp), _, pF0 (by simp), _, pF0 (by simp), ?_⟩
  refine b_X11_init_38 hg (by omega) (by omega) X _ _ ⟨by omega, d - 1, _, 11, 827, i_told hg (by omega), by omega, fun v1 h1 q1 => ⟨q1.1, ?_⟩⟩
  rw [q1.2]
  refine ⟨_, pF0a (by simp), by omega, d - 1, _, 11, 827, i_told hg (by omega), by omega, fun v1 h1 q1 => ⟨q1.1, ?_⟩⟩
  rw [q1.2]
  refine ⟨_, pF0a (by simp), by omega, d - 1, _, 13, 2058, i_mom hg (by omega), by omega, fun v1 h1 q1 => ⟨q1.1, ?_⟩⟩
  rw [q1.2]
  refine ⟨_, pF0a (by simp), ?_⟩
  refine b_X11_init_71 hg (by omega) (by omega) X _ _ ⟨by omega, d - 1, _, 13, 2058, i_mom hg (by omega), by omega, fun v1 h1 q1 => ⟨q1.1, ?_⟩⟩
  rw [q1.2]
  refine ⟨_, pF0a (by simp), Or.inl rfl, _, pF0 (by simp), by omega, d - 1, _, 6, 60, i_land hg (by omega), by omega, fun v1 h1 q1 => ⟨q1.1, ?_⟩⟩
  rw [q1.2]
  refine ⟨_, pF0a (by simp), ?_⟩
  refine b_X11_init_98 hg (by omega) (by omega) X _ _ ⟨by omega, d - 1, _, 6, 60, i_land hg (by omega), by omega, fun v1 h1 q1 => ⟨q1.1, ?_⟩⟩
  rw [q1.2]
  refine ⟨_, pF0a (by simp), by omega, d - 1, _, 10, 103, i_gue hg (by omega), by omega, fun v1 h1 q1 => ⟨q1.1, ?_⟩⟩
  rw [q1.2]
  refine ⟨_, pF0a (by simp), _, pF0 (by simp), ?_⟩
  refine b_X11_init_125 hg (by omega) (by omega) X _ _ ⟨by omega, d - 1, _, 2, 70, i_sen hg (by omega), by omega, fun v1 h1 q1 => ⟨q1.1, ?_⟩⟩
  rw [q1.2]
  refine ⟨_, pF0a (by simp), by omega, H00, ?_, ?_⟩
  · rw [pF0a (by simp)]
    exact congrArg some rfl
  · have c := CA_00
    refine ⟨_, c.g6, _, c.g8, _, c.m0, use_v (c_fillUp (d := d - 1) (T := zT) (L := zL) hg (by omega) c.t c.l (by decide) (by decide)) (by omega) (by omega) ?_⟩
    rintro h8 ⟨t8, l8, o8⟩
    exact ⟨rfl, o8.1.trans rfl, c.gM o8 t8 l8⟩
end INC
