/-! what always holds goes on -/
section IVK
variable {s s' : CoreV} {a : Int32} {n w : Nat} {P : PastV} {L Y : LandV}
theorem PaOK.keep (hn : n ≤ 12) (hw : w ≤ 6) (hL : LOK n w L) (q : PaOK n w P) : PaOK n w (keepP P L) := by
  obtain ⟨⟨p1, p2⟩, q⟩ := q
  have sl : (P.2.1 + P.1) % 40 < 40 := Nat.mod_lt _ (by omega)
  by_cases e : 40 ≤ P.1
  · have ek : keepP P L = (P.1, (P.2.1 + 1) % 40, wrP P.2.2 ((P.2.1 + P.1) % 40 * 49) L) := by rw [keepP]; simp only [if_pos e]
    rw [ek]
    refine ⟨⟨p1, Nat.mod_lt _ (by omega)⟩, fun i hi => ?_⟩
    have hi' : i < 40 := by have : i < P.1 := hi; omega
    show LOK n w (ldR (wrP P.2.2 ((P.2.1 + P.1) % 40 * 49) L) (((P.2.1 + 1) % 40 + i) % 40 * 49))
    by_cases e2 : i < 39
    · refine (q (i + 1) (by omega)).le ?_
      have es : ((P.2.1 + 1) % 40 + i) % 40 = (P.2.1 + (i + 1)) % 40 := by omega
      rw [es]
      refine ld_congr hn hw (fun j hj => (wrP_out ?_).symm)
      omega
    · have es : ((P.2.1 + 1) % 40 + i) % 40 = (P.2.1 + P.1) % 40 := by omega
      rw [es]
      exact hL.le (wrP_in hn hw).symm
  · have ek : keepP P L = (P.1 + 1, P.2.1, wrP P.2.2 ((P.2.1 + P.1) % 40 * 49) L) := by rw [keepP]; simp only [if_neg e]
    rw [ek]
    refine ⟨⟨by show P.1 + 1 ≤ 40; omega, p2⟩, fun i hi => ?_⟩
    have hi' : i < P.1 + 1 := hi
    show LOK n w (ldR (wrP P.2.2 ((P.2.1 + P.1) % 40 * 49) L) ((P.2.1 + i) % 40 * 49))
    by_cases e2 : i = P.1
    · rw [e2]
      exact hL.le (wrP_in hn hw).symm
    · refine (q i (by omega)).le (ld_congr hn hw (fun j hj => (wrP_out ?_).symm))
      omega
theorem iv_ref (q : IV s) : IV (refS s) := ⟨q.tg, q.sk, q.kn, q.lok, q.pa, q.se, q.im, q.tb⟩
theorem iv_act (q : IV s) (h : LOK (sN s) (sW s) Y) : IV (actS s Y) := ⟨q.tg, q.sk, q.kn, h, q.pa.keep q.o2 q.o3 q.lok, q.se, q.im, q.tb⟩
theorem iv_refR (q : IV s) (e : refR s = .inl (a, s')) : IV s' := by
  have : refS s = s' := congrArg Prod.snd (Sum.inl.inj e)
  rw [← this]
  exact iv_ref q
theorem byE_r (v : Int32) (k : Nat) : -128 ≤ (byE v k).toInt ∧ (byE v k).toInt < 128 := by
  have : ∀ x : Int32, -128 ≤ (Int8.toInt32 (Int32.toInt8 x)).toInt ∧ (Int8.toInt32 (Int32.toInt8 x)).toInt < 128 := fun x => by
    rw [Int8.toInt_toInt32]
    exact ⟨Int8.le_toInt _, Int8.toInt_lt _⟩
  exact this _
theorem iv_put1 {v : Int32} {k : Nat} (q : IV s) (h : oTl (sO s) + 1 ≤ 700) : IV (pb1 s v k) := by
  refine ⟨q.tg, q.sk, q.kn, q.lok, q.pa, q.se, q.im, h, fun j hj => ?_⟩
  show -128 ≤ (upd (sTp s) (oTl (sO s)) (byE v k) j).toInt ∧ (upd (sTp s) (oTl (sO s)) (byE v k) j).toInt < 128
  by_cases y : j = oTl (sO s)
  · rw [y, pk_us]; exact byE_r v k
  · rw [pk_un y]; exact q.bt j hj
theorem iv_put {v : Int32} (q : IV s) (h : oTl (sO s) + 4 ≤ 700) : IV (pbS s v) := iv_put1 (iv_put1 (iv_put1 (iv_put1 q (by omega)) (by show oTl (sO s) + 1 + 1 ≤ 700; omega)) (by show oTl (sO s) + 1 + 1 + 1 ≤ 700; omega)) (by show oTl (sO s) + 1 + 1 + 1 + 1 ≤ 700; omega)
theorem inl_s {x : Int32} {t : CoreV} (e : (Sum.inl (x, t) : Res) = .inl (a, s')) : s' = t := (congrArg Prod.snd (Sum.inl.inj e)).symm
theorem iv_feed {b c d e f : Int32} (q : IV s) (h : m_feed s b c d e f = .inl (a, s')) : IV s' := by
  unfold m_feed at h
  split at h
  · rw [inl_s h]
    exact iv_put (iv_put (iv_put (iv_put (iv_put q (by omega)) (by rw [pbS_l]; omega)) (by rw [pbS_l, pbS_l]; omega)) (by rw [pbS_l, pbS_l, pbS_l]; omega)) (by rw [pbS_l, pbS_l, pbS_l, pbS_l]; omega)
  · rw [inl_s h]; exact q
theorem iv_days {v : Int32} (q : IV s) (h : m_days s v = .inl (a, s')) : IV s' := by
  unfold m_days at h
  split at h
  · exact iv_refR q h
  split at h
  · exact iv_refR q h
  split at h
  · rw [inl_s h]; exact iv_act q (LOK.days q.o2 (by have := q.o1; show 0 < sN s; omega) q.sk _ q.lok)
  · exact iv_refR q h
theorem iv_mend {v : Int32} (q : IV s) (h : m_mend s v = .inl (a, s')) : IV s' := by
  have o3 := q.o3
  unfold m_mend at h
  split at h
  · rename_i c
    split at h
    · rw [inl_s h]
      have := (inB_k (by omega) c).2
      exact iv_act q (q.lok.mend q.o2 this (q.sk _ this))
    · exact iv_refR q h
  · exact absurd h (by simp)
theorem iv_go {u v : Int32} (q : IV s) (h : m_go s u v = .inl (a, s')) : IV s' := by
  have o2 := q.o2
  unfold m_go at h
  split at h
  · split at h
    · rename_i c
      split at h
      · exact iv_refR q h
      · rw [inl_s h]
        obtain ⟨c1, c2⟩ := inB_k (by omega) c
        refine iv_act q ?_
        rw [c1]
        exact q.lok.at_ c2
    · exact absurd h (by simp)
  · exact absurd h (by simp)
theorem iv_stitch {u v : Int32} (q : IV s) (h : m_stitch s u v = .inl (a, s')) : IV s' := by
  unfold m_stitch at h
  split at h
  · split at h
    · exact iv_refR q h
    rename_i c1
    split at h
    · exact iv_refR q h
    rename_i c2
    split at h
    · exact iv_refR q h
    · rw [inl_s h]
      obtain ⟨k, k1, k2⟩ := nI_of2 (x := v) (M := 2) (n := 2) rfl c1 (Int32.not_lt.mp c2)
      refine iv_act q ?_
      rw [k2]
      exact q.lok.sti k1
  · exact absurd h (by simp)
theorem iv_thread {u v : Int32} (q : IV s) (h : m_thread s u v = .inl (a, s')) : IV s' := by
  have o3 := q.o3
  unfold m_thread at h
  split at h
  · rename_i c
    split at h
    · exact iv_refR q h
    rename_i c1
    split at h
    · rename_i c2
      rw [inl_s h]
      obtain ⟨k, k1, k2⟩ := nI_of2 (x := v) (M := 50) (n := 50) rfl (fun e => c1 (Int32.lt_trans e (by decide))) c2
      refine iv_act q ?_
      rw [k2]
      exact q.lok.give (inB_k (by omega) c).2 (by omega)
    · exact iv_refR q h
  · exact absurd h (by simp)
theorem iv_tear {u v : Int32} (q : IV s) (h : m_tear s u v = .inl (a, s')) : IV s' := by
  have o2 := q.o2
  unfold m_tear at h
  split at h
  · rename_i c
    split at h
    · exact iv_refR q h
    rename_i c1
    split at h
    · exact iv_refR q h
    rename_i c2
    split at h
    · exact iv_refR q h
    · rw [inl_s h]
      obtain ⟨k, k1, k2⟩ := nI_of2 (x := v) (M := 50) (n := 50) rfl (fun e => c1 (Int32.lt_trans e (by decide))) (Int32.not_lt.mp c2)
      refine iv_act q ?_
      rw [k2]
      exact q.lok.tear (inB_k (by omega) c).2 (by omega)
  · exact absurd h (by simp)
theorem iv_forget (q : IV s) : IV (m_forget s) := ⟨q.tg, q.sk, q.kn, q.lok, q.pa, ⟨⟨Nat.zero_le _, fun k hk => absurd hk (Nat.not_lt_zero k)⟩, fun k hk => absurd hk (Nat.not_lt_zero k)⟩, q.im, q.tb⟩
theorem iv_image (q : IV s) : IV (m_image s) := ⟨q.tg, q.sk, q.kn, q.lok, q.pa, q.se, Or.inr ⟨rfl, q.lok, q.pa, q.se⟩, q.tb⟩
theorem iv_restore (q : IV s) (h : m_restore s = .inl (a, s')) : IV s' := by
  unfold m_restore at h
  split at h
  · rw [inl_s h]; exact q
  · rename_i c
    rw [inl_s h]
    rcases q.im with e | ⟨e, e1, e2, e3⟩
    · exact absurd e c
    · exact ⟨q.tg, q.sk, q.kn, e1, e2, e3, q.im, q.tb⟩
theorem iv_see {u v w : Int32} (q : IV s) (h : m_see s u v w = .inl (a, s')) : IV s' := by
  have o2 := q.o2
  have rg : ∀ {a s'}, refG s = .inl (a, s') → IV s' := fun e => by
    rw [inl_s e]
    exact ⟨q.tg, q.sk, q.kn, q.lok, q.pa, q.se, q.im, q.tb⟩
  unfold m_see at h
  split at h
  · rename_i c
    split at h
    · exact rg h
    rename_i c0
    split at h
    · exact rg h
    rename_i c1
    split at h
    · exact rg h
    rename_i c2
    split at h
    · exact rg h
    split at h
    · exact rg h
    · rw [inl_s h]
      obtain ⟨k, k1, k2⟩ := nI_of2 (x := v) (M := 20) (n := 20) rfl c1 (Int32.not_lt.mp c2)
      obtain ⟨i1, i2⟩ := inB_k (by omega) c
      obtain ⟨⟨g1, g2⟩, g3⟩ := q.se
      refine ⟨q.tg, q.sk, q.kn, q.lok, q.pa, ⟨⟨?_, fun j hj => ?_⟩, fun j hj => ?_⟩, q.im, q.tb⟩
      · show (sS s).1 + 1 ≤ 8; omega
      · show ∃ e, e < sN s ∧ upd (sS s).2.1 (sS s).1 u j = nI e
        have hj' : j < (sS s).1 + 1 := hj
        by_cases y : j = (sS s).1
        · rw [y, pk_us]; exact ⟨cl u, i2, i1⟩
        · rw [pk_un y]; exact g2 j (by omega)
      · show ∃ e, e ≤ 20 ∧ upd (sS s).2.2.1 (sS s).1 v j = nI e
        have hj' : j < (sS s).1 + 1 := hj
        by_cases y : j = (sS s).1
        · rw [y, pk_us]; exact ⟨k, k1, k2⟩
        · rw [pk_un y]; exact g3 j (by omega)
  · exact absurd h (by simp)
theorem iv_undo (q : IV s) (h : m_undo s = .inl (a, s')) : IV s' := by
  unfold m_undo at h
  split at h
  · rw [inl_s h]; exact q
  · rename_i c
    rw [inl_s h]
    obtain ⟨⟨p1, p2⟩, p3⟩ := q.pa
    have c' : 0 < (sP s).1 := Nat.pos_of_ne_zero c
    refine ⟨q.tg, q.sk, q.kn, ?_, ⟨⟨?_, p2⟩, fun i hi => ?_⟩, q.se, q.im, q.tb⟩
    · exact (p3 ((sP s).1 - 1) (by omega)).le (rdL_le q.o2 q.o3)
    · show (sP s).1 - 1 ≤ 40; omega
    · have hi' : i < (sP s).1 - 1 := hi
      exact p3 i (by omega)
end IVK
