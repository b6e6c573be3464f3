/-! THE REFERENCE: SENT, its walk -/
theorem ls_mn (b c : Int32) : lsE b c = if c < b then c else b := by
  unfold lsE
  by_cases y : c < b
  · rw [if_pos y, if_pos (Int32.le_of_lt y)]
  · rw [if_neg y]
    by_cases z : c ≤ b
    · rw [if_pos z]; exact Int32.le_antisymm z (Int32.not_lt.mp y)
    · rw [if_neg z]
section RSE
variable {g : GG} {h : Hp} {B d : Nat} {R : RefV} {s : CoreV}
theorem d_byWoman {n i w t a b : Nat} (hg : GOK g) (hd : 10 ≤ d) (hR : RA h B R) (hN : ri R 1 = nI n) (hn : n ≤ 12) (hi : i < 6) (hw : w < 6) (ht : t < 64) (ea : ra R 14 (37 + w) = nI a) (ha : a < 100) (eb : ra R 20 i = nI b) (hb : b < 100) : CT g d yX12_byWoman (wsC yX12_byWoman cX12_byWoman 4 (some .int)) [.ref B, .int (nI i), .int (nI w), .int (nI t)] h 0 0 (fun v h2 => v = some (.int (stpE n (nI a) (nI b) + ra R 19 (64 * (i + 1) + (t ||| 2 ^ w)))) ∧ h2 = h) noT := by
  have h64 : t ||| 2 ^ w < 64 := Nat.or_lt_two_pow (n := 6) ht (Nat.pow_lt_pow_right (by omega) hw)
  refine CT_ofB (by decide +kernel) (Nat.le_of_ble_eq_true rfl) rfl fun K XX => ?_
  refine b_X12_byWoman_0 hg (by omega) k00 XX _ _ _ _ _ ⟨_, hR.n40, ?_⟩
  rw [show (37 : Int32) + nI w = nI (37 + w) from nI_add 37 w]
  refine ⟨_, by rw [hR.r14 (by omega), ea], _, hR.n47, _, by rw [hR.r20 hi, eb], _, hR.o, use_i (d_stepsBy (d := d - 1) hg (by omega) hR hN hn ha hb) (by omega) k00 ⟨_, hR.n46, ?_⟩⟩
  rw [gn_or t ht w hw, nI_s, show (64 : Int32) * nI (i + 1) = nI (64 * (i + 1)) from pk_mul 64 (i + 1), nI_add]
  exact ⟨_, hR.r19 (by omega), rfl, rfl⟩
/-- the table stands, from c on -/
def TbR (s : CoreV) (go : AF) (m c : Nat) (R : RefV) : Prop := ∀ i t, c ≤ i → i ≤ m → t < 2 ^ sW s → ra R 19 (64 * i + t) = vS (sN s) (sW s) 99999 (lAt (sL s)) go (m - i) i t
/-- what stays while the table is made -/
def SeI (s : CoreV) (go : AF) (m : Nat) (R1 R2 : RefV) : Prop := QF R1 R2 ∧ ri R2 0 = 0 ∧ ∀ q, q < m → ra R2 20 q = go q
theorem SeI.a19 {go : AF} {m : Nat} {R1 R2 : RefV} {f : AF} (q : SeI s go m R1 R2) : SeI s go m R1 (sA R2 19 f) := ⟨q.1.a rfl (by decide), q.2.1, fun k hk => by rw [ra_sAn (by decide)]; exact q.2.2 k hk⟩
theorem r_sent (hg : GOK g) (hd : 20 ≤ d) (hR : RA h B R) (hI : IV s) (hS : RS s R) (x : ScrV) (a b : Int32) : CT g d yX12_sent (wsC yX12_sent cX12_sent 8 (some .int)) [.ref B, .int a, .int b] h 0 0 (PrM h B cd2 s (m_sent s x a b)) noT := by
  have o1 := hI.o1
  have o2 := hI.o2
  have o3 := hI.o3
  have p12 : 2 ^ sN s ≤ 2 ^ 12 := Nat.pow_le_pow_right (by omega) o2
  have p6 : 2 ^ sW s ≤ 2 ^ 6 := Nat.pow_le_pow_right (by omega) o3
  refine CT_ofB (by decide +kernel) (Nat.le_of_ble_eq_true rfl) rfl fun K XX => ?_
  have r1 := hR.put (sI R 0 0)
  have s1 := hS.s0 hI
  have z1 : ri (sI R 0 0) 0 = 0 := ri_sI
  refine b_X12_sent_0 hg (by omega) k00 XX _ _ _ _ ⟨_, hR.w0 0, ?_⟩
  generalize sI R 0 0 = R1 at *
  have no : m_sent s x a b = .inr false → VB g K 8 d 0 0 (PrM h B cd2 s (m_sent s x a b)) noT 0 0 33 [some (.ref B), some (.int a), some (.int b), none, none, none, none, none] [.ref B] (pR h B R1) := by
    intro e
    exact b_X12_sent_33 hg (by omega) k00 XX _ _ _ _ _ (b_X12_sent_34 hg (by omega) k00 XX _ _ _ _ _ _ ⟨_, r1.o, use_ck (d_right (d := d - 1) hg (by omega) r1 z1 false (by decide)) (by omega) k00 (fun c => absurd c (by decide)) (fun c => ⟨fun e => absurd rfl e, fun _ => ptM (b := false) hI s1 ((QF.refl R1).i rfl) ri_sI e (hR.pp _ _)⟩)⟩)
  refine ⟨fun q1 => no (by rw [m_sent, if_pos q1]), fun q1 => ⟨_, by rw [r1.i1, s1.n], ?_⟩⟩
  rw [show (1 : Int32) <<< (nI (sN s) &&& 31) = nI (2 ^ sN s) from shl_nI (by omega)]
  refine ⟨fun q2 => no (by rw [m_sent, if_neg q1, if_pos q2]), fun q2 => ?_⟩
  obtain ⟨k, ek, hk⟩ : ∃ k, a = nI k ∧ k < 2 ^ sN s := ⟨cl a, nI_cl q1, by
    rw [nI_cl q1] at q2
    exact nle_nI (by omega) (cl_lt a) q2⟩
  subst ek
  refine use_i (d_bits (d := d - 1) hg (by omega) _) (by omega) k00 ?_
  have eb1 : btF (nI k) 12 = nI (pcN k) := btF_pc (by omega)
  have eb2 : bcE (nI k) = nI (pcN k) := bc_pc (by omega)
  have hpl := pcN_le k
  rw [eb1]
  refine ⟨fun q3 => no ?_, fun q3 => ?_⟩
  · rw [m_sent, if_neg q1, if_neg q2, eb2, if_neg (Int32.not_le.mpr q3)]
  have p66 : pcN k ≤ 6 := nlt_nI (x := 6) (by omega) (by omega) q3
  have q3' : bcE (nI k) ≤ 6 := by rw [eb2]; exact Int32.not_lt.mp q3
  refine b_X12_sent_34 hg (by omega) k00 XX _ _ _ _ _ _ ⟨_, r1.o, use_ck (d_right (c := true) (d := d - 1) hg (by omega) r1 z1 (by decide)) (by omega) k00 (fun _ => ⟨fun _ => ?_, fun e => absurd e (by decide)⟩) (fun c => absurd c (by decide))⟩
  have no2 : m_sent s x (nI k) b = .inr true → VB g K 8 d 0 0 (PrM h B cd2 s (m_sent s x (nI k) b)) noT 0 0 74 [some (.ref B), some (.int (nI k)), some (.int b), none, none, none, none, none] [.ref B] (pR h B R1) := by
    intro e
    exact b_X12_sent_74 hg (by omega) k00 XX _ _ _ _ _ (b_X12_sent_75 hg (by omega) k00 XX _ _ _ _ _ _ ⟨_, r1.o, use_ck (d_right (d := d - 1) hg (by omega) r1 z1 false (by decide)) (by omega) k00 (fun c => absurd c (by decide)) (fun c => ⟨fun e => absurd rfl e, fun _ => ptM (b := true) hI s1 ((QF.refl R1).i rfl) ri_sI e (hR.pp _ _)⟩)⟩)
  have yes : (b = -1 ∨ (inB (sN s) b = true ∧ ¬ (nI k >>> (b &&& 31)) &&& 1 = 0)) → VB g K 8 d 0 0 (PrM h B cd2 s (m_sent s x (nI k) b)) noT 0 0 70 [some (.ref B), some (.int (nI k)), some (.int b), none, none, none, none, none] [.ref B] (pR h B R1) := by
    intro q4
    refine b_X12_sent_70 hg (by omega) k00 XX _ _ _ _ _ (b_X12_sent_75 hg (by omega) k00 XX _ _ _ _ _ _ ⟨_, r1.o, use_ck (d_right (c := true) (d := d - 1) hg (by omega) r1 z1 (by decide)) (by omega) k00 (fun _ => ⟨fun _ => ?_, fun e => absurd e (by decide)⟩) (fun c => absurd c (by decide))⟩)
    have em : m_sent s x (nI k) b = if nI (pcN k) ≤ nI (sW s) then .inl (snV s (nI k) b (xSe x).2.1, s) else .inl (-2, s) := by rw [m_sent, if_neg q1, if_neg q2, if_pos q3', if_pos q4, eb2]
    rw [em]
    clear em no no2
    have egp : gpN (nI k) (sN s) = pcN k := gpN_pc o2 hk
    have hc0 : (gls s (nI k) (xSe x).2.1).1 = pcN k := by rw [gls, gls_c (n := sN s) (sN s) 0 _ (by omega) rfl (by omega), egp]
    have bq : b = -1 ∨ ∃ e, e < sN s ∧ b = nI e ∧ bitE (nI k) e = 1 := by
      rcases q4 with e | ⟨e1, e2⟩
      · exact Or.inl e
      · obtain ⟨c1, c2⟩ := inB_k (by omega) e1
        refine Or.inr ⟨cl b, c2, c1, ?_⟩
        rw [c1] at e2
        have e3 : ¬ bitE (nI k) (cl b) = 0 := e2
        rw [bitE_bt _ (by omega)] at e3 ⊢
        cases hb : bt (nI k) (cl b) with
        | true => rfl
        | false => rw [hb] at e3; exact absurd rfl e3
    have esn : snV s (nI k) b (xSe x).2.1 = if b = -1 then tbS (sN s) (sW s) 1000 (lAt (sL s)) (gls s (nI k) (xSe x).2.1).2 (pcN k) 0 else whS (sN s) (sW s) 1000 (lAt (sL s)) (gls s (nI k) (xSe x).2.1).2 (pcN k) b (pcN k) 0 0 := by rw [snV, hc0]
    rw [esn]
    clear esn
    generalize hGo : (gls s (nI k) (xSe x).2.1).2 = go at *
    generalize hm : pcN k = m at *
    have hat : ∀ w, w < sW s → ∃ j, j < sN s ∧ lAt (sL s) w = nI j := fun w hw => (hI.lok.2 w hw).1
    -- the goals
    have lp : ∀ (j i : Nat) (R2 : RefV) (p : Nat × AF), i + j = sN s → QF R1 R2 → ri R2 0 = 0 → p.1 = gpN (nI k) i → (∀ q, q < p.1 → ra R2 20 q = p.2 q ∧ ∃ e, e < sN s ∧ p.2 q = nI e) → (∀ e, e < i → bitE (nI k) e = 1 → ∃ q, q < p.1 ∧ p.2 q = nI e) → foldN (goG (nI k)) j i p = (m, go) → VB g K 8 d 0 0 (PrM h B cd2 s (if nI m ≤ nI (sW s) then .inl (if b = -1 then tbS (sN s) (sW s) 1000 (lAt (sL s)) go m 0 else whS (sN s) (sW s) 1000 (lAt (sL s)) go m b m 0 0, s) else .inl (-2, s))) noT 0 0 89 [some (.ref B), some (.int (nI k)), some (.int b), some (.int (nI p.1)), some (.int (nI i)), none, none, none] [] (pR h B R2) := by
      intro j
      induction j with
      | zero =>
        intro i R2 p hi q2 z2 hp hrow hall he
        have he' : p = (m, go) := he
        have r2 := hR.put R2
        subst he'
        refine b_X12_sent_89 hg (by omega) k00 XX _ _ _ _ _ _ ⟨_, by rw [r2.i1, (s1.qf hI q2).n], fun _ => ⟨_, by rw [r2.i2, (s1.qf hI q2).w], fun y => ?_, fun y => ?_⟩, fun q => absurd (nle_nI (by omega) (by omega) q) (by omega)⟩
        · have hmW : m ≤ sW s := le_nI (by omega) (by omega) y
          simp only at hrow hall y ⊢
          rw [if_pos y]
          have hgo : ∀ q, q < m → ∃ e, e < sN s ∧ go q = nI e := fun q hq => (hrow q hq).2
          have i2 : SeI s go m R1 R2 := ⟨q2, z2, fun q hq => (hrow q hq).1⟩
          have hfin : b = -1 ∨ ∃ q, q < m ∧ go q = b := by
            rcases bq with e | ⟨e, e1, e2, e3⟩
            · exact Or.inl e
            · obtain ⟨q, qa, qb⟩ := hall e (by omega) e3
              exact Or.inr ⟨q, qa, by rw [qb, e2]⟩
          clear hrow hall bq hp
          generalize hV : (if b = -1 then tbS (sN s) (sW s) 1000 (lAt (sL s)) go m 0 else whS (sN s) (sW s) 1000 (lAt (sL s)) go m b m 0 0) = V
          -- who goes there
          have who : ∀ (j i gone : Nat) (its : Int32) (R3 : RefV), i + j = m → SeI s go m R1 R3 → TbR s go m 0 R3 → gone < 2 ^ sW s → pcN gone = i → (∃ q, i ≤ q ∧ q < m ∧ go q = b) → whS (sN s) (sW s) 1000 (lAt (sL s)) go m b j i gone = V → VB g K 8 d 0 0 (PrM h B cd2 s (.inl (V, s))) noT 0 0 289 [some (.ref B), none, some (.int b), some (.int (nI m)), some (.int (nI gone)), some (.int its), some (.int (nI i)), none] [] (pR h B R3) := by
            intro j
            induction j with
            | zero => rintro i gone its R3 e1 _ _ _ _ ⟨q, qa, qb, _⟩ _; omega
            | succ j ih2 =>
              intro i gone its R3 e1 i3 t3 hG hpc hex hv
              have r3 := hR.put R3
              have s3 := s1.qf hI i3.1
              have h64 : gone < 64 := by omega
              obtain ⟨u, u1, u2, u3⟩ := nx_ex o2 o3 hat hgo hmW hG hpc (show i < m by omega)
              have en := nx_least u2 u3 (sW s) 0 (by omega) (by omega)
              have uf : gone.testBit u = false := by
                have := u2
                rw [nxB, Bool.and_eq_true] at this
                simpa using this.1
              rw [whS, en] at hv
              refine b_X12_sent_289 hg (by omega) k00 XX _ _ _ _ _ _ _ ⟨fun q => absurd (le_nI (by omega) (by omega) q) (by omega), fun _ => ⟨_, by rw [r3.i2, s3.w], ?_⟩⟩
              have dn : ∀ (w : Nat) (it2 : Int32), w ≤ sW s → dnS (nxB (sN s) (sW s) 1000 (lAt (sL s)) go m gone) w it2 = nI u → VB g K 8 d 0 0 (PrM h B cd2 s (.inl (V, s))) noT 0 0 303 [some (.ref B), none, some (.int b), some (.int (nI m)), some (.int (nI gone)), some (.int it2), some (.int (nI i)), some (.int (nI w - 1))] [] (pR h B R3) := by
                intro w
                induction w with
                | zero =>
                  intro it2 _ hit
                  have hit' : it2 = nI u := hit
                  subst hit'
                  refine b_X12_sent_303 hg (by omega) k00 XX _ _ _ _ _ _ _ _ ⟨fun _ => ⟨_, r3.n47, _, by rw [r3.r20 (by omega), i3.2.2 i (by omega)], fun y5 => ?_, fun y5 => ?_⟩, fun q => absurd (by decide) q⟩
                  · rw [gn_or gone h64 u (by omega), nI_s]
                    obtain ⟨q, qa, qb, qc⟩ := hex
                    have : q ≠ i := fun e => y5 (by rw [← e]; exact qc)
                    refine ih2 (i + 1) (gone ||| 2 ^ u) (nI u) R3 (by omega) i3 t3 (gn_lt hG u1) (by rw [(gn_pc gone h64 u (by omega) uf).1, hpc]) ⟨q, by omega, qb, qc⟩ ?_
                    rw [if_neg y5, if_neg (nI_pos (by omega)), show cl (nI u) = u from nI_clamp (by omega)] at hv
                    exact hv
                  · rw [if_pos y5] at hv
                    exact prM hI s1 i3.1 i3.2.1 (by rw [← hv]) rfl
                | succ w ih3 =>
                  intro it2 hw hit
                  rw [dnS] at hit
                  rw [show nI (w + 1) - 1 = nI w from by rw [nI_o, pk_sub (by omega)]; rfl]
                  obtain ⟨aw, aw1, aw2⟩ := hat w (by omega)
                  obtain ⟨bw, bw1, bw2⟩ := hgo i (by omega)
                  have nx : ∀ it3 : Int32, it3 = (if nxB (sN s) (sW s) 1000 (lAt (sL s)) go m gone w = true then nI w else it2) → VB g K 8 d 0 0 (PrM h B cd2 s (.inl (V, s))) noT 0 0 348 [some (.ref B), none, some (.int b), some (.int (nI m)), some (.int (nI gone)), some (.int it3), some (.int (nI i)), some (.int (nI w))] [] (pR h B R3) := by
                    intro it3 e3
                    refine b_X12_sent_348 hg (by omega) k00 XX _ _ _ _ _ _ _ _ ?_
                    rw [show nI w + -1 = nI w - 1 from by rw [Int32.sub_eq_add_neg]]
                    exact ih3 it3 (by omega) (by rw [e3]; exact hit)
                  have eb := gn_bit gone h64 w (by omega)
                  refine b_X12_sent_303 hg (by omega) k00 XX _ _ _ _ _ _ _ _ ⟨fun q => absurd q (nI_pos (by omega)), fun _ => ⟨fun y5 => nx it2 ?_, fun y5 => ⟨_, r3.o, use_i (d_byWoman (n := sN s) (a := aw) (b := bw) (d := d - 1) hg (by omega) r3 s3.n o2 (by omega) (by omega) h64 (by rw [s3.at0 (by omega), aw2]) (by omega) (by rw [i3.2.2 i (by omega), bw2]) (by omega)) (by omega) k00 ⟨_, r3.n46, ?_⟩⟩⟩⟩
                  · have hb : gone.testBit w = true := by
                      cases hb : gone.testBit w with
                      | true => rfl
                      | false => rw [hb] at eb; exact absurd eb y5
                    rw [nxB, hb, if_neg (by simp)]
                  · have hb : gone.testBit w = false := by
                      cases hb : gone.testBit w with
                      | false => rfl
                      | true => rw [hb] at eb; rw [show (nI gone >>> (nI w &&& 31)) &&& 1 = bitE (nI gone) w from rfl, eb] at y5; exact absurd y5 (by decide)
                    rw [show (64 : Int32) * nI i = nI (64 * i) from pk_mul 64 i, nI_add]
                    refine ⟨_, r3.r19 (by omega), ?_⟩
                    have e1' : ra R3 19 (64 * i + gone) = tbS (sN s) (sW s) 1000 (lAt (sL s)) go m gone := by rw [t3 i gone (by omega) (by omega) hG, tbS_two o2 o3 hat hgo hmW hG hpc (by omega)]
                    have e2' : stpE (sN s) (nI aw) (nI bw) + ra R3 19 (64 * (i + 1) + (gone ||| 2 ^ w)) = byS (sN s) (sW s) 1000 (lAt (sL s)) go m gone w := by
                      rw [t3 (i + 1) _ (by omega) (by omega) (gn_lt hG (by omega)), bwS_two o2 o3 hat hgo hmW hG hpc (by omega) (by omega) hb, bwS, aw2, bw2]
                    rw [e1', e2']
                    refine ⟨fun y6 => nx it2 ?_, fun y6 => nx (nI w) ?_⟩
                    · rw [nxB, hb, beq_eq_false_iff_ne.mpr y6, if_neg (by simp)]
                    · rw [nxB, hb, y6, beq_self_eq_true, if_pos (by rfl)]
              exact dn (sW s) its (Nat.le_refl _) (dn_least u2 u3 (sW s) its u1)
          -- the table
          have tab : ∀ (c : Nat) (R3 : RefV), c ≤ m → SeI s go m R1 R3 → TbR s go m c R3 → VB g K 8 d 0 0 (PrM h B cd2 s (.inl (V, s))) noT 0 0 172 [some (.ref B), none, some (.int b), some (.int (nI m)), some (.int (nI c - 1)), none, none, none] [] (pR h B R3) := by
            intro c
            induction c with
            | zero =>
              intro R3 _ i3 t3
              have r3 := hR.put R3
              refine b_X12_sent_172 hg (by omega) k00 XX _ _ _ _ _ ⟨fun _ => ⟨fun y5 => ?_, fun y5 => ⟨_, r3.n46, _, r3.r19 (k := 0) (by omega), ?_⟩⟩, fun q => absurd (by decide) q⟩
              · rw [if_neg y5] at hV
                rcases hfin with e | ⟨q, qa, qb⟩
                · exact absurd e y5
                · exact who m 0 0 (-1) R3 (by omega) i3 t3 (Nat.two_pow_pos _) rfl ⟨q, by omega, qa, qb⟩ hV
              · rw [if_pos y5] at hV
                have e1 := t3 0 0 (by omega) (by omega) (Nat.two_pow_pos _)
                have e2 := tbS_two (i := 0) (gone := 0) o2 o3 hat hgo hmW (Nat.two_pow_pos _) rfl (by omega)
                rw [hV] at e2
                rw [show 64 * 0 + 0 = 0 from rfl, ← e2] at e1
                exact prM hI s1 i3.1 i3.2.1 (by rw [e1]) rfl
            | succ c ih2 =>
              intro R3 hc i3 t3
              rw [show nI (c + 1) - 1 = nI c from by rw [nI_o, pk_sub (by omega)]; rfl]
              refine b_X12_sent_172 hg (by omega) k00 XX _ _ _ _ _ ⟨fun q => absurd q (nI_pos (by omega)), fun _ => ?_⟩
              have row : ∀ (j t : Nat) (R4 : RefV), t + j = 2 ^ sW s → SeI s go m R1 R4 → TbR s go m (c + 1) R4 → (∀ v, v < t → ra R4 19 (64 * c + v) = vS (sN s) (sW s) 99999 (lAt (sL s)) go (m - c) c v) → VB g K 8 d 0 0 (PrM h B cd2 s (.inl (V, s))) noT 0 0 180 [some (.ref B), none, some (.int b), some (.int (nI m)), some (.int (nI c)), some (.int (nI t)), none, none] [] (pR h B R4) := by
                intro j
                induction j with
                | zero =>
                  intro t R4 ht i4 t4 hr
                  have r4 := hR.put R4
                  have s4 := s1.qf hI i4.1
                  refine b_X12_sent_180 hg (by omega) k00 XX _ _ _ _ _ _ ⟨_, by rw [r4.i2, s4.w], ?_⟩
                  rw [show (1 : Int32) <<< (nI (sW s) &&& 31) = nI (2 ^ sW s) from shl_nI (by omega), show nI c + -1 = nI c - 1 from by rw [Int32.sub_eq_add_neg]]
                  refine ⟨fun _ => ih2 R4 (by omega) i4 ?_, fun q => absurd (nle_nI (by omega) (by omega) q) (by omega)⟩
                  intro i v h1 h2 h3
                  by_cases e : i = c
                  · subst e; exact hr v (by omega)
                  · exact t4 i v (by omega) h2 h3
                | succ j ih3 =>
                  intro t R4 ht i4 t4 hr
                  have r4 := hR.put R4
                  have s4 := s1.qf hI i4.1
                  refine b_X12_sent_180 hg (by omega) k00 XX _ _ _ _ _ _ ⟨_, by rw [r4.i2, s4.w], ?_⟩
                  rw [show (1 : Int32) <<< (nI (sW s) &&& 31) = nI (2 ^ sW s) from shl_nI (by omega)]
                  refine ⟨fun q => absurd (le_nI (by omega) (by omega) q) (by omega), fun _ => ?_⟩
                  have ev : vS (sN s) (sW s) 99999 (lAt (sL s)) go (m - c) c t = foldN (mnG t (bwS (sN s) (sW s) m 99999 (lAt (sL s)) go c t)) (sW s) 0 99999 := by
                    rw [show m - c = (m - (c + 1)) + 1 by omega, vS_s]
                    rfl
                  have wl : ∀ (jj w : Nat) (bst : Int32), w + jj = sW s → foldN (mnG t (bwS (sN s) (sW s) m 99999 (lAt (sL s)) go c t)) jj w bst = vS (sN s) (sW s) 99999 (lAt (sL s)) go (m - c) c t → VB g K 8 d 0 0 (PrM h B cd2 s (.inl (V, s))) noT 0 0 199 [some (.ref B), none, some (.int b), some (.int (nI m)), some (.int (nI c)), some (.int (nI t)), some (.int bst), some (.int (nI w))] [] (pR h B R4) := by
                    intro jj
                    induction jj with
                    | zero =>
                      intro w bst hw hf
                      have hf' : bst = vS (sN s) (sW s) 99999 (lAt (sL s)) go (m - c) c t := hf
                      refine b_X12_sent_199 hg (by omega) k00 XX _ _ _ _ _ _ _ _ ⟨_, by rw [r4.i2, s4.w], fun _ => ⟨_, r4.n46, ?_⟩, fun q => absurd (nle_nI (by omega) (by omega) q) (by omega)⟩
                      rw [show (64 : Int32) * nI c = nI (64 * c) from pk_mul 64 c, nI_add]
                      refine ⟨_, r4.u19 (by omega), ?_⟩
                      rw [hR.pp, nI_s]
                      refine ih3 (t + 1) _ (by omega) i4.a19 ?_ ?_
                      · intro i v h1 h2 h3
                        rw [ra_sA, pk_un (by omega)]
                        exact t4 i v h1 h2 h3
                      · intro v hv
                        rw [ra_sA]
                        by_cases e : v = t
                        · subst e; rw [pk_us]; exact hf'
                        · rw [pk_un (by omega)]; exact hr v (by omega)
                    | succ jj ih4 =>
                      intro w bst hw hf
                      rw [foldN, mnG] at hf
                      have eb := gn_bit t (by omega) w (by omega)
                      obtain ⟨aw, aw1, aw2⟩ := hat w (by omega)
                      obtain ⟨bw, bw1, bw2⟩ := hgo c (by omega)
                      refine b_X12_sent_199 hg (by omega) k00 XX _ _ _ _ _ _ _ _ ⟨_, by rw [r4.i2, s4.w], fun q => absurd (le_nI (by omega) (by omega) q) (by omega), fun _ => ⟨fun y5 => b_X12_sent_235 hg (by omega) k00 XX _ _ _ _ _ _ _ _ ?_, fun y5 => ⟨_, r4.o, use_i (d_byWoman (n := sN s) (a := aw) (b := bw) (d := d - 1) hg (by omega) r4 s4.n o2 (by omega) (by omega) (by omega) (by rw [s4.at0 (by omega), aw2]) (by omega) (by rw [i4.2.2 c (by omega), bw2]) (by omega)) (by omega) k00 (use_i (d_lesser (d := d - 1) hg (by omega) _ _) (by omega) k00 (b_X12_sent_235 hg (by omega) k00 XX _ _ _ _ _ _ _ _ ?_))⟩⟩⟩
                      · have hb : t.testBit w = true := by
                          cases hb : t.testBit w with
                          | true => rfl
                          | false => rw [hb] at eb; exact absurd eb y5
                        rw [hb, if_pos rfl] at hf
                        rw [nI_s]
                        exact ih4 (w + 1) bst (by omega) hf
                      · have hb : t.testBit w = false := by
                          cases hb : t.testBit w with
                          | false => rfl
                          | true => rw [hb] at eb; rw [show (nI t >>> (nI w &&& 31)) &&& 1 = bitE (nI t) w from rfl, eb] at y5; exact absurd y5 (by decide)
                        rw [hb, if_neg (by decide)] at hf
                        rw [nI_s]
                        have e2' : stpE (sN s) (nI aw) (nI bw) + ra R4 19 (64 * (c + 1) + (t ||| 2 ^ w)) = bwS (sN s) (sW s) m 99999 (lAt (sL s)) go c t w := by
                          rw [t4 (c + 1) _ (by omega) (by omega) (gn_lt (by omega) (by omega)), bwS, aw2, bw2]
                        rw [e2', ls_mn]
                        exact ih4 (w + 1) _ (by omega) hf
                  exact wl (sW s) 0 99999 (by omega) ev.symm
              exact row (2 ^ sW s) 0 R3 (by omega) i3 t3 (fun v hv => absurd hv (Nat.not_lt_zero v))
          -- the empty row
          have emp : ∀ (j t : Nat) (R3 : RefV), t + j = 64 → SeI s go m R1 R3 → (∀ v, v < t → ra R3 19 (64 * m + v) = 0) → VB g K 8 d 0 0 (PrM h B cd2 s (.inl (V, s))) noT 0 0 141 [some (.ref B), none, some (.int b), some (.int (nI m)), some (.int (nI t)), none, none, none] [] (pR h B R3) := by
            intro j
            induction j with
            | zero =>
              intro t R3 ht i3 hr
              refine b_X12_sent_141 hg (by omega) k00 XX _ _ _ _ _ ⟨fun _ => tab m R3 (Nat.le_refl _) i3 ?_, fun q => absurd (nle_nI (x := 64) (by omega) (by omega) q) (by omega)⟩
              intro i v h1 h2 h3
              have : i = m := by omega
              subst this
              rw [hr v (by omega), Nat.sub_self, vS]
            | succ j ih2 =>
              intro t R3 ht i3 hr
              have r3 := hR.put R3
              refine b_X12_sent_141 hg (by omega) k00 XX _ _ _ _ _ ⟨fun q => absurd (le_nI (x := 64) (by omega) (by omega) q) (by omega), fun _ => ⟨_, r3.n46, ?_⟩⟩
              rw [show (64 : Int32) * nI m = nI (64 * m) from pk_mul 64 m, nI_add]
              refine ⟨_, r3.u19 (by omega), ?_⟩
              rw [hR.pp, nI_s]
              refine ih2 (t + 1) _ (by omega) i3.a19 (fun v hv => ?_)
              rw [ra_sA]
              by_cases e : v = t
              · subst e; rw [pk_us]
              · rw [pk_un (by omega)]; exact hr v (by omega)
          exact emp 64 0 R2 (by omega) i2 (fun v hv => absurd hv (Nat.not_lt_zero v))
        · simp only at y ⊢
          rw [if_neg y]
          exact prM hI s1 q2 z2 rfl rfl
      | succ j ih =>
        intro i R2 p hi q2 z2 hp hrow hall he
        have r2 := hR.put R2
        have hmono := gpN_mono (nI k) (i := i + 1) (sN s) (by omega)
        rw [gpN, egp] at hmono
        rw [foldN] at he
        refine b_X12_sent_89 hg (by omega) k00 XX _ _ _ _ _ _ ⟨_, by rw [r2.i1, (s1.qf hI q2).n], fun q => absurd (le_nI (by omega) (by omega) q) (by omega), fun _ => ⟨fun y => ⟨_, r2.n47, ?_⟩, fun y => b_X12_sent_121 hg (by omega) k00 XX _ _ _ _ _ _ ?_⟩⟩
        · have y' : bitE (nI k) i = 1 := by
            have y2 : ¬ bitE (nI k) i = 0 := y
            rw [bitE_bt _ (by omega)] at y2 ⊢
            cases hb : bt (nI k) i with
            | true => rfl
            | false => rw [hb] at y2; exact absurd rfl y2
          rw [if_pos y', ← hp] at hmono
          refine ⟨_, r2.u20 (by omega), b_X12_sent_121 hg (by omega) k00 XX _ _ _ _ _ _ ?_⟩
          rw [hR.pp, nI_s, nI_s]
          have eg : goG (nI k) i p = (p.1 + 1, upd p.2 p.1 (nI i)) := by rw [goG, if_pos y', if_neg (by omega)]
          rw [eg] at he
          refine ih (i + 1) _ (p.1 + 1, upd p.2 p.1 (nI i)) (by omega) (q2.a rfl (by decide)) z2 (by rw [gpN, if_pos y', ← hp]) ?_ ?_ he
          · intro q hq
            simp only at hq ⊢
            rw [ra_sA]
            by_cases e : q = p.1
            · subst e; rw [pk_us, pk_us]; exact ⟨rfl, i, by omega, rfl⟩
            · rw [pk_un e, pk_un e]; exact hrow q (by omega)
          · intro e he1 he2
            by_cases e3 : e = i
            · subst e3; exact ⟨p.1, by simp only; omega, pk_us⟩
            · obtain ⟨q, qa, qb⟩ := hall e (by omega) he2
              exact ⟨q, by simp only; omega, by simp only; rw [pk_un (by omega)]; exact qb⟩
        · have y' : ¬ bitE (nI k) i = 1 := by
            have y2 : bitE (nI k) i = 0 := y
            rw [y2]; decide
          rw [nI_s]
          have eg : goG (nI k) i p = p := by rw [goG, if_neg y']
          rw [eg] at he
          refine ih (i + 1) R2 p (by omega) q2 z2 (by rw [gpN, if_neg y', hp, Nat.add_zero]) hrow ?_ he
          intro e he1 he2
          have : e ≠ i := fun e3 => y' (by rw [← e3]; exact he2)
          exact hall e (by omega) he2
    exact lp (sN s) 0 R1 (0, (xSe x).2.1) (by omega) (QF.refl _) z1 rfl (fun q hq => absurd hq (Nat.not_lt_zero q)) (fun e he => absurd he (Nat.not_lt_zero e)) (Prod.ext hc0 hGo)
  refine ⟨fun y => yes (Or.inl y), fun y => ⟨fun y2 => no2 ?_, fun y2 => ⟨_, by rw [r1.i1, s1.n], fun y3 => no2 ?_, fun y3 => ⟨fun y4 => no2 ?_, fun y4 => yes (Or.inr ⟨?_, ?_⟩)⟩⟩⟩⟩
  · rw [m_sent, if_neg q1, if_neg q2, if_pos q3', if_neg]
    rintro (e | ⟨e, _⟩)
    · exact y e
    · rw [inB, decide_eq_true y2, Bool.not_true, Bool.false_and] at e; exact absurd e (by decide)
  · rw [m_sent, if_neg q1, if_neg q2, if_pos q3', if_neg]
    rintro (e | ⟨e, _⟩)
    · exact y e
    · rw [inB, decide_eq_false (Int32.not_lt.mpr y3), Bool.and_false] at e; exact absurd e (by decide)
  · have yb : inB (sN s) b = true := by rw [inB, decide_eq_false y2, decide_eq_true (Int32.not_le.mp y3)]; rfl
    obtain ⟨c1, c2⟩ := inB_k (by omega) yb
    rw [m_sent, if_neg q1, if_neg q2, if_pos q3', if_neg]
    rintro (e | ⟨_, e⟩)
    · exact y e
    · rw [c1] at e y4
      have e3 : ¬ bitE (nI k) (cl b) = 0 := e
      have e4 : ¬ bitE (nI k) (cl b) = 1 := y4
      rw [bitE_bt _ (by omega)] at e3 e4
      cases hb : bt (nI k) (cl b) with
      | true => rw [hb] at e4; exact absurd rfl e4
      | false => rw [hb] at e3; exact absurd rfl e3
  · rw [inB, decide_eq_false y2, decide_eq_true (Int32.not_le.mp y3)]; rfl
  · rw [y4]; decide
end RSE
