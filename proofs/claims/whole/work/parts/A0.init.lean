/-! CONSTRUCTORS -/
section INI
variable {g : GG} {p q : Hp} {d ci k : Nat} {fs : List Value} {v : Value}
theorem pFm (hk : k < fs.length) : pF (p ++ .inr (ci, fs) :: q) p.length ci k v = some (p ++ .inr (ci, fs.set k v) :: q) := by
  unfold pF
  rw [oF_of (show (p ++ .inr (ci, fs) :: q)[p.length]? = some (.inr (ci, fs)) by simp)]
  simp [hk]
theorem pFn {x : va_E} (hk : k < fs.length) : pF ((p ++ .inr (ci, fs) :: q) ++ [x]) p.length ci k (.ref (p ++ .inr (ci, fs) :: q).length) = some (p ++ .inr (ci, fs.set k (.ref (p.length + (q.length + 1)))) :: (q ++ [x])) := by
  rw [List.append_assoc, List.cons_append, pFm hk]
  simp
abbrev zF : AF := fun _ => 0
abbrev zL : LandV := (0, zF, zF, zF, zF, zF, zF)
theorem i_land (hg : GOK g) (hd : 9 ≤ d) : CT g d yX2_init (wsC yX2_init cX2_init 1 none) [.ref p.length] (p ++ [.inr (2, [.int 0, .null, .null, .null, .null, .null, .null])]) 6 60 (fun r h2 => r = none ∧ h2 = p ++ landC p.length zL) noT := by
  refine CT_ofB (by decide +kernel) (Nat.le_of_ble_eq_true rfl) rfl fun K X => ?_
  exact b_X2_init_0 hg (by omega) (by omega) X _ _ ⟨by omega, _, pFn (by simp), by omega, _, pFn (by simp), by omega, _, pFn (by simp), by omega, _, pFn (by simp), by omega, _, pFn (by simp), by omega, _, pFn (by simp), rfl, rfl⟩
theorem i_past (hg : GOK g) (hd : 9 ≤ d) : CT g d yX4_init (wsC yX4_init cX4_init 1 none) [.ref p.length] (p ++ [.inr (4, [.int 0, .int 0, .null])]) 1 1960 (fun r h2 => r = none ∧ h2 = p ++ pastC p.length (0, 0, zF)) noT := by
  refine CT_ofB (by decide +kernel) (Nat.le_of_ble_eq_true rfl) rfl fun K X => ?_
  exact b_X4_init_0 hg (by omega) (by omega) X _ _ ⟨by omega, _, pFn (by simp), rfl, rfl⟩
theorem i_seen (hg : GOK g) (hd : 9 ≤ d) : CT g d yX7_init (wsC yX7_init cX7_init 1 none) [.ref p.length] (p ++ [.inr (7, [.int 0, .null, .null, .null])]) 3 24 (fun r h2 => r = none ∧ h2 = p ++ seenC p.length (0, zF, zF, zF)) noT := by
  refine CT_ofB (by decide +kernel) (Nat.le_of_ble_eq_true rfl) rfl fun K X => ?_
  exact b_X7_init_0 hg (by omega) (by omega) X _ _ ⟨by omega, _, pFn (by simp), by omega, _, pFn (by simp), by omega, _, pFn (by simp), rfl, rfl⟩
theorem i_sen (hg : GOK g) (hd : 9 ≤ d) : CT g d yX8_init (wsC yX8_init cX8_init 1 none) [.ref p.length] (p ++ [.inr (8, [.null, .null, .int 0])]) 2 70 (fun r h2 => r = none ∧ h2 = p ++ [.inr (8, [.ref (p.length + 1), .ref (p.length + 2), .int 0]), .inl (0, 64, .inl zF), .inl (0, 6, .inl zF)]) noT := by
  refine CT_ofB (by decide +kernel) (Nat.le_of_ble_eq_true rfl) rfl fun K X => ?_
  exact b_X8_init_0 hg (by omega) (by omega) X _ _ ⟨by omega, _, pFn (by simp), by omega, _, pFn (by simp), rfl, rfl⟩
def knoC (a : Nat) : List va_E := [.inr (1, [.int 0, .ref (a + 1), .ref (a + 2), .ref (a + 3), .ref (a + 4), .ref (a + 5)]), .inl (0, 8, .inl zF), .inl (0, 8, .inl zF), .inl (0, 9, .inl zF), .inl (0, 10, .inl zF), .inl (0, 10, .inl zF)]
theorem i_kno (hg : GOK g) (hd : 9 ≤ d) : CT g d yX1_init (wsC yX1_init cX1_init 1 none) [.ref p.length] (p ++ [.inr (1, [.int 0, .null, .null, .null, .null, .null])]) 5 45 (fun r h2 => r = none ∧ h2 = p ++ knoC p.length) noT := by
  refine CT_ofB (by decide +kernel) (Nat.le_of_ble_eq_true rfl) rfl fun K X => ?_
  exact b_X1_init_0 hg (by omega) (by omega) X _ _ ⟨by omega, _, pFn (by simp), by omega, _, pFn (by simp), by omega, _, pFn (by simp), by omega, _, pFn (by simp), by omega, _, pFn (by simp), rfl, rfl⟩
theorem i_rule {h : Hp} {b : Nat} (hg : GOK g) (hd : 9 ≤ d) : CT g d yX6_init (wsC yX6_init cX6_init 1 none) [.ref b] h 0 0 (fun r h2 => r = none ∧ h2 = h) noT := by
  refine CT_ofB (by decide +kernel) (Nat.le_of_ble_eq_true rfl) rfl fun K X => ?_
  exact b_X6_init_0 hg (by omega) (by omega) X _ _ ⟨rfl, rfl⟩
theorem pFa {x : Hp} (hk : k < fs.length) : pF ((p ++ .inr (ci, fs) :: q) ++ x) p.length ci k v = some (p ++ .inr (ci, fs.set k v) :: (q ++ x)) := by
  rw [List.append_assoc, List.cons_append, pFm hk]
abbrev zT : ToldV := (0, 0, 7, 0, 0, zF, (0, zF, zF, zF, zF, zF), (0, 0, 0), (0, 0, 0), zF, 0, zF)
theorem i_told (hg : GOK g) (hd : 10 ≤ d) : CT g d yX9_init (wsC yX9_init cX9_init 1 none) [.ref p.length] (p ++ [.inr (9, [.int 0, .int 0, .int 0, .int 0, .int 0, .null, .null, .null, .null, .null, .int 0, .null])]) 11 827 (fun r h2 => r = none ∧ h2 = p ++ toldC p.length zT) noT := by
  refine CT_ofB (by decide +kernel) (Nat.le_of_ble_eq_true rfl) rfl fun K X => ?_
  refine b_X9_init_0 hg (by omega) (by omega) X _ _ ⟨_, pFm (by simp), by omega, _, pFa (by simp), by omega, d - 1, _, 5, 45, i_kno hg (by omega), by omega, fun v4 h4 q4 => ⟨q4.1, ?_⟩⟩
  rw [q4.2]
  refine ⟨_, pFa (by simp), by omega, d - 1, _, 0, 0, i_rule hg (by omega), by omega, fun v7 h7 q7 => ⟨q7.1, ?_⟩⟩
  rw [q7.2]
  refine ⟨_, pFa (by simp), by omega, d - 1, _, 0, 0, i_rule hg (by omega), by omega, fun v10 h10 q10 => ⟨q10.1, ?_⟩⟩
  rw [q10.2]
  refine ⟨_, pFa (by simp), by omega, _, pFa (by simp), by omega, _, pFa (by simp), rfl, ?_⟩
  simp [toldC, knoC, arr0, nI]
  rfl
theorem i_mom (hg : GOK g) (hd : 10 ≤ d) : CT g d yX3_init (wsC yX3_init cX3_init 1 none) [.ref p.length] (p ++ [.inr (3, [.null, .null, .null])]) 13 2058 (fun r h2 => r = none ∧ h2 = p ++ (momC p.length ++ landC (p.length + 1) zL ++ pastC (p.length + 8) (0, 0, zF) ++ seenC (p.length + 10) (0, zF, zF, zF))) noT := by
  refine CT_ofB (by decide +kernel) (Nat.le_of_ble_eq_true rfl) rfl fun K X => ?_
  refine b_X3_init_0 hg (by omega) (by omega) X _ _ ⟨by omega, d - 1, _, 6, 60, i_land hg (by omega), by omega, fun v4 h4 q4 => ⟨q4.1, ?_⟩⟩
  rw [q4.2]
  refine ⟨_, pFa (by simp), by omega, d - 1, _, 1, 1960, i_past hg (by omega), by omega, fun v7 h7 q7 => ⟨q7.1, ?_⟩⟩
  rw [q7.2]
  refine ⟨_, pFa (by simp), by omega, d - 1, _, 3, 24, i_seen hg (by omega), by omega, fun v10 h10 q10 => ⟨q10.1, ?_⟩⟩
  rw [q10.2]
  refine ⟨_, pFa (by simp), rfl, ?_⟩
  simp [momC, landC, pastC, seenC]
theorem i_gue (hg : GOK g) (hd : 10 ≤ d) : CT g d yX0_init (wsC yX0_init cX0_init 1 none) [.ref p.length] (p ++ [.inr (0, [.int 0, .int 0, .null, .null, .null, .null])]) 10 103 (fun r h2 => r = none ∧ h2 = p ++ ([.inr (0, [.int 0, .int 0, .ref (p.length + 1), .ref (p.length + 8), .ref (p.length + 9), .ref (p.length + 10)])] ++ landC (p.length + 1) zL ++ [.inl (0, 12, .inl zF), .inl (2, 12, .inr (.inl fun _ => 0)), .inl (2, 12, .inr (.inl fun _ => 0))])) noT := by
  refine CT_ofB (by decide +kernel) (Nat.le_of_ble_eq_true rfl) rfl fun K X => ?_
  refine b_X0_init_0 hg (by omega) (by omega) X _ _ ⟨by omega, d - 1, _, 6, 60, i_land hg (by omega), by omega, fun v4 h4 q4 => ⟨q4.1, ?_⟩⟩
  rw [q4.2]
  refine ⟨_, pFa (by simp), by omega, _, pFa (by simp), by omega, _, pFa (by simp), by omega, _, pFa (by simp), rfl, ?_⟩
  simp [landC, arr0]
end INI
