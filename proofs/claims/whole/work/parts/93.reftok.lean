/-! THE REFERENCE: bytes and kinds -/
def ltB (c : Int32) : Bool := !decide (c < 97) && !decide (122 < c)
def dgB (c : Int32) : Bool := !decide (c < 48) && !decide (57 < c)
def blB (c : Int32) : Bool := decide (c = 32) || decide (c = 10)
def snB (c : Int32) : Bool := [59, 40, 41, 43, 45, 42, 47, 60, 61].contains c
theorem kd_all : ∀ m, m < 256 → (ltB ((nI m - 128) &&& 255) = decide (kdB (nI m - 128) = 1)) ∧ (dgB ((nI m - 128) &&& 255) = decide (kdB (nI m - 128) = 2)) ∧ (snB ((nI m - 128) &&& 255) = decide (kdB (nI m - 128) = 3)) ∧ (blB ((nI m - 128) &&& 255) = decide (kdB (nI m - 128) = 4)) ∧ (kdB (nI m - 128) = 5 ∨ (nI m - 128) &&& 255 = nI m - 128) ∧ ¬ kdB (nI m - 128) = 0 := by decide +kernel
theorem by_m {b : Int32} (h1 : -128 ≤ b.toInt) (h2 : b.toInt < 128) : ∃ m, m < 256 ∧ b = nI m - 128 := by
  refine ⟨(b.toInt + 128).toNat, by omega, ?_⟩
  apply Int32.toInt_inj.mp
  rw [show (128 : Int32) = nI 128 from rfl, pk_sub_toInt (by omega) (by omega)]
  omega
/-- a byte's kind, on both sides -/
theorem kd_ref {b : Int32} (h1 : -128 ≤ b.toInt) (h2 : b.toInt < 128) : (ltB (b &&& 255) = decide (kdB b = 1)) ∧ (dgB (b &&& 255) = decide (kdB b = 2)) ∧ (snB (b &&& 255) = decide (kdB b = 3)) ∧ (blB (b &&& 255) = decide (kdB b = 4)) ∧ (kdB b = 5 ∨ b &&& 255 = b) ∧ ¬ kdB b = 0 := by
  obtain ⟨m, m1, m2⟩ := by_m h1 h2
  rw [m2]
  exact kd_all m m1
section RTK
variable {g : GG} {h : Hp} {B d k len : Nat} {R : RefV} {f : AF}
theorem d_isLetter (hg : GOK g) (hd : 8 ≤ d) (c : Int32) : CT g d yX12_isLetter (wsC yX12_isLetter cX12_isLetter 1 (some .boolean)) [.int c] h 0 0 (fun v h2 => v = some (.int (if ltB c then 1 else 0)) ∧ h2 = h) noT := by
  refine CT_ofB (by decide +kernel) (Nat.le_of_ble_eq_true rfl) rfl fun K X => ?_
  refine b_X12_isLetter_0 hg hd k00 X _ _ ⟨fun y => ⟨Or.inl rfl, ?_, rfl⟩, fun y => ⟨fun z => ⟨Or.inl rfl, ?_, rfl⟩, fun z => ⟨Or.inr rfl, ?_, rfl⟩⟩⟩
  · rw [ltB, decide_eq_true y, Bool.not_true, Bool.false_and]; rfl
  · rw [ltB, decide_eq_true z, Bool.not_true, Bool.and_false]; rfl
  · rw [ltB, decide_eq_false y, decide_eq_false z]; rfl
theorem d_isDigit (hg : GOK g) (hd : 8 ≤ d) (c : Int32) : CT g d yX12_isDigit (wsC yX12_isDigit cX12_isDigit 1 (some .boolean)) [.int c] h 0 0 (fun v h2 => v = some (.int (if dgB c then 1 else 0)) ∧ h2 = h) noT := by
  refine CT_ofB (by decide +kernel) (Nat.le_of_ble_eq_true rfl) rfl fun K X => ?_
  refine b_X12_isDigit_0 hg hd k00 X _ _ ⟨fun y => ⟨Or.inl rfl, ?_, rfl⟩, fun y => ⟨fun z => ⟨Or.inl rfl, ?_, rfl⟩, fun z => ⟨Or.inr rfl, ?_, rfl⟩⟩⟩
  · rw [dgB, decide_eq_true y, Bool.not_true, Bool.false_and]; rfl
  · rw [dgB, decide_eq_true z, Bool.not_true, Bool.and_false]; rfl
  · rw [dgB, decide_eq_false y, decide_eq_false z]; rfl
/-- the byte there, 0 behind the end -/
def btA (f : AF) (len k : Nat) : Int32 := if k < len then f k &&& 255 else 0
/-- the text in the rows -/
def TpR (f : AF) (len : Nat) (R : RefV) : Prop := len ≤ 700 ∧ ri R 16 = nI len ∧ (∀ k, k < 700 → ra R 5 k = f k &&& 255) ∧ BtOK f
theorem d_byteAt (hg : GOK g) (hd : 8 ≤ d) (hR : RA h B R) (hT : TpR f len R) (hk : k < 2 ^ 30) : CT g d yX12_byteAt (wsC yX12_byteAt cX12_byteAt 2 (some .int)) [.ref B, .int (nI k)] h 0 0 (fun v h2 => v = some (.int (btA f len k)) ∧ h2 = h) noT := by
  obtain ⟨l7, e16, e5, _⟩ := hT
  refine CT_ofB (by decide +kernel) (Nat.le_of_ble_eq_true rfl) rfl fun K X => ?_
  refine b_X12_byteAt_0 hg hd k00 X _ _ _ ⟨_, by rw [hR.i16, e16], fun y => ⟨?_, rfl⟩, fun y => ?_⟩
  · have y' := le_nI (by omega) (by omega) y
    rw [btA, if_neg (by omega)]
  · have y' := nle_nI (by omega) (by omega) y
    refine ⟨_, hR.n11, _, hR.r5 (by omega), ?_, rfl⟩
    rw [btA, if_pos y', e5 k (by omega)]
/-- kinds by the byte there -/
theorem btA_k (hT : TpR f len R) : (ltB (btA f len k) = decide (kdE f len k = 1)) ∧ (dgB (btA f len k) = decide (kdE f len k = 2)) ∧ (k < len → snB (btA f len k) = decide (kdE f len k = 3)) ∧ (blB (btA f len k) = decide (kdE f len k = 4)) := by
  obtain ⟨l7, _, _, hb⟩ := hT
  unfold btA kdE
  by_cases y : k < len
  · rw [if_pos y, if_pos y]
    obtain ⟨b1, b2⟩ := hb k (by omega)
    obtain ⟨k1, k2, k3, k4, _, _⟩ := kd_ref b1 b2
    exact ⟨k1, k2, fun _ => k3, k4⟩
  · rw [if_neg y, if_neg y]
    exact ⟨by decide, by decide, fun e => absurd e y, by decide⟩
end RTK
