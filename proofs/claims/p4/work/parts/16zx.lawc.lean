/-! ===== the class reads a law: letters that tell a number ===== -/
theorem i2b_n : ∀ v, v < 128 → f_i2b (nI v) = nI v := by decide +kernel
theorem i2c_n : ∀ v, v < 128 → f_i2c (nI v) = nI v := by decide +kernel
theorem sBy_f : ∀ v, v < 128 → ((∃ i, i < 9 ∧ sBy.getD i 0 = nI v) ↔ fcL v) := by decide +kernel
set_option maxRecDepth 100000 in
theorem c_J1_indexOfChar {l : Launch} {v : Nat} (hv : v < 128) : MetP l 0 yJ1_indexOfChar_4cfef cJ1_indexOfChar_4cfef 6 (some .int) 0 0 [.inr (some (.inl 1000001)), .inl (nI v), .inl 0, .inl 9] [] (fun r h' => h' = [] ∧ ((∃ i, i < 9 ∧ sBy.getD i 0 = nI v ∧ r = some (.inl (nI i))) ∨ ((∀ i, i < 9 → ¬ sBy.getD i 0 = nI v) ∧ r = some (.inl (-1))))) := by
  refine m_J1_indexOfChar_4cfef (fun μ L st h => ∃ i : Nat, μ = 9 - i ∧ i ≤ 9 ∧ (∀ j, j < i → ¬ sBy.getD j 0 = nI v) ∧ L = [some (.inr (some (.inl 1000001))), some (.inl (nI v)), some (.inl 0), some (.inl 9), some (.inl (nI v)), some (.inl (nI i))] ∧ st = [] ∧ h = []) (Nat.le_of_ble_eq_true rfl) ?_ ?_
  · exact ⟨_, 0, rfl, by omega, fun j hj => absurd hj (Nat.not_lt_zero _), by rw [i2b_n v hv] <;> rfl, rfl, rfl⟩
  · rintro μ L st h ⟨i, hμ, h1, h2, rfl, rfl, rfl⟩
    refine And.intro (fun q => ?_) (fun q => ?_)
    · have q := (nI_leI (a := 9) (by omega) (by omega)).mp q
      exact ⟨rfl, Or.inr ⟨fun j hj => h2 j (by omega), rfl⟩⟩
    · have q : i < 9 := Nat.lt_of_not_le fun z => q ((nI_leI (a := 9) (by omega) (by omega)).mpr z)
      refine And.intro rfl (And.intro (vp_in_nI (n := i) (by omega) (by omega)) ?_)
      rw [nI_clamp (by omega)]
      refine And.intro (fun w => ⟨rfl, Or.inl ⟨i, q, w, rfl⟩⟩) (fun w => ⟨9 - (i + 1), by omega, i + 1, rfl, by omega, fun j hj => ?_, by rw [← nI_1 i] <;> rfl, rfl, rfl⟩)
      by_cases e : j = i
      · subst e
        exact w
      · exact h2 j (by omega)
set_option maxRecDepth 100000 in
theorem c_J1_canEncode {l : Launch} {v : Nat} (hv : v < 128) : MetP l 0 yJ1_canEncode_9a6ad cJ1_canEncode_9a6ad 1 (some .boolean) 0 0 [.inl (nI v)] [] (fun r h' => r = some (.inl 1) ∧ h' = []) := by
  refine m_J1_canEncode_9a6ad (Nat.le_of_ble_eq_true rfl) ?_
  refine And.intro (fun z => absurd ((nI_ltI (b := 0) (by omega) (by omega)).mp z) (by omega)) (fun _ => ?_)
  refine And.intro (fun z => absurd ((nI_ltI (a := 255) (by omega) (by omega)).mp z) (by omega)) (fun _ => ?_)
  exact And.intro (Or.inr rfl) ⟨rfl, rfl⟩
set_option maxRecDepth 100000 in
theorem c_J1_indexOf {l : Launch} {v : Nat} (hv : v < 128) : MetP l 1 yJ1_indexOf_4cfef cJ1_indexOf_4cfef 4 (some .int) 0 0 [.inr (some (.inl 1000001)), .inl (nI v), .inl 0, .inl 9] [] (fun r h' => h' = [] ∧ ((∃ i, i < 9 ∧ sBy.getD i 0 = nI v ∧ r = some (.inl (nI i))) ∨ ((∀ i, i < 9 → ¬ sBy.getD i 0 = nI v) ∧ r = some (.inl (-1))))) := by
  refine m_J1_indexOf_4cfef (Nat.le_of_ble_eq_true rfl) ?_
  refine call0 (c_J1_canEncode hv) rfl rfl ?_
  rintro r h' ⟨rfl, rfl⟩
  refine And.intro (fun z => absurd z (by show ¬ ((_ : Int32) = _); decide)) (fun _ => ?_)
  repeat refine And.intro rfl ?_
  refine And.intro (fun _ => ?_) (fun z => absurd (show (0 : Int32) < 9 by decide) z)
  refine call0 (c_J1_indexOfChar hv) rfl rfl ?_
  rintro r h' ⟨rfl, (⟨i, i1, i2, rfl⟩ | ⟨i1, rfl⟩)⟩
  · exact ⟨rfl, Or.inl ⟨i, i1, i2, rfl⟩⟩
  · exact ⟨rfl, Or.inr ⟨i1, rfl⟩⟩
set_option maxRecDepth 100000 in
theorem c_J0_isLatin1 {l : Launch} : MetP l 0 yJ0_isLatin1_aae02 cJ0_isLatin1_aae02 1 (some .boolean) 0 0 [.inr (some (.inl 1000000))] [] (fun r h' => r = some (.inl 1) ∧ h' = []) := by
  refine m_J0_isLatin1_aae02 (Nat.le_of_ble_eq_true rfl) ?_
  refine And.intro (fun z => absurd z (by show ¬ ((_ : Int32) = _); decide)) (fun _ => ?_)
  refine And.intro rfl ?_
  exact And.intro (fun _ => And.intro (Or.inr rfl) ⟨rfl, rfl⟩) (fun z => absurd rfl z)
set_option maxRecDepth 100000 in
theorem c_J0_coder {l : Launch} : MetP l 0 yJ0_coder_7d493 cJ0_coder_7d493 1 (some .byte) 0 0 [.inr (some (.inl 1000000))] [] (fun r h' => r = some (.inl 0) ∧ h' = []) := by
  refine m_J0_coder_7d493 (Nat.le_of_ble_eq_true rfl) ?_
  refine And.intro (fun z => absurd z (by show ¬ ((_ : Int32) = _); decide)) (fun _ => ?_)
  refine And.intro rfl ?_
  exact And.intro (Or.inl rfl) ⟨rfl, rfl⟩
set_option maxRecDepth 100000 in
theorem c_J0_length {l : Launch} : MetP l 1 yJ0_length_8abf5 cJ0_length_8abf5 1 (some .int) 0 0 [.inr (some (.inl 1000000))] [] (fun r h' => r = some (.inl 9) ∧ h' = []) := by
  refine m_J0_length_8abf5 (Nat.le_of_ble_eq_true rfl) ?_
  refine And.intro rfl (And.intro rfl ?_)
  refine ⟨rfl, rfl, _, c_J0_coder, ?_⟩
  rintro r h' ⟨rfl, rfl⟩
  exact ⟨by rw [show (9 : Int32) = f_shr 9 0 by decide] <;> rfl, rfl⟩
set_option maxRecDepth 100000 in
theorem c_J0_indexOf3 {l : Launch} {v : Nat} (hv : v < 128) : MetP l 6 yJ0_indexOf_7cf53 cJ0_indexOf_7cf53 3 (some .int) 0 0 [.inr (some (.inl 1000000)), .inl (nI v), .inl 0] [] (fun r h' => h' = [] ∧ ((∃ i, i < 9 ∧ sBy.getD i 0 = nI v ∧ r = some (.inl (nI i))) ∨ ((∀ i, i < 9 → ¬ sBy.getD i 0 = nI v) ∧ r = some (.inl (-1))))) := by
  refine m_J0_indexOf_7cf53 (Nat.le_of_ble_eq_true rfl) ?_
  refine ⟨rfl, rfl, _, c_J0_isLatin1, ?_⟩
  rintro r h' ⟨rfl, rfl⟩
  refine And.intro (fun z => absurd z (by show ¬ ((_ : Int32) = _); decide)) (fun _ => ?_)
  refine And.intro rfl ?_
  refine ⟨rfl, rfl, _, c_J0_length, ?_⟩
  rintro r h' ⟨rfl, rfl⟩
  refine call0 (c_J1_indexOf hv) rfl rfl ?_
  rintro r h' ⟨rfl, (⟨i, i1, i2, rfl⟩ | ⟨i1, rfl⟩)⟩
  · exact ⟨rfl, Or.inl ⟨i, i1, i2, rfl⟩⟩
  · exact ⟨rfl, Or.inr ⟨i1, rfl⟩⟩
set_option maxRecDepth 100000 in
theorem c_J0_indexOf {l : Launch} {X : Int32} {v : Nat} (eX : X = nI v) (hv : v < 128) : MetP l 7 yJ0_indexOf_0f7a4 cJ0_indexOf_0f7a4 2 (some .int) 0 0 [.inr (some (.inl 1000000)), .inl X] [] (fun r h' => h' = [] ∧ ((∃ i, i < 9 ∧ sBy.getD i 0 = nI v ∧ r = some (.inl (nI i))) ∨ ((∀ i, i < 9 → ¬ sBy.getD i 0 = nI v) ∧ r = some (.inl (-1))))) := by
  subst eX
  refine m_J0_indexOf_0f7a4 (Nat.le_of_ble_eq_true rfl) ?_
  refine ⟨rfl, rfl, _, c_J0_indexOf3 hv, ?_⟩
  rintro r h' ⟨rfl, (⟨i, i1, i2, rfl⟩ | ⟨i1, rfl⟩)⟩
  · exact ⟨rfl, Or.inl ⟨i, i1, i2, rfl⟩⟩
  · exact ⟨rfl, Or.inr ⟨i1, rfl⟩⟩
/-! ===== what is written ===== -/
abbrev sR (x : Int32) : Prop := 0 ≤ x.toInt ∧ x.toInt ≤ 280
theorem sR_n {s : Nat} (h : s ≤ 280) : sR (nI s) := by
  unfold sR
  rw [nI_toInt (by omega)]
  omega
set_option maxRecDepth 100000 in
theorem c_X2_write {l : Launch} {Law_rules Law_steps Law_waiting Law_refused : Int32} {Law_kind Law_worthAt Law_testAt Law_step Law_beside Law_stack : Nat → Int32}  {x y : Int32} (hs : sR Law_steps) : MetP l 0 yX2_write cX2_write 4 (some .int) 0 0 [.inr (some (.inl 0)), .inl x, .inl y] [.inr (2, [.inr (some (.inl 1)), .inr (some (.inl 2)), .inr (some (.inl 3)), .inr (some (.inl 4)), .inr (some (.inl 5)), .inr (some (.inl 6)), .inl Law_rules, .inl Law_steps, .inl Law_waiting, .inl Law_refused]), .inl (0, 16, Law_kind), .inl (0, 16, Law_worthAt), .inl (0, 16, Law_testAt), .inl (0, 280, Law_step), .inl (0, 280, Law_beside), .inl (0, 24, Law_stack)] (fun r h' => ∃ (v sp : Int32) (f1 f2 : Nat → Int32), r = some (.inl v) ∧ sR sp ∧ h' = [.inr (2, [.inr (some (.inl 1)), .inr (some (.inl 2)), .inr (some (.inl 3)), .inr (some (.inl 4)), .inr (some (.inl 5)), .inr (some (.inl 6)), .inl Law_rules, .inl sp, .inl Law_waiting, .inl Law_refused]), .inl (0, 16, Law_kind), .inl (0, 16, Law_worthAt), .inl (0, 16, Law_testAt), .inl (0, 280, f1), .inl (0, 280, f2), .inl (0, 24, Law_stack)]) := by
  obtain ⟨s, h9, rfl⟩ := rng_n (x := Law_steps) (k := 280) hs.1 hs.2
  refine m_X2_write (Nat.le_of_ble_eq_true rfl) ?_
  refine And.intro (fun w => ⟨_, _, _, _, rfl, sR_n h9, rfl⟩) (fun w => ?_)
  have w : s < 280 := Nat.lt_of_not_le fun z => w ((nI_leI (a := 280) (by omega) (by omega)).mpr z)
  refine And.intro (vp_in_nI (n := s) (by omega) (by omega)) (And.intro (vp_in_nI (n := s) (by omega) (by omega)) ?_)
  exact ⟨_, nI (s + 1), _, _, rfl, sR_n (by omega), by rw [← nI_1 s] <;> rfl⟩
set_option maxRecDepth 100000 in
theorem c_X2_landHere {l : Launch} {Law_rules Law_steps Law_waiting Law_refused : Int32} {Law_kind Law_worthAt Law_testAt Law_step Law_beside Law_stack : Nat → Int32}  {x : Int32} : MetP l 1 yX2_landHere cX2_landHere 2 none 0 0 [.inr (some (.inl 0)), .inl x] [.inr (2, [.inr (some (.inl 1)), .inr (some (.inl 2)), .inr (some (.inl 3)), .inr (some (.inl 4)), .inr (some (.inl 5)), .inr (some (.inl 6)), .inl Law_rules, .inl Law_steps, .inl Law_waiting, .inl Law_refused]), .inl (0, 16, Law_kind), .inl (0, 16, Law_worthAt), .inl (0, 16, Law_testAt), .inl (0, 280, Law_step), .inl (0, 280, Law_beside), .inl (0, 24, Law_stack)] (fun r h' => ∃ f2 : Nat → Int32, r = none ∧ h' = [.inr (2, [.inr (some (.inl 1)), .inr (some (.inl 2)), .inr (some (.inl 3)), .inr (some (.inl 4)), .inr (some (.inl 5)), .inr (some (.inl 6)), .inl Law_rules, .inl Law_steps, .inl Law_waiting, .inl Law_refused]), .inl (0, 16, Law_kind), .inl (0, 16, Law_worthAt), .inl (0, 16, Law_testAt), .inl (0, 280, Law_step), .inl (0, 280, f2), .inl (0, 24, Law_stack)]) := by
  refine m_X2_landHere (Nat.le_of_ble_eq_true rfl) ?_
  refine call0 (c_within) rfl rfl ?_
  rintro r h' ⟨rfl, rfl⟩
  refine br_b (fun _ => ⟨_, rfl, rfl⟩) (fun w => ?_)
  obtain ⟨v, v1, v2, rfl⟩ := in_n (a := 0) (b := 279) w rfl rfl (by omega) (by omega)
  exact And.intro (vp_in_nI (n := v) (by omega) (by omega)) ⟨_, rfl, rfl⟩
set_option maxRecDepth 100000 in
theorem c_X2_size {l : Launch} {Law_rules Law_steps Law_waiting Law_refused : Int32} {Law_kind Law_worthAt Law_testAt Law_step Law_beside Law_stack : Nat → Int32}  : MetP l 0 yX2_size cX2_size 1 (some .int) 0 0 [.inr (some (.inl 0))] [.inr (2, [.inr (some (.inl 1)), .inr (some (.inl 2)), .inr (some (.inl 3)), .inr (some (.inl 4)), .inr (some (.inl 5)), .inr (some (.inl 6)), .inl Law_rules, .inl Law_steps, .inl Law_waiting, .inl Law_refused]), .inl (0, 16, Law_kind), .inl (0, 16, Law_worthAt), .inl (0, 16, Law_testAt), .inl (0, 280, Law_step), .inl (0, 280, Law_beside), .inl (0, 24, Law_stack)] (fun r h' => r = some (.inl Law_rules) ∧ h' = [.inr (2, [.inr (some (.inl 1)), .inr (some (.inl 2)), .inr (some (.inl 3)), .inr (some (.inl 4)), .inr (some (.inl 5)), .inr (some (.inl 6)), .inl Law_rules, .inl Law_steps, .inl Law_waiting, .inl Law_refused]), .inl (0, 16, Law_kind), .inl (0, 16, Law_worthAt), .inl (0, 16, Law_testAt), .inl (0, 280, Law_step), .inl (0, 280, Law_beside), .inl (0, 24, Law_stack)]) := by
  refine m_X2_size (Nat.le_of_ble_eq_true rfl) ?_
  exact ⟨rfl, rfl⟩
set_option maxRecDepth 100000 in
theorem c_X2_clear {l : Launch} {Law_rules Law_steps Law_waiting Law_refused : Int32} {Law_kind Law_worthAt Law_testAt Law_step Law_beside Law_stack : Nat → Int32}  : MetP l 0 yX2_clear cX2_clear 1 none 0 0 [.inr (some (.inl 0))] [.inr (2, [.inr (some (.inl 1)), .inr (some (.inl 2)), .inr (some (.inl 3)), .inr (some (.inl 4)), .inr (some (.inl 5)), .inr (some (.inl 6)), .inl Law_rules, .inl Law_steps, .inl Law_waiting, .inl Law_refused]), .inl (0, 16, Law_kind), .inl (0, 16, Law_worthAt), .inl (0, 16, Law_testAt), .inl (0, 280, Law_step), .inl (0, 280, Law_beside), .inl (0, 24, Law_stack)] (fun r h' => r = none ∧ h' = [.inr (2, [.inr (some (.inl 1)), .inr (some (.inl 2)), .inr (some (.inl 3)), .inr (some (.inl 4)), .inr (some (.inl 5)), .inr (some (.inl 6)), .inl 0, .inl 0, .inl Law_waiting, .inl Law_refused]), .inl (0, 16, Law_kind), .inl (0, 16, Law_worthAt), .inl (0, 16, Law_testAt), .inl (0, 280, Law_step), .inl (0, 280, Law_beside), .inl (0, 24, Law_stack)]) := by
  refine m_X2_clear (Nat.le_of_ble_eq_true rfl) ?_
  exact ⟨rfl, rfl⟩
set_option maxRecDepth 100000 in
theorem c_X2_beginRule {l : Launch} {Law_steps Law_waiting Law_refused : Int32} {Law_kind Law_worthAt Law_testAt Law_step Law_beside Law_stack : Nat → Int32}  {x : Int32} {m : Nat} (hm : m < 16) : MetP l 0 yX2_beginRule cX2_beginRule 2 none 0 0 [.inr (some (.inl 0)), .inl x] [.inr (2, [.inr (some (.inl 1)), .inr (some (.inl 2)), .inr (some (.inl 3)), .inr (some (.inl 4)), .inr (some (.inl 5)), .inr (some (.inl 6)), .inl ((nI m)), .inl Law_steps, .inl Law_waiting, .inl Law_refused]), .inl (0, 16, Law_kind), .inl (0, 16, Law_worthAt), .inl (0, 16, Law_testAt), .inl (0, 280, Law_step), .inl (0, 280, Law_beside), .inl (0, 24, Law_stack)] (fun r h' => ∃ k1 k2 k3 : Nat → Int32, r = none ∧ h' = [.inr (2, [.inr (some (.inl 1)), .inr (some (.inl 2)), .inr (some (.inl 3)), .inr (some (.inl 4)), .inr (some (.inl 5)), .inr (some (.inl 6)), .inl ((nI (m + 1))), .inl Law_steps, .inl Law_waiting, .inl Law_refused]), .inl (0, 16, k1), .inl (0, 16, k2), .inl (0, 16, k3), .inl (0, 280, Law_step), .inl (0, 280, Law_beside), .inl (0, 24, Law_stack)]) := by
  refine m_X2_beginRule (Nat.le_of_ble_eq_true rfl) ?_
  refine And.intro (fun z => absurd ((nI_leI (a := 16) (by omega) (by omega)).mp z) (by omega)) (fun _ => ?_)
  refine And.intro (vp_in_nI (n := m) (by omega) (by omega)) (And.intro (vp_in_nI (n := m) (by omega) (by omega)) (And.intro (vp_in_nI (n := m) (by omega) (by omega)) ?_))
  exact ⟨_, _, _, rfl, by rw [← nI_1 m] <;> rfl⟩
set_option maxRecDepth 100000 in
theorem c_X2_beginTest {l : Launch} {Law_steps Law_waiting Law_refused : Int32} {Law_kind Law_worthAt Law_testAt Law_step Law_beside Law_stack : Nat → Int32}  {m : Nat} (hm : m < 16) : MetP l 1 yX2_beginTest cX2_beginTest 1 none 0 0 [.inr (some (.inl 0))] [.inr (2, [.inr (some (.inl 1)), .inr (some (.inl 2)), .inr (some (.inl 3)), .inr (some (.inl 4)), .inr (some (.inl 5)), .inr (some (.inl 6)), .inl ((nI (m + 1))), .inl Law_steps, .inl Law_waiting, .inl Law_refused]), .inl (0, 16, Law_kind), .inl (0, 16, Law_worthAt), .inl (0, 16, Law_testAt), .inl (0, 280, Law_step), .inl (0, 280, Law_beside), .inl (0, 24, Law_stack)] (fun r h' => ∃ k3 : Nat → Int32, r = none ∧ h' = [.inr (2, [.inr (some (.inl 1)), .inr (some (.inl 2)), .inr (some (.inl 3)), .inr (some (.inl 4)), .inr (some (.inl 5)), .inr (some (.inl 6)), .inl ((nI (m + 1))), .inl Law_steps, .inl Law_waiting, .inl Law_refused]), .inl (0, 16, Law_kind), .inl (0, 16, Law_worthAt), .inl (0, 16, k3), .inl (0, 280, Law_step), .inl (0, 280, Law_beside), .inl (0, 24, Law_stack)]) := by
  refine m_X2_beginTest (Nat.le_of_ble_eq_true rfl) ?_
  refine call0 (c_within) rfl rfl ?_
  rintro r h' ⟨rfl, rfl⟩
  refine br_b (fun _ => ⟨_, rfl, rfl⟩) (fun _ => ?_)
  have e : f_sub (nI (m + 1)) 1 = nI m := nI_sub (a := m + 1) (b := 1) (by omega)
  exact And.intro (by rw [e]; exact vp_in_nI (n := m) (by omega) (by omega)) ⟨_, rfl, rfl⟩
/-! ===== the readers, one in another ===== -/
abbrev lwH (n : Nat) (Txt K1 K2 K3 K4 : Nat → Int32) (ru wt rf : Int32) (at_ ah fa sp : Int32) (f1 f2 : Nat → Int32) : PH := [.inr (3, [.inr (some (.inl 1)), .inl (nI n), .inl at_, .inl ah, .inl fa, .inr (some (.inl 2))]), .inl (0, 260, Txt), .inr (2, [.inr (some (.inl 3)), .inr (some (.inl 4)), .inr (some (.inl 5)), .inr (some (.inl 6)), .inr (some (.inl 7)), .inr (some (.inl 8)), .inl ru, .inl sp, .inl wt, .inl rf]), .inl (0, 16, K1), .inl (0, 16, K2), .inl (0, 16, K3), .inl (0, 280, f1), .inl (0, 280, f2), .inl (0, 24, K4)]
/-- a reader's end: a FAULT, or a place behind -/
def LPo (b : Nat → Nat) (n : Nat) (Hh : Int32 → Int32 → Int32 → Int32 → (Nat → Int32) → (Nat → Int32) → PH) (fa : Int32) (s0 : LwS) (sT : Nat → LwS) (p : Nat) (C : Nat → Prop) (r : Option PV) (h' : PH) : Prop := (r = some (.inl 0) ∧ ∃ (g a : Nat) (at_ ah sp : Int32) (f1 f2 : Nat → Int32), lE b n s0 (.inl (g, a)) ∧ (1 ≤ g ∧ g ≤ 9) ∧ a ≤ n ∧ sR sp ∧ h' = Hh at_ ah (ftV g a) sp f1 f2) ∨ (r = some (.inl 1) ∧ ∃ (q : Nat) (sp : Int32) (f1 f2 : Nat → Int32), lT b n s0 (sT q) ∧ p < q ∧ q ≤ n ∧ C q ∧ sR sp ∧ h' = Hh (nI q) (aV b n q) fa sp f1 f2)
def RFa (l : Launch) (d : Nat) (b : Nat → Nat) (n op : Nat) : Prop := ∀ {Txt K1 K2 K3 K4 f1 f2 : Nat → Int32} {ru wt rf fa sp : Int32} {k : Nat} {p m : Nat} {s : List Nat}, s.length = op → p ≤ n → txB Txt b n → sR sp → MetP l d yX3_readFactor cX3_readFactor 4 (some .boolean) 0 0 [.inr (some (.inl 0)), .inl (nI op)] (lwH n Txt K1 K2 K3 K4 ru wt rf (nI p) (aV b n p) fa sp f1 f2) (LPo b n (lwH n Txt K1 K2 K3 K4 ru wt rf) fa (1, k, p, m, s) (fun q => (2, k, q, m, s)) p (fun q => True))
def RTm (l : Launch) (d : Nat) (b : Nat → Nat) (n op : Nat) : Prop := ∀ {Txt K1 K2 K3 K4 f1 f2 : Nat → Int32} {ru wt rf fa sp : Int32} {k : Nat} {p m : Nat} {s : List Nat}, s.length = op → p ≤ n → txB Txt b n → sR sp → MetP l d yX3_readTerm cX3_readTerm 4 (some .boolean) 0 0 [.inr (some (.inl 0)), .inl (nI op)] (lwH n Txt K1 K2 K3 K4 ru wt rf (nI p) (aV b n p) fa sp f1 f2) (LPo b n (lwH n Txt K1 K2 K3 K4 ru wt rf) fa (1, k, p, m, s) (fun q => (2, k, q, m, s)) p (fun q => ¬ (hr b n q = 42 ∨ hr b n q = 47 ∨ hr b n q = 37)))
def RSu (l : Launch) (d : Nat) (b : Nat → Nat) (n op : Nat) : Prop := ∀ {Txt K1 K2 K3 K4 f1 f2 : Nat → Int32} {ru wt rf fa sp : Int32} {k : Nat} {p m : Nat} {s : List Nat}, s.length = op → p ≤ n → txB Txt b n → sR sp → MetP l d yX3_readSum cX3_readSum 4 (some .boolean) 0 0 [.inr (some (.inl 0)), .inl (nI op)] (lwH n Txt K1 K2 K3 K4 ru wt rf (nI p) (aV b n p) fa sp f1 f2) (LPo b n (lwH n Txt K1 K2 K3 K4 ru wt rf) fa (1, k, p, m, s) (fun q => (2, k, q, m, s)) p (fun q => ¬ sgL (hr b n q)))
def RCo (l : Launch) (d : Nat) (b : Nat → Nat) (n op : Nat) : Prop := ∀ {Txt K1 K2 K3 K4 f1 f2 : Nat → Int32} {ru wt rf fa sp : Int32}  {p m : Nat} {s : List Nat}, s.length = op → (∀ r, ¬ s = 0 :: r) → p ≤ n → txB Txt b n → sR sp → MetP l d yX3_readComparison cX3_readComparison 3 (some .boolean) 0 0 [.inr (some (.inl 0)), .inl (nI op)] (lwH n Txt K1 K2 K3 K4 ru wt rf (nI p) (aV b n p) fa sp f1 f2) (LPo b n (lwH n Txt K1 K2 K3 K4 ru wt rf) fa (1, 1, p, m, s) (fun q => (5, 0, q, m, s)) p (fun q => True))
def RTe (l : Launch) (d : Nat) (b : Nat → Nat) (n op : Nat) : Prop := ∀ {Txt K1 K2 K3 K4 f1 f2 : Nat → Int32} {ru wt rf fa sp : Int32}  {p m : Nat} {s : List Nat}, s.length = op → (∀ r, ¬ s = 0 :: r) → ¬ s = [] → p ≤ n → txB Txt b n → sR sp → MetP l d yX3_readTest cX3_readTest 3 (some .boolean) 0 0 [.inr (some (.inl 0)), .inl (nI op)] (lwH n Txt K1 K2 K3 K4 ru wt rf (nI p) (aV b n p) fa sp f1 f2) (LPo b n (lwH n Txt K1 K2 K3 K4 ru wt rf) fa (4, 0, p, m, s) (fun q => (5, 0, q, m, s)) p (fun q => True))
def RAl (l : Launch) (d : Nat) (b : Nat → Nat) (n op : Nat) : Prop := ∀ {Txt K1 K2 K3 K4 f1 f2 : Nat → Int32} {ru wt rf fa sp : Int32}  {p m : Nat} {s : List Nat}, s.length = op → (∃ r, s = 1 :: r) → p ≤ n → txB Txt b n → sR sp → MetP l d yX3_readAll cX3_readAll 4 (some .boolean) 0 0 [.inr (some (.inl 0)), .inl (nI op)] (lwH n Txt K1 K2 K3 K4 ru wt rf (nI p) (aV b n p) fa sp f1 f2) (LPo b n (lwH n Txt K1 K2 K3 K4 ru wt rf) fa (4, 0, p, m, s) (fun q => (6, 0, q, m, s)) p (fun q => ¬ hr b n q = 38))
def RAn (l : Launch) (d : Nat) (b : Nat → Nat) (n op : Nat) : Prop := ∀ {Txt K1 K2 K3 K4 f1 f2 : Nat → Int32} {ru wt rf fa sp : Int32}  {p m : Nat} {s : List Nat}, s.length = op → (∃ r, s = 1 :: r) → p ≤ n → txB Txt b n → sR sp → MetP l d yX3_readAny cX3_readAny 4 (some .boolean) 0 0 [.inr (some (.inl 0)), .inl (nI op)] (lwH n Txt K1 K2 K3 K4 ru wt rf (nI p) (aV b n p) fa sp f1 f2) (LPo b n (lwH n Txt K1 K2 K3 K4 ru wt rf) fa (4, 0, p, m, s) (fun q => (6, 0, q, m, s)) p (fun q => ¬ (hr b n q = 38 ∨ hr b n q = 124)))
theorem RFa_of {l : Launch} {d n op : Nat} {b : Nat → Nat} (hd : 7 ≤ d) (hn : n ≤ 240) (ho : op ≤ 6) (hS : op < 6 → RSu l d b n (op + 1)) : RFa l (d + 1) b n op := by
  intro Txt K1 K2 K3 K4 f1 f2 ru wt rf fa sp k p m s hs hp hb hsp
  have hb' : ∀ i, i < n → b i ≤ 255 := fun i hi => (hb i hi).1
  refine m_X3_readFactor d hd (Nat.le_of_ble_eq_true rfl) ?_
  refine call0 (c_X6_ahead_L) rfl rfl ?_
  rintro r h' ⟨rfl, rfl⟩
  refine And.intro (fun (w : aV b n p = nI 91) => ?_) (fun (w : ¬ aV b n p = nI 91) => ?_)
  · have w := (aV_eq hb' (by omega)).mp w
    have pl := hr_lt w (by omega)
    by_cases o6 : op < 6
    · refine And.intro (fun _ => ?_) (fun z => absurd ((nI_ltI (b := 6) (by omega) (by omega)).mpr o6) z)
      refine call0 (c_X6_skip_L (n := n) (q := p + 1) (b := b) hn (by omega) (nI_1 p) hb) rfl rfl ?_
      rintro r h' ⟨rfl, rfl⟩
      have so := l_open (k := k) (m := m) (s := s) w (by omega)
      have ht := hS o6 (Txt := Txt) (K1 := K1) (K2 := K2) (K3 := K3) (K4 := K4) (f1 := f1) (f2 := f2) (ru := ru) (wt := wt) (rf := rf) (fa := fa) (sp := sp) (k := k) (p := p + 1) (m := m) (s := 0 :: s) (by show s.length + 1 = op + 1; omega) (by omega) hb hsp
      rw [← nI_1 op] at ht
      refine call0 ht rfl rfl ?_
      rintro r h' (⟨rfl, g, a, at2, ah2, sp2, f12, f22, e1, e2, e3, e4, rfl⟩ | ⟨rfl, q, sp2, f12, f22, e1, e2, e3, e4, e5, rfl⟩)
      · refine And.intro (fun _ => ?_) (fun z => absurd rfl z)
        exact And.intro (Or.inl rfl) (Or.inl ⟨rfl, g, a, at2, ah2, sp2, f12, f22, lT_E so e1, e2, e3, e4, rfl⟩)
      · refine And.intro (fun z => absurd z (by show ¬ ((_ : Int32) = _); decide)) (fun _ => ?_)
        refine call0 (c_X6_reads_L (b := b) (n := n) (p := q) (k := 93) hn e3 (by omega) hb) rfl rfl ?_
        rintro r h' (⟨v, rfl, rfl⟩ | ⟨v, rfl, rfl⟩)
        · have ql := hr_lt v (by omega)
          refine And.intro (fun z => absurd z (by show ¬ ((_ : Int32) = _); decide)) (fun _ => ?_)
          exact And.intro (Or.inr rfl) (Or.inr ⟨rfl, q + 1, sp2, f12, f22, lT_T so (lT_T e1 (l_shut v)), by omega, by omega, trivial, e5, rfl⟩)
        · refine And.intro (fun _ => ?_) (fun z => absurd rfl z)
          exact And.intro (Or.inl rfl) (Or.inl ⟨rfl, 1, q, _, _, sp2, f12, f22, lT_E so (lT_E e1 (l_nshut e4 v)), by omega, e3, e5, rfl⟩)
    · refine And.intro (fun z => absurd ((nI_ltI (b := 6) (by omega) (by omega)).mp z) o6) (fun _ => ?_)
      refine call0 (c_X6_at_L) rfl rfl ?_
      rintro r h' ⟨rfl, rfl⟩
      refine call0 (c_X6_fails_L) rfl rfl ?_
      rintro r h' ⟨rfl, rfl⟩
      exact And.intro (Or.inl rfl) (Or.inl ⟨rfl, 5, p, _, _, sp, f1, f2, l_deep w (by omega), by omega, hp, hsp, rfl⟩)
  · have w : ¬ hr b n p = 91 := fun z => w ((aV_eq hb' (by omega)).mpr z)
    -- no letter
    have b82 : ∀ {V : Int32} {z3 : Option PV}, V < 0 → ¬ fcL (hr b n p) → b_X3_readFactor_82 l d (LPo b n (lwH n Txt K1 K2 K3 K4 ru wt rf) fa (1, k, p, m, s) (fun q => (2, k, q, m, s)) p (fun q => True)) [some (.inr (some (.inl 0))), some (.inl (nI op)), none, z3] [.inl V] (lwH n Txt K1 K2 K3 K4 ru wt rf (nI p) (aV b n p) fa sp f1 f2) := fun {V z3} hV hf => by
      refine And.intro (fun _ => ?_) (fun z => absurd hV z)
      refine call0 (c_X6_readNumber_L (b := b) (n := n) (p := p) hn hp hb) rfl rfl ?_
      rintro r h' (⟨v, q, d0, d1, d2, rfl, rfl⟩ | ⟨q, d0, d1, d2, rfl, rfl⟩ | ⟨d0, rfl, rfl⟩)
      · have l1 := dgE_le hp d1
        refine call0 (c_X2_write hsp) rfl rfl ?_
        rintro r h' ⟨v2, sp2, f12, f22, rfl, hs2, rfl⟩
        refine And.intro (fun z => absurd z (n1_k (by omega))) (fun _ => ?_)
        exact And.intro (Or.inr rfl) (Or.inr ⟨rfl, q, sp2, f12, f22, l_num d0 d1, l1.2.2 d0 (by omega), l1.2.1, trivial, hs2, rfl⟩)
      · refine call0 (c_X2_write hsp) rfl rfl ?_
        rintro r h' ⟨v2, sp2, f12, f22, rfl, hs2, rfl⟩
        refine And.intro (fun _ => ?_) (fun z => absurd rfl z)
        exact And.intro (Or.inl rfl) (Or.inl ⟨rfl, 2, q, _, _, sp2, f12, f22, l_long d0 d1, by omega, d2, hs2, rfl⟩)
      · refine call0 (c_X2_write hsp) rfl rfl ?_
        rintro r h' ⟨v2, sp2, f12, f22, rfl, hs2, rfl⟩
        refine And.intro (fun _ => ?_) (fun z => absurd rfl z)
        exact And.intro (Or.inl rfl) (Or.inl ⟨rfl, 1, p, _, _, sp2, f12, f22, l_none w d0 hf, by omega, hp, hs2, rfl⟩)
    refine call0 (c_X6_ahead_L) rfl rfl ?_
    rintro r h' ⟨rfl, rfl⟩
    refine call0 (c_within) rfl rfl ?_
    rintro r h' ⟨rfl, rfl⟩
    refine br_b (fun z => ?_) (fun z => ?_)
    · have z : ¬ (97 ≤ hr b n p ∧ hr b n p ≤ 122) := fun y => z ((aV_in (lo := 97) (hi := 122) hb' (by omega) (by omega)).mpr y)
      exact b82 (by decide) (fun y => z (by omega))
    · have z := (aV_in (lo := 97) (hi := 122) hb' (by omega) (by omega)).mp z
      have pl := hr_lt2 (b := b) (n := n) (p := p) (by omega)
      refine And.intro rfl ?_
      refine call0 (c_X6_ahead_L) rfl rfl ?_
      rintro r h' ⟨rfl, rfl⟩
      have ex : f_i2c (aV b n p) = nI (hr b n p) := by
        rw [aV_n (by omega)]
        exact i2c_n _ (by omega)
      refine ⟨rfl, rfl, _, c_J0_indexOf (v := hr b n p) ex (by omega), ?_⟩
      rintro r h' ⟨rfl, (⟨i, i1, i2, rfl⟩ | ⟨i1, rfl⟩)⟩
      · have hf : fcL (hr b n p) := (sBy_f _ (by omega)).mp ⟨i, i1, i2⟩
        refine And.intro (fun z => absurd ((nI_ltI (b := 0) (by omega) (by omega)).mp z) (by omega)) (fun _ => ?_)
        refine call0 (c_X6_skip_L (n := n) (q := p + 1) (b := b) hn (by omega) (nI_1 p) hb) rfl rfl ?_
        rintro r h' ⟨rfl, rfl⟩
        refine call0 (c_X2_write hsp) rfl rfl ?_
        rintro r h' ⟨v2, sp2, f12, f22, rfl, hs2, rfl⟩
        exact And.intro (Or.inr rfl) (Or.inr ⟨rfl, p + 1, sp2, f12, f22, l_fact hf, by omega, pl, trivial, hs2, rfl⟩)
      · exact b82 (by decide) (fun y => by
          obtain ⟨i, i2, i3⟩ := (sBy_f _ (by omega)).mpr y
          exact i1 i i2 i3)
theorem RTm_of {l : Launch} {d n op : Nat} {b : Nat → Nat} (hn : n ≤ 240) (hF : RFa l d b n op) : RTm l (d + 1) b n op := by
  intro Txt K1 K2 K3 K4 f1 f2 ru wt rf fa sp k p m s hs hp hb hsp
  have hb' : ∀ i, i < n → b i ≤ 255 := fun i hi => (hb i hi).1
  refine m_X3_readTerm d (Nat.zero_le _) (fun μ L st h => ∃ (i q : Nat) (sp2 : Int32) (f12 f22 : Nat → Int32) (z : Option PV), μ = 240 - i ∧ i ≤ 240 ∧ p + i < q ∧ q ≤ n ∧ lT b n (1, k, p, m, s) (2, k, q, m, s) ∧ sR sp2 ∧ L = [some (.inr (some (.inl 0))), some (.inl (nI op)), some (.inl (nI i)), z] ∧ st = [] ∧ h = lwH n Txt K1 K2 K3 K4 ru wt rf (nI q) (aV b n q) fa sp2 f12 f22) (Nat.le_of_ble_eq_true rfl) ?_ ?_
  · refine call0 (hF (Txt := Txt) (K1 := K1) (K2 := K2) (K3 := K3) (K4 := K4) (f1 := f1) (f2 := f2) (ru := ru) (wt := wt) (rf := rf) (fa := fa) (sp := sp) (k := k) (p := p) (m := m) (s := s) hs hp hb hsp) rfl rfl ?_
    rintro r h' (⟨rfl, g, a, at2, ah2, sp2, f12, f22, e1, e2, e3, e4, rfl⟩ | ⟨rfl, q, sp2, f12, f22, e1, e2, e3, e4, e5, rfl⟩)
    · refine And.intro (fun _ => ?_) (fun z => absurd rfl z)
      exact And.intro (Or.inl rfl) (Or.inl ⟨rfl, g, a, at2, ah2, sp2, f12, f22, e1, e2, e3, e4, rfl⟩)
    · refine And.intro (fun z => absurd z (by show ¬ ((_ : Int32) = _); decide)) (fun _ => ?_)
      exact ⟨_, 0, q, sp2, f12, f22, _, rfl, by omega, by omega, e3, e1, e5, rfl, rfl, rfl⟩
  · rintro μ L st h ⟨i, q, sp2, f12, f22, z, hμ, h1, h2, h3, h4, h5, rfl, rfl, rfl⟩
    have go : ∀ {C : Blk}, (∀ (q2 : Nat) (sp3 : Int32) (f13 f23 : Nat → Int32) (z : Option PV), lT b n (1, k, p, m, s) (2, k, q2, m, s) → q + 1 < q2 → q2 ≤ n → sR sp3 → C [some (.inr (some (.inl 0))), some (.inl (nI op)), some (.inl (nI (i + 1))), z] [] (lwH n Txt K1 K2 K3 K4 ru wt rf (nI q2) (aV b n q2) fa sp3 f13 f23)) → (hr b n q = 42 ∨ hr b n q = 47 ∨ hr b n q = 37) → b_X3_readTerm_46 l d C (LPo b n (lwH n Txt K1 K2 K3 K4 ru wt rf) fa (1, k, p, m, s) (fun q => (2, k, q, m, s)) p (fun q => ¬ (hr b n q = 42 ∨ hr b n q = 47 ∨ hr b n q = 37))) [some (.inr (some (.inl 0))), some (.inl (nI op)), some (.inl (nI i)), z] [] (lwH n Txt K1 K2 K3 K4 ru wt rf (nI q) (aV b n q) fa sp2 f12 f22) := by
      intro C HC sg
      have ql : q < n := hr_lt2 (b := b) (by omega)
      refine call0 (c_X6_ahead_L) rfl rfl ?_
      rintro r h' ⟨rfl, rfl⟩
      refine call0 (c_X6_skip_L (n := n) (q := q + 1) (b := b) hn (by omega) (nI_1 q) hb) rfl rfl ?_
      rintro r h' ⟨rfl, rfl⟩
      refine call0 (hF (Txt := Txt) (K1 := K1) (K2 := K2) (K3 := K3) (K4 := K4) (f1 := f12) (f2 := f22) (ru := ru) (wt := wt) (rf := rf) (fa := fa) (sp := sp2) (k := k) (p := q + 1) (m := m) (s := s) hs (by omega) hb h5) rfl rfl ?_
      rintro r h' (⟨rfl, g, a, at2, ah2, sp3, f13, f23, e1, e2, e3, e4, rfl⟩ | ⟨rfl, q2, sp3, f13, f23, e1, e2, e3, e4, e5, rfl⟩)
      · refine And.intro (fun _ => ?_) (fun z => absurd rfl z)
        exact And.intro (Or.inl rfl) (Or.inl ⟨rfl, g, a, at2, ah2, sp3, f13, f23, lT_E h4 (lT_E (l_sign (show sgL (hr b n q) by omega)) e1), e2, e3, e4, rfl⟩)
      · refine And.intro (fun z => absurd z (by show ¬ ((_ : Int32) = _); decide)) (fun _ => ?_)
        refine call0 (c_X2_write e5) rfl rfl ?_
        rintro r h' ⟨v2, sp4, f14, f24, rfl, hs4, rfl⟩
        have hc := HC q2 sp4 f14 f24 (some (.inl (aV b n q))) (lT_T h4 (lT_T (l_sign (show sgL (hr b n q) by omega)) e1)) (by omega) e3 hs4
        rw [← nI_1 i] at hc
        exact hc
    refine And.intro (fun w => ?_) (fun w => ?_)
    · have w := (nI_leI (a := 240) (by omega) (by omega)).mp w
      omega
    have w : i < 240 := Nat.lt_of_not_le fun z => w ((nI_leI (a := 240) (by omega) (by omega)).mpr z)
    refine call0 (c_X6_ahead_L) rfl rfl ?_
    rintro r h' ⟨rfl, rfl⟩
    refine And.intro (fun (v : aV b n q = nI 42) => go (fun q2 sp3 f13 f23 z a1 a2 a3 a4 => ⟨240 - (i + 1), by omega, i + 1, q2, sp3, f13, f23, z, rfl, by omega, by omega, a3, a1, a4, rfl, rfl, rfl⟩) (by have v := (aV_eq hb' (by omega)).mp v; omega)) (fun (v0 : ¬ aV b n q = nI 42) => ?_)
    refine call0 (c_X6_ahead_L) rfl rfl ?_
    rintro r h' ⟨rfl, rfl⟩
    refine And.intro (fun (v : aV b n q = nI 47) => go (fun q2 sp3 f13 f23 z a1 a2 a3 a4 => ⟨240 - (i + 1), by omega, i + 1, q2, sp3, f13, f23, z, rfl, by omega, by omega, a3, a1, a4, rfl, rfl, rfl⟩) (by have v := (aV_eq hb' (by omega)).mp v; omega)) (fun (v1 : ¬ aV b n q = nI 47) => ?_)
    refine call0 (c_X6_ahead_L) rfl rfl ?_
    rintro r h' ⟨rfl, rfl⟩
    refine And.intro (fun (v : aV b n q = nI 37) => go (fun q2 sp3 f13 f23 z a1 a2 a3 a4 => ⟨240 - (i + 1), by omega, i + 1, q2, sp3, f13, f23, z, rfl, by omega, by omega, a3, a1, a4, rfl, rfl, rfl⟩) (by have v := (aV_eq hb' (by omega)).mp v; omega)) (fun (v2 : ¬ aV b n q = nI 37) => ?_)
    refine And.intro (Or.inr rfl) (Or.inr ⟨rfl, q, sp2, f12, f22, h4, by omega, h3, fun y => ?_, h5, rfl⟩)
    rcases y with y | y | y
    · exact v0 ((aV_eq hb' (by omega)).mpr y)
    · exact v1 ((aV_eq hb' (by omega)).mpr y)
    · exact v2 ((aV_eq hb' (by omega)).mpr y)
theorem RSu_of {l : Launch} {d n op : Nat} {b : Nat → Nat} (hn : n ≤ 240) (hF : RTm l d b n op) : RSu l (d + 1) b n op := by
  intro Txt K1 K2 K3 K4 f1 f2 ru wt rf fa sp k p m s hs hp hb hsp
  have hb' : ∀ i, i < n → b i ≤ 255 := fun i hi => (hb i hi).1
  refine m_X3_readSum d (Nat.zero_le _) (fun μ L st h => ∃ (i q : Nat) (sp2 : Int32) (f12 f22 : Nat → Int32) (z : Option PV), μ = 240 - i ∧ i ≤ 240 ∧ p + i < q ∧ q ≤ n ∧ lT b n (1, k, p, m, s) (2, k, q, m, s) ∧ sR sp2 ∧ ¬ (hr b n q = 42 ∨ hr b n q = 47 ∨ hr b n q = 37) ∧ L = [some (.inr (some (.inl 0))), some (.inl (nI op)), some (.inl (nI i)), z] ∧ st = [] ∧ h = lwH n Txt K1 K2 K3 K4 ru wt rf (nI q) (aV b n q) fa sp2 f12 f22) (Nat.le_of_ble_eq_true rfl) ?_ ?_
  · refine call0 (hF (Txt := Txt) (K1 := K1) (K2 := K2) (K3 := K3) (K4 := K4) (f1 := f1) (f2 := f2) (ru := ru) (wt := wt) (rf := rf) (fa := fa) (sp := sp) (k := k) (p := p) (m := m) (s := s) hs hp hb hsp) rfl rfl ?_
    rintro r h' (⟨rfl, g, a, at2, ah2, sp2, f12, f22, e1, e2, e3, e4, rfl⟩ | ⟨rfl, q, sp2, f12, f22, e1, e2, e3, e4, e5, rfl⟩)
    · refine And.intro (fun _ => ?_) (fun z => absurd rfl z)
      exact And.intro (Or.inl rfl) (Or.inl ⟨rfl, g, a, at2, ah2, sp2, f12, f22, e1, e2, e3, e4, rfl⟩)
    · refine And.intro (fun z => absurd z (by show ¬ ((_ : Int32) = _); decide)) (fun _ => ?_)
      exact ⟨_, 0, q, sp2, f12, f22, _, rfl, by omega, by omega, e3, e1, e5, e4, rfl, rfl, rfl⟩
  · rintro μ L st h ⟨i, q, sp2, f12, f22, z, hμ, h1, h2, h3, h4, h5, h6, rfl, rfl, rfl⟩
    have go : ∀ {C : Blk}, (∀ (q2 : Nat) (sp3 : Int32) (f13 f23 : Nat → Int32) (z : Option PV), lT b n (1, k, p, m, s) (2, k, q2, m, s) → q + 1 < q2 → q2 ≤ n → sR sp3 → ¬ (hr b n q2 = 42 ∨ hr b n q2 = 47 ∨ hr b n q2 = 37) → C [some (.inr (some (.inl 0))), some (.inl (nI op)), some (.inl (nI (i + 1))), z] [] (lwH n Txt K1 K2 K3 K4 ru wt rf (nI q2) (aV b n q2) fa sp3 f13 f23)) → (hr b n q = 43 ∨ hr b n q = 45) → b_X3_readSum_37 l d C (LPo b n (lwH n Txt K1 K2 K3 K4 ru wt rf) fa (1, k, p, m, s) (fun q => (2, k, q, m, s)) p (fun q => ¬ sgL (hr b n q))) [some (.inr (some (.inl 0))), some (.inl (nI op)), some (.inl (nI i)), z] [] (lwH n Txt K1 K2 K3 K4 ru wt rf (nI q) (aV b n q) fa sp2 f12 f22) := by
      intro C HC sg
      have ql : q < n := hr_lt2 (b := b) (by omega)
      refine call0 (c_X6_ahead_L) rfl rfl ?_
      rintro r h' ⟨rfl, rfl⟩
      refine call0 (c_X6_skip_L (n := n) (q := q + 1) (b := b) hn (by omega) (nI_1 q) hb) rfl rfl ?_
      rintro r h' ⟨rfl, rfl⟩
      refine call0 (hF (Txt := Txt) (K1 := K1) (K2 := K2) (K3 := K3) (K4 := K4) (f1 := f12) (f2 := f22) (ru := ru) (wt := wt) (rf := rf) (fa := fa) (sp := sp2) (k := k) (p := q + 1) (m := m) (s := s) hs (by omega) hb h5) rfl rfl ?_
      rintro r h' (⟨rfl, g, a, at2, ah2, sp3, f13, f23, e1, e2, e3, e4, rfl⟩ | ⟨rfl, q2, sp3, f13, f23, e1, e2, e3, e4, e5, rfl⟩)
      · refine And.intro (fun _ => ?_) (fun z => absurd rfl z)
        exact And.intro (Or.inl rfl) (Or.inl ⟨rfl, g, a, at2, ah2, sp3, f13, f23, lT_E h4 (lT_E (l_sign (show sgL (hr b n q) by omega)) e1), e2, e3, e4, rfl⟩)
      · refine And.intro (fun z => absurd z (by show ¬ ((_ : Int32) = _); decide)) (fun _ => ?_)
        refine call0 (c_X2_write e5) rfl rfl ?_
        rintro r h' ⟨v2, sp4, f14, f24, rfl, hs4, rfl⟩
        have hc := HC q2 sp4 f14 f24 (some (.inl (aV b n q))) (lT_T h4 (lT_T (l_sign (show sgL (hr b n q) by omega)) e1)) (by omega) e3 hs4 e4
        rw [← nI_1 i] at hc
        exact hc
    refine And.intro (fun w => ?_) (fun w => ?_)
    · have w := (nI_leI (a := 240) (by omega) (by omega)).mp w
      omega
    have w : i < 240 := Nat.lt_of_not_le fun z => w ((nI_leI (a := 240) (by omega) (by omega)).mpr z)
    refine call0 (c_X6_ahead_L) rfl rfl ?_
    rintro r h' ⟨rfl, rfl⟩
    refine And.intro (fun (v : aV b n q = nI 43) => go (fun q2 sp3 f13 f23 z a1 a2 a3 a4 a5 => ⟨240 - (i + 1), by omega, i + 1, q2, sp3, f13, f23, z, rfl, by omega, by omega, a3, a1, a4, a5, rfl, rfl, rfl⟩) (by have v := (aV_eq hb' (by omega)).mp v; omega)) (fun (v0 : ¬ aV b n q = nI 43) => ?_)
    refine call0 (c_X6_ahead_L) rfl rfl ?_
    rintro r h' ⟨rfl, rfl⟩
    refine And.intro (fun (v : aV b n q = nI 45) => go (fun q2 sp3 f13 f23 z a1 a2 a3 a4 a5 => ⟨240 - (i + 1), by omega, i + 1, q2, sp3, f13, f23, z, rfl, by omega, by omega, a3, a1, a4, a5, rfl, rfl, rfl⟩) (by have v := (aV_eq hb' (by omega)).mp v; omega)) (fun (v1 : ¬ aV b n q = nI 45) => ?_)
    refine And.intro (Or.inr rfl) (Or.inr ⟨rfl, q, sp2, f12, f22, h4, by omega, h3, fun y => ?_, h5, rfl⟩)
    rcases y with y | y | y | y | y
    · exact v0 ((aV_eq hb' (by omega)).mpr y)
    · exact v1 ((aV_eq hb' (by omega)).mpr y)
    · exact h6 (Or.inl y)
    · exact h6 (Or.inr (Or.inl y))
    · exact h6 (Or.inr (Or.inr y))
theorem RAl_of {l : Launch} {d n op : Nat} {b : Nat → Nat} (hd : 1 ≤ d) (hn : n ≤ 240) (hF : RTe l d b n op) : RAl l (d + 1) b n op := by
  intro Txt K1 K2 K3 K4 f1 f2 ru wt rf fa sp p m s hs h1s hp hb hsp
  have hb' : ∀ i, i < n → b i ≤ 255 := fun i hi => (hb i hi).1
  refine m_X3_readAll d hd (fun μ L st h => ∃ (i q : Nat) (sp2 : Int32) (f12 f22 : Nat → Int32) (z : Option PV), μ = 240 - i ∧ i ≤ 240 ∧ p + i < q ∧ q ≤ n ∧ lT b n (4, 0, p, m, s) (6, 0, q, m, s) ∧ sR sp2 ∧ L = [some (.inr (some (.inl 0))), some (.inl (nI op)), some (.inl (nI i)), z] ∧ st = [] ∧ h = lwH n Txt K1 K2 K3 K4 ru wt rf (nI q) (aV b n q) fa sp2 f12 f22) (Nat.le_of_ble_eq_true rfl) ?_ ?_
  · refine call0 (hF (Txt := Txt) (K1 := K1) (K2 := K2) (K3 := K3) (K4 := K4) (f1 := f1) (f2 := f2) (ru := ru) (wt := wt) (rf := rf) (fa := fa) (sp := sp) (p := p) (m := m) (s := s) hs (fun r z => by obtain ⟨r0, rfl⟩ := h1s; cases z) (fun z => by obtain ⟨r0, rfl⟩ := h1s; cases z) hp hb hsp) rfl rfl ?_
    rintro r h' (⟨rfl, g, a, at2, ah2, sp2, f12, f22, e1, e2, e3, e4, rfl⟩ | ⟨rfl, q, sp2, f12, f22, e1, e2, e3, e4, e5, rfl⟩)
    · refine And.intro (fun _ => ?_) (fun z => absurd rfl z)
      exact And.intro (Or.inl rfl) (Or.inl ⟨rfl, g, a, at2, ah2, sp2, f12, f22, e1, e2, e3, e4, rfl⟩)
    · refine And.intro (fun z => absurd z (by show ¬ ((_ : Int32) = _); decide)) (fun _ => ?_)
      exact ⟨_, 0, q, sp2, f12, f22, _, rfl, by omega, by omega, e3, (lT_T e1 (by obtain ⟨r0, rfl⟩ := h1s; exact l_turned)), e5, rfl, rfl, rfl⟩
  · rintro μ L st h ⟨i, q, sp2, f12, f22, z, hμ, h1, h2, h3, h4, h5, rfl, rfl, rfl⟩
    refine And.intro (fun w => ?_) (fun w => ?_)
    · have w := (nI_leI (a := 240) (by omega) (by omega)).mp w
      omega
    have w : i < 240 := Nat.lt_of_not_le fun z => w ((nI_leI (a := 240) (by omega) (by omega)).mpr z)
    refine call0 (c_X6_ahead_L) rfl rfl ?_
    rintro r h' ⟨rfl, rfl⟩
    refine And.intro (fun (v : aV b n q = nI 38) => ?_) (fun (v0 : ¬ aV b n q = nI 38) => ?_)
    · have sg := (aV_eq hb' (by omega)).mp v
      have ql : q < n := hr_lt sg (by omega)
      have sg : hr b n q = 38 ∨ hr b n q = 124 := by omega
      refine call0 (c_X6_skip_L (n := n) (q := q + 1) (b := b) hn (by omega) (nI_1 q) hb) rfl rfl ?_
      rintro r h' ⟨rfl, rfl⟩
      refine call0 (c_X2_write h5) rfl rfl ?_
      rintro r h' ⟨v2, sp5, f15, f25, rfl, hs5, rfl⟩
      refine call0 (hF (Txt := Txt) (K1 := K1) (K2 := K2) (K3 := K3) (K4 := K4) (f1 := f15) (f2 := f25) (ru := ru) (wt := wt) (rf := rf) (fa := fa) (sp := sp5) (p := q + 1) (m := m) (s := s) hs (fun r z => by obtain ⟨r0, rfl⟩ := h1s; cases z) (fun z => by obtain ⟨r0, rfl⟩ := h1s; cases z) (by omega) hb hs5) rfl rfl ?_
      rintro r h' (⟨rfl, g, a, at2, ah2, sp3, f13, f23, e1, e2, e3, e4, rfl⟩ | ⟨rfl, q2, sp3, f13, f23, e1, e2, e3, e4, e5, rfl⟩)
      · refine And.intro (fun _ => ?_) (fun z => absurd rfl z)
        exact And.intro (Or.inl rfl) (Or.inl ⟨rfl, g, a, at2, ah2, sp3, f13, f23, lT_E h4 (lT_E (l_more sg) e1), e2, e3, e4, rfl⟩)
      · refine And.intro (fun z => absurd z (by show ¬ ((_ : Int32) = _); decide)) (fun _ => ?_)
        refine call0 c_X2_landHere rfl rfl ?_
        rintro r h' ⟨f26, rfl, rfl⟩
        exact ⟨240 - (i + 1), by omega, i + 1, q2, sp3, f13, f26, _, rfl, by omega, by omega, e3, lT_T h4 (lT_T (l_more sg) (lT_T e1 (by obtain ⟨r0, rfl⟩ := h1s; exact l_turned))), e5, by rw [← nI_1 i] <;> rfl, rfl, rfl⟩
    refine And.intro (Or.inr rfl) (Or.inr ⟨rfl, q, sp2, f12, f22, h4, by omega, h3, fun y => ?_, h5, rfl⟩)
    exact v0 ((aV_eq hb' (by omega)).mpr y)
theorem RAn_of {l : Launch} {d n op : Nat} {b : Nat → Nat} (hd : 1 ≤ d) (hn : n ≤ 240) (hF : RAl l d b n op) : RAn l (d + 1) b n op := by
  intro Txt K1 K2 K3 K4 f1 f2 ru wt rf fa sp p m s hs h1s hp hb hsp
  have hb' : ∀ i, i < n → b i ≤ 255 := fun i hi => (hb i hi).1
  refine m_X3_readAny d hd (fun μ L st h => ∃ (i q : Nat) (sp2 : Int32) (f12 f22 : Nat → Int32) (z : Option PV), μ = 240 - i ∧ i ≤ 240 ∧ p + i < q ∧ q ≤ n ∧ lT b n (4, 0, p, m, s) (6, 0, q, m, s) ∧ sR sp2 ∧ ¬ hr b n q = 38 ∧ L = [some (.inr (some (.inl 0))), some (.inl (nI op)), some (.inl (nI i)), z] ∧ st = [] ∧ h = lwH n Txt K1 K2 K3 K4 ru wt rf (nI q) (aV b n q) fa sp2 f12 f22) (Nat.le_of_ble_eq_true rfl) ?_ ?_
  · refine call0 (hF (Txt := Txt) (K1 := K1) (K2 := K2) (K3 := K3) (K4 := K4) (f1 := f1) (f2 := f2) (ru := ru) (wt := wt) (rf := rf) (fa := fa) (sp := sp) (p := p) (m := m) (s := s) hs h1s hp hb hsp) rfl rfl ?_
    rintro r h' (⟨rfl, g, a, at2, ah2, sp2, f12, f22, e1, e2, e3, e4, rfl⟩ | ⟨rfl, q, sp2, f12, f22, e1, e2, e3, e4, e5, rfl⟩)
    · refine And.intro (fun _ => ?_) (fun z => absurd rfl z)
      exact And.intro (Or.inl rfl) (Or.inl ⟨rfl, g, a, at2, ah2, sp2, f12, f22, e1, e2, e3, e4, rfl⟩)
    · refine And.intro (fun z => absurd z (by show ¬ ((_ : Int32) = _); decide)) (fun _ => ?_)
      exact ⟨_, 0, q, sp2, f12, f22, _, rfl, by omega, by omega, e3, e1, e5, e4, rfl, rfl, rfl⟩
  · rintro μ L st h ⟨i, q, sp2, f12, f22, z, hμ, h1, h2, h3, h4, h5, h6, rfl, rfl, rfl⟩
    refine And.intro (fun w => ?_) (fun w => ?_)
    · have w := (nI_leI (a := 240) (by omega) (by omega)).mp w
      omega
    have w : i < 240 := Nat.lt_of_not_le fun z => w ((nI_leI (a := 240) (by omega) (by omega)).mpr z)
    refine call0 (c_X6_ahead_L) rfl rfl ?_
    rintro r h' ⟨rfl, rfl⟩
    refine And.intro (fun (v : aV b n q = nI 124) => ?_) (fun (v0 : ¬ aV b n q = nI 124) => ?_)
    · have sg := (aV_eq hb' (by omega)).mp v
      have ql : q < n := hr_lt sg (by omega)
      have sg : hr b n q = 38 ∨ hr b n q = 124 := by omega
      refine call0 (c_X6_skip_L (n := n) (q := q + 1) (b := b) hn (by omega) (nI_1 q) hb) rfl rfl ?_
      rintro r h' ⟨rfl, rfl⟩
      refine call0 (c_X2_write h5) rfl rfl ?_
      rintro r h' ⟨v2, sp5, f15, f25, rfl, hs5, rfl⟩
      refine call0 (hF (Txt := Txt) (K1 := K1) (K2 := K2) (K3 := K3) (K4 := K4) (f1 := f15) (f2 := f25) (ru := ru) (wt := wt) (rf := rf) (fa := fa) (sp := sp5) (p := q + 1) (m := m) (s := s) hs h1s (by omega) hb hs5) rfl rfl ?_
      rintro r h' (⟨rfl, g, a, at2, ah2, sp3, f13, f23, e1, e2, e3, e4, rfl⟩ | ⟨rfl, q2, sp3, f13, f23, e1, e2, e3, e4, e5, rfl⟩)
      · refine And.intro (fun _ => ?_) (fun z => absurd rfl z)
        exact And.intro (Or.inl rfl) (Or.inl ⟨rfl, g, a, at2, ah2, sp3, f13, f23, lT_E h4 (lT_E (l_more sg) e1), e2, e3, e4, rfl⟩)
      · refine And.intro (fun z => absurd z (by show ¬ ((_ : Int32) = _); decide)) (fun _ => ?_)
        refine call0 c_X2_landHere rfl rfl ?_
        rintro r h' ⟨f26, rfl, rfl⟩
        exact ⟨240 - (i + 1), by omega, i + 1, q2, sp3, f13, f26, _, rfl, by omega, by omega, e3, lT_T h4 (lT_T (l_more sg) e1), e5, e4, by rw [← nI_1 i] <;> rfl, rfl, rfl⟩
    refine And.intro (Or.inr rfl) (Or.inr ⟨rfl, q, sp2, f12, f22, h4, by omega, h3, fun y => ?_, h5, rfl⟩)
    rcases y with y | y
    · exact h6 y
    · exact v0 ((aV_eq hb' (by omega)).mpr y)
theorem RCo_of {l : Launch} {d n op : Nat} {b : Nat → Nat} (hn : n ≤ 240) (hS : RSu l d b n op) : RCo l (d + 1) b n op := by
  intro Txt K1 K2 K3 K4 f1 f2 ru wt rf fa sp p m s hs h0 hp hb hsp
  have hb' : ∀ i, i < n → b i ≤ 255 := fun i hi => (hb i hi).1
  refine m_X3_readComparison d (Nat.zero_le _) (Nat.le_of_ble_eq_true rfl) ?_
  refine call0 (hS (Txt := Txt) (K1 := K1) (K2 := K2) (K3 := K3) (K4 := K4) (f1 := f1) (f2 := f2) (ru := ru) (wt := wt) (rf := rf) (fa := fa) (sp := sp) (k := 1) (p := p) (m := m) (s := s) hs hp hb hsp) rfl rfl ?_
  rintro r h' (⟨rfl, g, a, at2, ah2, sp2, f12, f22, e1, e2, e3, e4, rfl⟩ | ⟨rfl, q, sp2, f12, f22, e1, e2, e3, e4, e5, rfl⟩)
  · refine And.intro (fun _ => ?_) (fun z => absurd rfl z)
    exact And.intro (Or.inl rfl) (Or.inl ⟨rfl, g, a, at2, ah2, sp2, f12, f22, e1, e2, e3, e4, rfl⟩)
  refine And.intro (fun z => absurd z (by show ¬ ((_ : Int32) = _); decide)) (fun _ => ?_)
  refine call0 (c_X6_ahead_L) rfl rfl ?_
  rintro r h' ⟨rfl, rfl⟩
  have go : ∀ {V : Int32}, (hr b n q = 60 ∨ hr b n q = 62 ∨ hr b n q = 61) → b_X3_readComparison_43 l d (LPo b n (lwH n Txt K1 K2 K3 K4 ru wt rf) fa (1, 1, p, m, s) (fun q => (5, 0, q, m, s)) p (fun q => True)) [some (.inr (some (.inl 0))), some (.inl (nI op)), some (.inl V)] [] (lwH n Txt K1 K2 K3 K4 ru wt rf (nI q) (aV b n q) fa sp2 f12 f22) := by
    intro V sg
    have ql : q < n := hr_lt2 (b := b) (by omega)
    refine call0 (c_X6_skip_L (n := n) (q := q + 1) (b := b) hn (by omega) (nI_1 q) hb) rfl rfl ?_
    rintro r h' ⟨rfl, rfl⟩
    refine call0 (hS (Txt := Txt) (K1 := K1) (K2 := K2) (K3 := K3) (K4 := K4) (f1 := f12) (f2 := f22) (ru := ru) (wt := wt) (rf := rf) (fa := fa) (sp := sp2) (k := 2) (p := q + 1) (m := m) (s := s) hs (by omega) hb e5) rfl rfl ?_
    rintro r h' (⟨rfl, g, a, at2, ah2, sp3, f13, f23, g1, g2, g3, g4, rfl⟩ | ⟨rfl, q2, sp3, f13, f23, g1, g2, g3, g4, g5, rfl⟩)
    · refine And.intro (fun _ => ?_) (fun z => absurd rfl z)
      exact And.intro (Or.inl rfl) (Or.inl ⟨rfl, g, a, at2, ah2, sp3, f13, f23, lT_E e1 (lT_E (l_comp h0 sg) g1), g2, g3, g4, rfl⟩)
    · refine And.intro (fun z => absurd z (by show ¬ ((_ : Int32) = _); decide)) (fun _ => ?_)
      refine call0 (c_X2_write g5) rfl rfl ?_
      rintro r h' ⟨v2, sp4, f14, f24, rfl, hs4, rfl⟩
      exact And.intro (Or.inr rfl) (Or.inr ⟨rfl, q2, sp4, f14, f24, lT_T e1 (lT_T (l_comp h0 sg) (lT_T g1 (l_piece h0 g4))), by omega, g3, trivial, hs4, rfl⟩)
  refine And.intro (fun (v : aV b n q = nI 60) => go (Or.inl ((aV_eq hb' (by omega)).mp v))) (fun (v0 : ¬ aV b n q = nI 60) => ?_)
  refine And.intro (fun (v : aV b n q = nI 62) => go (Or.inr (Or.inl ((aV_eq hb' (by omega)).mp v)))) (fun (v1 : ¬ aV b n q = nI 62) => ?_)
  refine And.intro (fun (v : aV b n q = nI 61) => go (Or.inr (Or.inr ((aV_eq hb' (by omega)).mp v)))) (fun (v2 : ¬ aV b n q = nI 61) => ?_)
  refine call0 (c_X6_at_L) rfl rfl ?_
  rintro r h' ⟨rfl, rfl⟩
  refine call0 (c_X6_fails_L) rfl rfl ?_
  rintro r h' ⟨rfl, rfl⟩
  refine And.intro (Or.inl rfl) (Or.inl ⟨rfl, 1, q, _, _, sp2, f12, f22, lT_E e1 (l_ncomp h0 e4 (fun y => ?_)), by omega, e3, e5, rfl⟩)
  rcases y with y | y | y
  · exact v0 ((aV_eq hb' (by omega)).mpr y)
  · exact v1 ((aV_eq hb' (by omega)).mpr y)
  · exact v2 ((aV_eq hb' (by omega)).mpr y)
theorem RTe_of {l : Launch} {d n op : Nat} {b : Nat → Nat} (hd : 1 ≤ d) (hn : n ≤ 240) (ho : op ≤ 6) (hC : RCo l d b n op) (hT : op < 6 → RTe l d b n (op + 1)) (hA : op < 6 → RAn l d b n (op + 1)) : RTe l (d + 1) b n op := by
  intro Txt K1 K2 K3 K4 f1 f2 ru wt rf fa sp p m s hs h0 hne hp hb hsp
  have hb' : ∀ i, i < n → b i ≤ 255 := fun i hi => (hb i hi).1
  refine m_X3_readTest d hd (Nat.le_of_ble_eq_true rfl) ?_
  refine call0 (c_X6_ahead_L) rfl rfl ?_
  rintro r h' ⟨rfl, rfl⟩
  have go : ∀ {h : Nat} {V : Int32}, V = nI h → hr b n p = h → (h = 33 ∨ h = 40) → b_X3_readTest_23 l d (LPo b n (lwH n Txt K1 K2 K3 K4 ru wt rf) fa (4, 0, p, m, s) (fun q => (5, 0, q, m, s)) p (fun q => True)) [some (.inr (some (.inl 0))), some (.inl (nI op)), some (.inl V)] [] (lwH n Txt K1 K2 K3 K4 ru wt rf (nI p) (aV b n p) fa sp f1 f2) := by
    intro h V eV eh sg
    subst eV
    have pl : p < n := hr_lt2 (b := b) (by omega)
    by_cases o6 : op < 6
    · refine And.intro (fun _ => ?_) (fun z => absurd ((nI_ltI (b := 6) (by omega) (by omega)).mpr o6) z)
      refine call0 (c_X6_skip_L (n := n) (q := p + 1) (b := b) hn (by omega) (nI_1 p) hb) rfl rfl ?_
      rintro r h' ⟨rfl, rfl⟩
      by_cases h40 : h = 40
      · subst h40
        refine And.intro (fun _ => ?_) (fun z => absurd rfl z)
        have so := l_paren (m := m) (s := s) eh (by omega)
        have ht := hA o6 (Txt := Txt) (K1 := K1) (K2 := K2) (K3 := K3) (K4 := K4) (f1 := f1) (f2 := f2) (ru := ru) (wt := wt) (rf := rf) (fa := fa) (sp := sp) (p := p + 1) (m := m) (s := 1 :: s) (by show s.length + 1 = op + 1; omega) ⟨s, rfl⟩ (by omega) hb hsp
        rw [← nI_1 op] at ht
        refine call0 ht rfl rfl ?_
        rintro r h' (⟨rfl, g, a, at2, ah2, sp2, f12, f22, e1, e2, e3, e4, rfl⟩ | ⟨rfl, q, sp2, f12, f22, e1, e2, e3, e4, e5, rfl⟩)
        · refine And.intro (fun _ => ?_) (fun z => absurd rfl z)
          exact And.intro (Or.inl rfl) (Or.inl ⟨rfl, g, a, at2, ah2, sp2, f12, f22, lT_E so e1, e2, e3, e4, rfl⟩)
        · refine And.intro (fun z => absurd z (by show ¬ ((_ : Int32) = _); decide)) (fun _ => ?_)
          refine call0 (c_X6_reads_L (b := b) (n := n) (p := q) (k := 41) hn e3 (by omega) hb) rfl rfl ?_
          rintro r h' (⟨v, rfl, rfl⟩ | ⟨v, rfl, rfl⟩)
          · have ql := hr_lt v (by omega)
            refine And.intro (fun z => absurd z (by show ¬ ((_ : Int32) = _); decide)) (fun _ => ?_)
            obtain ⟨y, s', rfl⟩ : ∃ y s', s = y :: s' := by
              cases s with
              | nil => exact absurd rfl hne
              | cons y s' => exact ⟨y, s', rfl⟩
            exact And.intro (Or.inr rfl) (Or.inr ⟨rfl, q + 1, sp2, f12, f22, lT_T so (lT_T e1 (l_close v)), by omega, by omega, trivial, e5, rfl⟩)
          · refine And.intro (fun _ => ?_) (fun z => absurd rfl z)
            exact And.intro (Or.inl rfl) (Or.inl ⟨rfl, 1, q, _, _, sp2, f12, f22, lT_E so (lT_E e1 (l_nmore e4 v)), by omega, e3, e5, rfl⟩)
      · have h33 : h = 33 := sg.resolve_right h40
        subst h33
        refine And.intro (fun z => absurd z (by show ¬ ((_ : Int32) = _); decide)) (fun _ => ?_)
        have so := l_not (m := m) (s := s) eh (by omega)
        have ht := hT o6 (Txt := Txt) (K1 := K1) (K2 := K2) (K3 := K3) (K4 := K4) (f1 := f1) (f2 := f2) (ru := ru) (wt := wt) (rf := rf) (fa := fa) (sp := sp) (p := p + 1) (m := m) (s := 2 :: s) (by show s.length + 1 = op + 1; omega) (fun r z => by cases z) (fun z => by cases z) (by omega) hb hsp
        rw [← nI_1 op] at ht
        refine call0 ht rfl rfl ?_
        rintro r h' (⟨rfl, g, a, at2, ah2, sp2, f12, f22, e1, e2, e3, e4, rfl⟩ | ⟨rfl, q, sp2, f12, f22, e1, e2, e3, e4, e5, rfl⟩)
        · refine And.intro (fun _ => ?_) (fun z => absurd rfl z)
          exact And.intro (Or.inl rfl) (Or.inl ⟨rfl, g, a, at2, ah2, sp2, f12, f22, lT_E so e1, e2, e3, e4, rfl⟩)
        · refine And.intro (fun z => absurd z (by show ¬ ((_ : Int32) = _); decide)) (fun _ => ?_)
          refine call0 (c_X2_write e5) rfl rfl ?_
          rintro r h' ⟨v2, sp4, f14, f24, rfl, hs4, rfl⟩
          exact And.intro (Or.inr rfl) (Or.inr ⟨rfl, q, sp4, f14, f24, lT_T so (lT_T e1 l_turn), by omega, e3, trivial, hs4, rfl⟩)
    · refine And.intro (fun z => absurd ((nI_ltI (b := 6) (by omega) (by omega)).mp z) o6) (fun _ => ?_)
      refine call0 (c_X6_at_L) rfl rfl ?_
      rintro r h' ⟨rfl, rfl⟩
      refine call0 (c_X6_fails_L) rfl rfl ?_
      rintro r h' ⟨rfl, rfl⟩
      exact And.intro (Or.inl rfl) (Or.inl ⟨rfl, 5, p, _, _, sp, f1, f2, l_tdeep (by omega) (by omega), by omega, hp, hsp, rfl⟩)
  refine And.intro (fun (v : aV b n p = nI 33) => go v ((aV_eq hb' (by omega)).mp v) (Or.inl rfl)) (fun (v0 : ¬ aV b n p = nI 33) => ?_)
  refine And.intro (fun (v : aV b n p = nI 40) => go v ((aV_eq hb' (by omega)).mp v) (Or.inr rfl)) (fun (v1 : ¬ aV b n p = nI 40) => ?_)
  have nt : ¬ (hr b n p = 33 ∨ hr b n p = 40) := fun y => by
    rcases y with y | y
    · exact v0 ((aV_eq hb' (by omega)).mpr y)
    · exact v1 ((aV_eq hb' (by omega)).mpr y)
  refine call0 (hC (Txt := Txt) (K1 := K1) (K2 := K2) (K3 := K3) (K4 := K4) (f1 := f1) (f2 := f2) (ru := ru) (wt := wt) (rf := rf) (fa := fa) (sp := sp) (p := p) (m := m) (s := s) hs h0 hp hb hsp) rfl rfl ?_
  rintro r h' (⟨rfl, g, a, at2, ah2, sp2, f12, f22, e1, e2, e3, e4, rfl⟩ | ⟨rfl, q, sp2, f12, f22, e1, e2, e3, e4, e5, rfl⟩)
  · exact And.intro (Or.inl rfl) (Or.inl ⟨rfl, g, a, at2, ah2, sp2, f12, f22, lT_E (l_test nt) e1, e2, e3, e4, rfl⟩)
  · exact And.intro (Or.inr rfl) (Or.inr ⟨rfl, q, sp2, f12, f22, lT_T (l_test nt) e1, e2, e3, trivial, e5, rfl⟩)
theorem RSu_all {l : Launch} {n : Nat} {b : Nat → Nat} (hn : n ≤ 240) : ∀ j, j ≤ 6 → ∀ d, 20 + 3 * j ≤ d → RSu l d b n (6 - j)
  | 0, _, d, hd => by
    obtain ⟨e, rfl⟩ : ∃ e, d = e + 1 + 1 + 1 := ⟨d - 3, by omega⟩
    exact RSu_of hn (RTm_of hn (RFa_of (by omega) hn (by omega) (fun z => absurd z (by omega))))
  | j + 1, hj, d, hd => by
    obtain ⟨e, rfl⟩ : ∃ e, d = e + 1 + 1 + 1 := ⟨d - 3, by omega⟩
    refine RSu_of hn (RTm_of hn (RFa_of (by omega) hn (by omega) (fun _ => ?_)))
    rw [show 6 - (j + 1) + 1 = 6 - j by omega]
    exact RSu_all hn j (by omega) e (by omega)
theorem RTe_all {l : Launch} {n : Nat} {b : Nat → Nat} (hn : n ≤ 240) : ∀ j, j ≤ 6 → ∀ d, 50 + 3 * j ≤ d → RTe l d b n (6 - j)
  | 0, _, d, hd => by
    obtain ⟨e, rfl⟩ : ∃ e, d = e + 1 + 1 := ⟨d - 2, by omega⟩
    exact RTe_of (by omega) hn (by omega) (RCo_of hn (RSu_all hn 0 (by omega) e (by omega))) (fun z => absurd z (by omega)) (fun z => absurd z (by omega))
  | j + 1, hj, d, hd => by
    obtain ⟨e, rfl⟩ : ∃ e, d = e + 1 + 1 + 1 := ⟨d - 3, by omega⟩
    refine RTe_of (by omega) hn (by omega) (RCo_of hn (RSu_all hn (j + 1) (by omega) (e + 1) (by omega))) (fun _ => ?_) (fun _ => ?_)
    · rw [show 6 - (j + 1) + 1 = 6 - j by omega]
      exact RTe_all hn j (by omega) (e + 1 + 1) (by omega)
    · rw [show 6 - (j + 1) + 1 = 6 - j by omega]
      exact RAn_of (by omega) hn (RAl_of (by omega) hn (RTe_all hn j (by omega) e (by omega)))

