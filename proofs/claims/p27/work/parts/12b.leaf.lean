theorem c_within {l : Launch} {v lo hi : Int32} : MetP l 0 yX11_within cX11_within 3 (some .boolean) 0 0 [.inl v, .inl lo, .inl hi] [] (fun r h' => r = some (.inl (bI (lo ≤ v ∧ v ≤ hi))) ∧ h' = []) := by
  refine m_X11_within (Nat.le_of_ble_eq_true rfl) ?_
  refine And.intro (fun (h1 : v < lo) => ?_) (fun (h1 : ¬ v < lo) => ?_)
  · exact And.intro (Or.inl rfl) (by rw [bI_f (fun z => absurd h1 (Int32.not_lt.mpr z.1))]; exact ⟨rfl, rfl⟩)
  · refine And.intro (fun (h2 : hi < v) => ?_) (fun (h2 : ¬ hi < v) => ?_)
    · exact And.intro (Or.inl rfl) (by rw [bI_f (fun z => absurd h2 (Int32.not_lt.mpr z.2))]; exact ⟨rfl, rfl⟩)
    · exact And.intro (Or.inr rfl) (by rw [bI_t ⟨Int32.not_lt.mp h1, Int32.not_lt.mp h2⟩]; exact ⟨rfl, rfl⟩)
theorem c_isPlace {l : Launch} {v : Int32} : MetP l 1 yX11_isPlace cX11_isPlace 1 (some .boolean) 0 0 [.inl v] [] (fun r h' => r = some (.inl (bI (0 ≤ v ∧ v ≤ 383))) ∧ h' = []) := by
  refine m_X11_isPlace (Nat.le_of_ble_eq_true rfl) ?_
  refine call0 c_within rfl rfl ?_
  rintro r h' ⟨rfl, rfl⟩
  exact And.intro bI_01 ⟨rfl, rfl⟩
theorem c_canGive {l : Launch} {tb : Nat → Int32} {tn n lo hi : Int32} : MetP l 1 yX10_canGive cX10_canGive 4 (some .boolean) 0 0 [.inr (some (.inl 0)), .inl n, .inl lo, .inl hi] [.inr (9, [.inr (some (.inl 1)), .inl tn]), .inl (0, 260, tb)] (fun r h' => r = some (.inl (bI ((lo ≤ n ∧ n ≤ hi) ∧ n ≤ tn))) ∧ h' = [.inr (9, [.inr (some (.inl 1)), .inl tn]), .inl (0, 260, tb)]) := by
  refine m_X10_canGive (Nat.le_of_ble_eq_true rfl) ?_
  refine call0 c_within rfl rfl ?_
  rintro r h' ⟨rfl, rfl⟩
  refine br_b (fun h1 => ?_) (fun h1 => ?_)
  · exact And.intro (Or.inl rfl) (by rw [bI_f (fun z => h1 z.1)]; exact ⟨rfl, rfl⟩)
  · refine And.intro (fun (h2 : tn < n) => ?_) (fun (h2 : ¬ tn < n) => ?_)
    · exact And.intro (Or.inl rfl) (by rw [bI_f (fun z => absurd h2 (Int32.not_lt.mpr z.2))]; exact ⟨rfl, rfl⟩)
    · exact And.intro (Or.inr rfl) (by rw [bI_t ⟨h1, Int32.not_lt.mp h2⟩]; exact ⟨rfl, rfl⟩)
