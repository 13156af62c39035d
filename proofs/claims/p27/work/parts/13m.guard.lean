set_option maxRecDepth 100000 in
theorem c_in {l : Launch} {v lo hi : Int32} : MetP l 0 yX12_in cX12_in 3 (some .boolean) 0 0 [.inl v, .inl lo, .inl hi] [] (fun r h' => r = some (.inl (bI (lo ≤ v ∧ v ≤ hi))) ∧ h' = []) := by
  refine m_X12_in (Nat.le_of_ble_eq_true rfl) ?_
  refine And.intro (fun (h1 : v < lo) => ?_) (fun (h1 : ¬ v < lo) => ?_)
  · exact And.intro (Or.inl rfl) (by rw [bI_f (fun z => absurd h1 (Int32.not_lt.mpr z.1))]; exact ⟨rfl, rfl⟩)
  · refine And.intro (fun (h2 : hi < v) => ?_) (fun (h2 : ¬ hi < v) => ?_)
    · exact And.intro (Or.inl rfl) (by rw [bI_f (fun z => absurd h2 (Int32.not_lt.mpr z.2))]; exact ⟨rfl, rfl⟩)
    · exact And.intro (Or.inr rfl) (by rw [bI_t ⟨Int32.not_lt.mp h1, Int32.not_lt.mp h2⟩]; exact ⟨rfl, rfl⟩)
theorem c_misPlace {l : Launch} {v : Int32} : MetP l 1 yX12_isPlace cX12_isPlace 1 (some .boolean) 0 0 [.inl v] [] (fun r h' => r = some (.inl (bI (0 ≤ v ∧ v ≤ 383))) ∧ h' = []) := by
  refine m_X12_isPlace (Nat.le_of_ble_eq_true rfl) ?_
  refine call0 c_in rfl rfl ?_
  rintro r h' ⟨rfl, rfl⟩
  exact And.intro bI_01 ⟨rfl, rfl⟩
theorem gd_in {l : Launch} (lo hi : Int) : gconOk (MetP l 0 yX12_in cX12_in 3 (some .boolean) 0 0) ([topA, .inl (lo, 2147483647), .inl (-2147483648, hi)], [], some (0, 1), []) 0 lo hi := by
  intro τ hΦ as h ha hh
  obtain ⟨a, as, rfl, hva, ha⟩ := all2_cons ha
  obtain ⟨b, as, rfl, hvb, ha⟩ := all2_cons ha
  obtain ⟨c, as, rfl, hvc, ha⟩ := all2_cons ha
  cases as with
  | cons _ _ => exact ha.elim
  | nil =>
    cases h with
    | cons _ _ => exact hh.elim
    | nil =>
      obtain ⟨x, rfl, hx⟩ := hva
      obtain ⟨y, rfl, hy⟩ := hvb
      obtain ⟨z, rfl, hz⟩ := hvc
      refine c_in.mono (fun r h' hp => ?_)
      obtain ⟨rfl, rfl⟩ := hp
      refine ⟨⟨_, rfl, w2⟩, trivial, fun x' v e hn ev => ?_⟩
      cases e
      cases ev
      have hp : y ≤ x ∧ x ≤ z := Classical.byContradiction fun q => hn (bI_f q)
      have q1 := Int32.le_iff_toInt_le.mp hp.1
      have q2 := Int32.le_iff_toInt_le.mp hp.2
      exact ⟨by omega, by omega⟩
theorem gd_misPlace {l : Launch} : gconOk (MetP l 1 yX12_isPlace cX12_isPlace 1 (some .boolean) 0 0) ([topA], [], some (0, 1), []) 0 0 383 := by
  intro τ hΦ as h ha hh
  obtain ⟨a, as, rfl, hva, ha⟩ := all2_cons ha
  cases as with
  | cons _ _ => exact ha.elim
  | nil =>
    cases h with
    | cons _ _ => exact hh.elim
    | nil =>
      obtain ⟨x, rfl, hx⟩ := hva
      refine c_misPlace.mono (fun r h' hp => ?_)
      obtain ⟨rfl, rfl⟩ := hp
      refine ⟨⟨_, rfl, w2⟩, trivial, fun x' v e hn ev => ?_⟩
      cases e
      cases ev
      have hp : 0 ≤ x ∧ x ≤ 383 := Classical.byContradiction fun q => hn (bI_f q)
      exact ⟨Int32.le_iff_toInt_le.mp hp.1, Int32.le_iff_toInt_le.mp hp.2⟩
