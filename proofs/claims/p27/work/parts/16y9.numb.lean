theorem nI_bt {a b k : Nat} (ha : a < 1000) (hb : b < 1000) (hk : k < 1000) : (nI a ≤ nI k ∧ nI k ≤ nI b) ↔ (a ≤ k ∧ k ≤ b) := by
  rw [nI_leI (by omega) (by omega), nI_leI (by omega) (by omega)]

