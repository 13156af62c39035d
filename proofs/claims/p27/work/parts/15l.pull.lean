/-! ===== pulls stay on the map ===== -/
set_option maxRecDepth 100000 in
theorem c_X12_size {l : Launch} {x : Int32} : MetP l 0 yX12_size cX12_size 1 (some .int) 0 0 [.inl x] [] (fun r h' => h' = [] ∧ ∃ y : Int32, r = some (.inl y)) := (one_row (as := [.inl x]) s_X12_size rfl ⟨topA_ok x, trivial⟩).mono (fun r h' hp => ⟨hp.1, hp.2.elim fun z hz => ⟨z, hz.1⟩⟩)
set_option maxRecDepth 100000 in
theorem c_X12_min {l : Launch} {x y : Int32} : MetP l 0 yX12_min cX12_min 2 (some .int) 0 0 [.inl x, .inl y] [] (fun r h' => h' = [] ∧ ∃ y : Int32, r = some (.inl y)) := (one_row (as := [.inl x, .inl y]) s_X12_min rfl ⟨topA_ok x, topA_ok y, trivial⟩).mono (fun r h' hp => ⟨hp.1, hp.2.elim fun z hz => ⟨z, hz.1⟩⟩)
set_option maxRecDepth 100000 in
theorem c_X12_has {l : Launch} {x y : Int32} : MetP l 0 yX12_has cX12_has 2 (some .boolean) 0 0 [.inl x, .inl y] [] (fun r h' => h' = [] ∧ ∃ y : Int32, (y = 0 ∨ y = 1) ∧ r = some (.inl y)) := (one_row (as := [.inl x, .inl y]) s_X12_has rfl ⟨topA_ok x, topA_ok y, trivial⟩).mono (fun r h' hp => ⟨hp.1, hp.2.elim fun z hz => ⟨z, by
  rcases (by omega : z.toInt = 0 ∨ z.toInt = 1) with h | h
  · exact Or.inl (i32eq.mpr h)
  · exact Or.inr (i32eq.mpr h), hz.1⟩⟩)
set_option maxRecDepth 100000 in
theorem c_X12_acrossTo {l : Launch} {p q : Nat} (hp : p ≤ 383) (hq : q ≤ 383) : MetP l 1 yX12_acrossTo cX12_acrossTo 2 (some .int) 0 0 [.inl (nI p), .inl (nI q)] [] (fun r h' => h' = [] ∧ ∃ y : Int32, r = some (.inl y) ∧ -1 ≤ y.toInt ∧ y.toInt ≤ 1 ∧ (p = 383 → y.toInt ≤ 0) ∧ (p = 0 → 0 ≤ y.toInt)) := by
  have ep : (nI p).toInt = p := nI_toInt (by omega)
  have eq : (nI q).toInt = q := nI_toInt (by omega)
  by_cases h1 : p = 383
  · refine (one_row (as := [.inl (nI p), .inl (nI q)]) s_X12_acrossTo_e rfl ⟨⟨_, rfl, by omega, by omega⟩, ⟨_, rfl, by omega, by omega⟩, trivial⟩).mono (fun r h' hp => ⟨hp.1, hp.2.elim fun z hz => ⟨z, hz.1, by omega, by omega, fun _ => hz.2.2, by omega⟩⟩)
  · by_cases h2 : p = 0
    · refine (one_row (as := [.inl (nI p), .inl (nI q)]) s_X12_acrossTo_z rfl ⟨⟨_, rfl, by omega, by omega⟩, ⟨_, rfl, by omega, by omega⟩, trivial⟩).mono (fun r h' hp => ⟨hp.1, hp.2.elim fun z hz => ⟨z, hz.1, by omega, by omega, by omega, fun _ => hz.2.1⟩⟩)
    · exact (one_row (as := [.inl (nI p), .inl (nI q)]) s_X12_acrossTo rfl ⟨topA_ok _, topA_ok _, trivial⟩).mono (fun r h' hp => ⟨hp.1, hp.2.elim fun z hz => ⟨z, hz.1, hz.2.1, hz.2.2, by omega, by omega⟩⟩)
set_option maxRecDepth 100000 in
theorem c_X12_alongTo {l : Launch} {p q : Nat} (hp : p ≤ 383) (hq : q ≤ 383) : MetP l 1 yX12_alongTo cX12_alongTo 2 (some .int) 0 0 [.inl (nI p), .inl (nI q)] [] (fun r h' => h' = [] ∧ ∃ y : Int32, r = some (.inl y) ∧ -1 ≤ y.toInt ∧ y.toInt ≤ 1 ∧ (360 ≤ p → y.toInt ≤ 0) ∧ (p < 24 → 0 ≤ y.toInt)) := by
  have ep : (nI p).toInt = p := nI_toInt (by omega)
  have eq : (nI q).toInt = q := nI_toInt (by omega)
  by_cases h1 : 360 ≤ p
  · refine (one_row (as := [.inl (nI p), .inl (nI q)]) s_X12_alongTo_e rfl ⟨⟨_, rfl, by omega, by omega⟩, ⟨_, rfl, by omega, by omega⟩, trivial⟩).mono (fun r h' hp => ⟨hp.1, hp.2.elim fun z hz => ⟨z, hz.1, by omega, by omega, fun _ => hz.2.2, by omega⟩⟩)
  · by_cases h2 : p < 24
    · refine (one_row (as := [.inl (nI p), .inl (nI q)]) s_X12_alongTo_z rfl ⟨⟨_, rfl, by omega, by omega⟩, ⟨_, rfl, by omega, by omega⟩, trivial⟩).mono (fun r h' hp => ⟨hp.1, hp.2.elim fun z hz => ⟨z, hz.1, by omega, by omega, by omega, fun _ => hz.2.1⟩⟩)
    · exact (one_row (as := [.inl (nI p), .inl (nI q)]) s_X12_alongTo rfl ⟨topA_ok _, topA_ok _, trivial⟩).mono (fun r h' hp => ⟨hp.1, hp.2.elim fun z hz => ⟨z, hz.1, hz.2.1, hz.2.2, by omega, by omega⟩⟩)
/-- sums at a place, of at most w -/
def okA2 (p : Nat) (w : Int) (x : Int32) : Prop := -w ≤ x.toInt ∧ x.toInt ≤ w ∧ (p = 383 → x.toInt ≤ 0) ∧ (p = 0 → 0 ≤ x.toInt)
def okL2 (p : Nat) (w : Int) (x : Int32) : Prop := -w ≤ x.toInt ∧ x.toInt ≤ w ∧ (360 ≤ p → x.toInt ≤ 0) ∧ (p < 24 → 0 ≤ x.toInt)
set_option maxRecDepth 100000 in
theorem c_X12_stepFrom {l : Launch} {p : Nat} {x y z : Int32} {w : Int} (hp : p ≤ 383) (hw : w ≤ 4752) (hx : okA2 p w x) (hy : okL2 p w y) : MetP l 1 yX12_stepFrom cX12_stepFrom 4 (some .int) 0 0 [.inl (nI p), .inl x, .inl y, .inl z] [] (fun r h' => h' = [] ∧ ∃ q, q ≤ 383 ∧ r = some (.inl (nI q))) := by
  have ep : (nI p).toInt = p := nI_toInt (by omega)
  obtain ⟨x1, x2, x3, x4⟩ := hx
  obtain ⟨y1, y2, y3, y4⟩ := hy
  have fin : ∀ (r : Option PV) (h' : PH), (h' = [] ∧ ∃ z : Int32, r = some (.inl z) ∧ 0 ≤ z.toInt ∧ z.toInt ≤ 383) → (h' = [] ∧ ∃ q, q ≤ 383 ∧ r = some (.inl (nI q))) := by
    rintro r h' ⟨h1, z, rfl, h2, h3⟩
    obtain ⟨q, hq, rfl⟩ := rng_n (x := z) (k := 383) h2 h3
    exact ⟨h1, q, hq, rfl⟩
  by_cases h1 : p = 0
  · exact (one_row (as := [.inl (nI p), .inl x, .inl y, .inl z]) s_X12_stepFrom_1 rfl ⟨⟨_, rfl, by omega, by omega⟩, ⟨_, rfl, x4 h1, by omega⟩, ⟨_, rfl, y4 (by omega), by omega⟩, topA_ok z, trivial⟩).mono fin
  by_cases h2 : p < 24
  · exact (one_row (as := [.inl (nI p), .inl x, .inl y, .inl z]) s_X12_stepFrom_2 rfl ⟨⟨_, rfl, by omega, by omega⟩, ⟨_, rfl, by omega, by omega⟩, ⟨_, rfl, y4 (by omega), by omega⟩, topA_ok z, trivial⟩).mono fin
  by_cases h3 : p < 360
  · exact (one_row (as := [.inl (nI p), .inl x, .inl y, .inl z]) s_X12_stepFrom_3 rfl ⟨⟨_, rfl, by omega, by omega⟩, ⟨_, rfl, by omega, by omega⟩, ⟨_, rfl, by omega, by omega⟩, topA_ok z, trivial⟩).mono fin
  by_cases h4 : p < 383
  · exact (one_row (as := [.inl (nI p), .inl x, .inl y, .inl z]) s_X12_stepFrom_4 rfl ⟨⟨_, rfl, by omega, by omega⟩, ⟨_, rfl, by omega, by omega⟩, ⟨_, rfl, by omega, y3 (by omega)⟩, topA_ok z, trivial⟩).mono fin
  · exact (one_row (as := [.inl (nI p), .inl x, .inl y, .inl z]) s_X12_stepFrom_5 rfl ⟨⟨_, rfl, by omega, by omega⟩, ⟨_, rfl, by omega, x3 (by omega)⟩, ⟨_, rfl, by omega, y3 (by omega)⟩, topA_ok z, trivial⟩).mono fin
/-- one stamp more -/
theorem ok_add {w : Int} {k : Nat} {x p y : Int32} (hw : 0 ≤ w) (hk : w + k ≤ 4752) (hx : -w ≤ x.toInt ∧ x.toInt ≤ w) (hp : 0 ≤ p.toInt ∧ p.toInt ≤ k) (hy : -1 ≤ y.toInt ∧ y.toInt ≤ 1) : -(w + k) ≤ (f_add x (f_mul p y)).toInt ∧ (f_add x (f_mul p y)).toInt ≤ w + k ∧ (x.toInt ≤ 0 → y.toInt ≤ 0 → (f_add x (f_mul p y)).toInt ≤ 0) ∧ (0 ≤ x.toInt → 0 ≤ y.toInt → 0 ≤ (f_add x (f_mul p y)).toInt) := by
  have e : (f_mul p y).toInt = p.toInt * y.toInt ∧ -(k : Int) ≤ p.toInt * y.toInt ∧ p.toInt * y.toInt ≤ k ∧ (y.toInt ≤ 0 → p.toInt * y.toInt ≤ 0) ∧ (0 ≤ y.toInt → 0 ≤ p.toInt * y.toInt) := by
    have h3 : y.toInt = -1 ∨ y.toInt = 0 ∨ y.toInt = 1 := by omega
    have em : (f_mul p y).toInt = (p.toInt * y.toInt).bmod (2 ^ 32) := Int32.toInt_mul p y
    rcases h3 with h | h | h
    · rw [h] at em ⊢
      rw [em, bm (by omega) (by omega)]
      exact ⟨by omega, by omega, by omega, by omega, by omega⟩
    · rw [h] at em ⊢
      rw [em, bm (by omega) (by omega)]
      exact ⟨by omega, by omega, by omega, by omega, by omega⟩
    · rw [h] at em ⊢
      rw [em, bm (by omega) (by omega)]
      exact ⟨by omega, by omega, by omega, by omega, by omega⟩
  obtain ⟨e1, e2, e3, e4, e5⟩ := e
  have ea : (f_add x (f_mul p y)).toInt = x.toInt + p.toInt * y.toInt := by
    show (x + f_mul p y).toInt = _
    rw [Int32.toInt_add, e1, bm (by omega) (by omega)]
  rw [ea]
  refine ⟨by omega, by omega, fun h1 h2 => ?_, fun h1 h2 => ?_⟩
  · have := e4 h2; omega
  · have := e5 h2; omega

