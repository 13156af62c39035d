theorem c_fill {l : Launch} {n : Nat} {f : Nat → Int32} {v : Int32} (hn : n < 2 ^ 31) : MetP l 0 yJ7_fill_53178 cJ7_fill_53178 4 none 0 0 [.inr (some (.inl 0)), .inl v] [.inl (0, n, f)] (fun r h' => r = none ∧ h' = [.inl (0, n, fillK f v n)]) := by
  refine m_J7_fill_53178 (fun μ L st h => ∃ i, i ≤ n ∧ n - i = μ ∧ L = [some (.inr (some (.inl 0))), some (.inl v), some (.inl (nI i)), some (.inl (nI n))] ∧ st = [] ∧ h = [.inl (0, n, fillK f v i)]) (Nat.le_of_ble_eq_true rfl) ?_ ?_
  · exact ⟨n, 0, Nat.zero_le _, rfl, rfl, rfl, by rw [fillK_0]⟩
  · rintro μ L st h ⟨i, hi, rfl, rfl, rfl, rfl⟩
    refine And.intro (fun (h1 : nI n ≤ nI i) => ?_) (fun (h1 : ¬ nI n ≤ nI i) => ?_)
    · have h2 := (nI_leI (by omega) (by omega)).mp h1
      have : i = n := by omega
      subst this
      exact ⟨rfl, rfl⟩
    · have h2 : i < n := Nat.not_le.mp fun z => h1 ((nI_leI (by omega) (by omega)).mpr z)
      refine And.intro (vp_in_nI h2 hn) ?_
      exact ⟨n - (i + 1), by omega, i + 1, by omega, rfl, by rw [← nI_1 i], rfl, by rw [nI_clamp (by omega)]; exact congrArg (fun z => [Sum.inl (0, n, z)]) (fillK_s f v i)⟩
set_option maxRecDepth 100000 in
theorem c_X10_init {l : Launch}  : MetP l 1 yX10_init cX10_init 1 none 1 260 [.inr (some (.inl 0))] [.inr (9, [.inr none, .inl 0])] (fun r h' => r = none ∧ h' = [.inr (9, [.inr (some (.inl 1)), .inl 0]), .inl (0, 260, (fun _ => 0))]) := by
  refine m_X10_init (Nat.le_of_ble_eq_true rfl) ?_
  refine And.intro rfl ?_
  refine And.intro rfl (And.intro rfl ?_)
  exact ⟨rfl, rfl⟩

set_option maxRecDepth 100000 in
theorem c_X7_init {l : Launch}  : MetP l 1 yX7_init cX7_init 1 none 5 496 [.inr (some (.inl 0))] [.inr (6, [.inr none, .inr none, .inr none, .inr none, .inr none, .inl 0, .inl 0, .inl 0])] (fun r h' => r = none ∧ h' = [.inr (6, [.inr (some (.inl 1)), .inr (some (.inl 2)), .inr (some (.inl 3)), .inr (some (.inl 4)), .inr (some (.inl 5)), .inl 0, .inl 0, .inl 0]), .inl (0, 8, (fun _ => 0)), .inl (0, 8, (fun _ => 0)), .inl (2, 384, (fun _ => 0)), .inl (0, 48, (fun _ => 0)), .inl (0, 48, (fun _ => 0))]) := by
  refine m_X7_init (Nat.le_of_ble_eq_true rfl) ?_
  refine And.intro rfl ?_
  refine And.intro rfl (And.intro rfl ?_)
  refine And.intro rfl (And.intro rfl ?_)
  refine And.intro rfl (And.intro rfl ?_)
  refine And.intro rfl (And.intro rfl ?_)
  refine And.intro rfl (And.intro rfl ?_)
  exact ⟨rfl, rfl⟩

set_option maxRecDepth 100000 in
theorem c_X4_init {l : Launch}  : MetP l 1 yX4_init cX4_init 1 none 4 112 [.inr (some (.inl 0))] [.inr (4, [.inr none, .inr none, .inr none, .inr none, .inl 0, .inl 0, .inl 0, .inl 0])] (fun r h' => r = none ∧ h' = [.inr (4, [.inr (some (.inl 1)), .inr (some (.inl 2)), .inr (some (.inl 3)), .inr (some (.inl 4)), .inl 0, .inl 0, .inl 0, .inl 1]), .inl (0, 8, (fun _ => 0)), .inl (0, 8, (fun _ => 0)), .inl (0, 48, (fillK (fun _ => 0) (-2) 48)), .inl (0, 48, (fun _ => 0))]) := by
  refine m_X4_init (Nat.le_of_ble_eq_true rfl) ?_
  refine And.intro rfl ?_
  refine And.intro rfl (And.intro rfl ?_)
  refine And.intro rfl (And.intro rfl ?_)
  refine And.intro rfl (And.intro rfl ?_)
  refine And.intro rfl (And.intro rfl ?_)
  refine call0 (c_fill (by omega)) rfl rfl ?_
  rintro r h' ⟨rfl, rfl⟩
  exact ⟨rfl, rfl⟩

set_option maxRecDepth 100000 in
theorem c_X0_init {l : Launch} {z : List (Option Nat)} : MetP l 1 yX0_init cX0_init 2 none 2 57 [.inr (some (.inl 0)), .inr (some (.inr z))] [.inr (0, [.inr none, .inr none, .inr none, .inl 0, .inl 0, .inl 0])] (fun r h' => r = none ∧ h' = [.inr (0, [.inr (some (.inr z)), .inr (some (.inl 1)), .inr (some (.inl 2)), .inl 0, .inl 0, .inl 0]), .inl (0, 9, (fun _ => 0)), .inl (0, 48, (fun _ => 0))]) := by
  refine m_X0_init (Nat.le_of_ble_eq_true rfl) ?_
  refine And.intro rfl ?_
  refine And.intro rfl (And.intro rfl ?_)
  refine And.intro rfl (And.intro rfl ?_)
  exact ⟨rfl, rfl⟩

set_option maxRecDepth 100000 in
theorem c_X1_init {l : Launch} {z : List (Option Nat)} : MetP l 1 yX1_init cX1_init 2 none 1 9 [.inr (some (.inl 0)), .inr (some (.inr z))] [.inr (1, [.inr none, .inr none, .inl 0, .inl 0, .inl 0])] (fun r h' => r = none ∧ h' = [.inr (1, [.inr (some (.inr z)), .inr (some (.inl 1)), .inl 0, .inl 0, .inl 0]), .inl (0, 9, (fun _ => 0))]) := by
  refine m_X1_init (Nat.le_of_ble_eq_true rfl) ?_
  refine And.intro rfl ?_
  refine And.intro rfl (And.intro rfl ?_)
  exact ⟨rfl, rfl⟩

set_option maxRecDepth 100000 in
theorem c_X8_init {l : Launch} {z : List (Option Nat)} : MetP l 1 yX8_init cX8_init 2 none 2 607 [.inr (some (.inl 0)), .inr (some (.inr z))] [.inr (7, [.inr none, .inr none, .inr none, .inl 0, .inl 0])] (fun r h' => r = none ∧ h' = [.inr (7, [.inr (some (.inr z)), .inr (some (.inl 1)), .inr (some (.inl 2)), .inl 0, .inl 0]), .inl (0, 601, (fun _ => 0)), .inl (0, 6, (fun _ => 0))]) := by
  refine m_X8_init (Nat.le_of_ble_eq_true rfl) ?_
  refine And.intro rfl ?_
  refine And.intro rfl (And.intro rfl ?_)
  refine And.intro rfl (And.intro rfl ?_)
  exact ⟨rfl, rfl⟩

set_option maxRecDepth 100000 in
theorem c_X6_init_SR {l : Launch} {z : List (Option Nat)} {n : Int32} : MetP l 1 yX6_init cX6_init 2 none 0 0 [.inr (some (.inl 0)), .inr (some (.inl 1))] [.inr (8, [.inr none, .inl 0, .inl 0, .inl 0, .inl 0, .inr none, .inr none, .inl 0]), .inr (9, [.inr (some (.inr z)), .inl n])] (fun r h' => r = none ∧ h' = [.inr (8, [.inr (some (.inr z)), .inl 0, .inl 0, .inl (-1), .inl 0, .inr none, .inr none, .inl 0]), .inr (9, [.inr (some (.inr z)), .inl n])]) := by
  refine m_X6_init (Nat.le_of_ble_eq_true rfl) ?_
  refine And.intro rfl ?_
  exact ⟨rfl, rfl⟩

set_option maxRecDepth 100000 in
theorem c_X6_init_PR {l : Launch} {z : List (Option Nat)} {n : Int32} : MetP l 1 yX6_init cX6_init 2 none 0 0 [.inr (some (.inl 0)), .inr (some (.inl 1))] [.inr (5, [.inr none, .inl 0, .inl 0, .inl 0, .inl 0, .inr none, .inr none, .inr none, .inl 0, .inl 0, .inl 0]), .inr (9, [.inr (some (.inr z)), .inl n])] (fun r h' => r = none ∧ h' = [.inr (5, [.inr (some (.inr z)), .inl 0, .inl 0, .inl (-1), .inl 0, .inr none, .inr none, .inr none, .inl 0, .inl 0, .inl 0]), .inr (9, [.inr (some (.inr z)), .inl n])]) := by
  refine m_X6_init (Nat.le_of_ble_eq_true rfl) ?_
  refine And.intro rfl ?_
  exact ⟨rfl, rfl⟩

set_option maxRecDepth 100000 in
theorem c_X6_init_LR {l : Launch} {z : List (Option Nat)} {n : Int32} : MetP l 1 yX6_init cX6_init 2 none 0 0 [.inr (some (.inl 0)), .inr (some (.inl 1))] [.inr (3, [.inr none, .inl 0, .inl 0, .inl 0, .inl 0, .inr none]), .inr (9, [.inr (some (.inr z)), .inl n])] (fun r h' => r = none ∧ h' = [.inr (3, [.inr (some (.inr z)), .inl 0, .inl 0, .inl (-1), .inl 0, .inr none]), .inr (9, [.inr (some (.inr z)), .inl n])]) := by
  refine m_X6_init (Nat.le_of_ble_eq_true rfl) ?_
  refine And.intro rfl ?_
  exact ⟨rfl, rfl⟩

set_option maxRecDepth 100000 in
theorem c_X9_init {l : Launch} {Tape_bytes : List (Option Nat)} {Tape_size : Int32}  : MetP l 2 yX9_init cX9_init 2 none 2 96 [.inr (some (.inl 0)), .inr (some (.inl 1))] [.inr (8, [.inr none, .inl 0, .inl 0, .inl 0, .inl 0, .inr none, .inr none, .inl 0]), .inr (9, [.inr (some (.inr Tape_bytes)), .inl Tape_size])] (fun r h' => r = none ∧ h' = [.inr (8, [.inr (some (.inr Tape_bytes)), .inl 0, .inl 0, .inl ((-1)), .inl 0, .inr (some (.inl 2)), .inr (some (.inl 3)), .inl 0]), .inr (9, [.inr (some (.inr Tape_bytes)), .inl Tape_size]), .inl (0, 48, (fun _ => 0)), .inl (0, 48, (fun _ => 0))]) := by
  refine m_X9_init (Nat.le_of_ble_eq_true rfl) ?_
  refine callA (c_X6_init_SR) rfl rfl rfl rfl ?_
  rintro r h' ⟨rfl, rfl⟩
  refine And.intro rfl (And.intro rfl (And.intro rfl ?_))
  refine And.intro rfl (And.intro rfl ?_)
  refine And.intro rfl (And.intro rfl ?_)
  exact ⟨rfl, rfl⟩

set_option maxRecDepth 100000 in
theorem c_X5_init {l : Launch} {Tape_bytes : List (Option Nat)} {Tape_size : Int32}  : MetP l 2 yX5_init cX5_init 2 none 3 60 [.inr (some (.inl 0)), .inr (some (.inl 1))] [.inr (5, [.inr none, .inl 0, .inl 0, .inl 0, .inl 0, .inr none, .inr none, .inr none, .inl 0, .inl 0, .inl 0]), .inr (9, [.inr (some (.inr Tape_bytes)), .inl Tape_size])] (fun r h' => r = none ∧ h' = [.inr (5, [.inr (some (.inr Tape_bytes)), .inl 0, .inl 0, .inl ((-1)), .inl 0, .inr (some (.inl 2)), .inr (some (.inl 3)), .inr (some (.inl 4)), .inl 0, .inl 0, .inl 0]), .inr (9, [.inr (some (.inr Tape_bytes)), .inl Tape_size]), .inl (0, 20, (fun _ => 0)), .inl (0, 20, (fun _ => 0)), .inl (0, 20, (fun _ => 0))]) := by
  refine m_X5_init (Nat.le_of_ble_eq_true rfl) ?_
  refine callA (c_X6_init_PR) rfl rfl rfl rfl ?_
  rintro r h' ⟨rfl, rfl⟩
  refine And.intro rfl (And.intro rfl (And.intro rfl ?_))
  refine And.intro rfl (And.intro rfl ?_)
  refine And.intro rfl (And.intro rfl ?_)
  refine And.intro rfl (And.intro rfl ?_)
  exact ⟨rfl, rfl⟩

set_option maxRecDepth 100000 in
theorem c_X2_init {l : Launch}  : MetP l 1 yX2_init cX2_init 1 none 6 632 [.inr (some (.inl 0))] [.inr (2, [.inr none, .inr none, .inr none, .inr none, .inr none, .inr none, .inl 0, .inl 0, .inl 0, .inl 0])] (fun r h' => r = none ∧ h' = [.inr (2, [.inr (some (.inl 1)), .inr (some (.inl 2)), .inr (some (.inl 3)), .inr (some (.inl 4)), .inr (some (.inl 5)), .inr (some (.inl 6)), .inl 0, .inl 0, .inl 0, .inl 0]), .inl (0, 16, (fun _ => 0)), .inl (0, 16, (fun _ => 0)), .inl (0, 16, (fun _ => 0)), .inl (0, 280, (fun _ => 0)), .inl (0, 280, (fun _ => 0)), .inl (0, 24, (fun _ => 0))]) := by
  refine m_X2_init (Nat.le_of_ble_eq_true rfl) ?_
  refine And.intro rfl ?_
  refine And.intro rfl (And.intro rfl ?_)
  refine And.intro rfl (And.intro rfl ?_)
  refine And.intro rfl (And.intro rfl ?_)
  refine And.intro rfl (And.intro rfl ?_)
  refine And.intro rfl (And.intro rfl ?_)
  refine And.intro rfl (And.intro rfl ?_)
  refine And.intro (Or.inl rfl) ?_
  exact ⟨rfl, rfl⟩

set_option maxRecDepth 100000 in
theorem c_X3_init {l : Launch} {Tape_bytes : List (Option Nat)} {Tape_size : Int32} {z : List (Option Nat)} : MetP l 2 yX3_init cX3_init 3 none 0 0 [.inr (some (.inl 0)), .inr (some (.inl 1)), .inr (some (.inr z))] [.inr (3, [.inr none, .inl 0, .inl 0, .inl 0, .inl 0, .inr none]), .inr (9, [.inr (some (.inr Tape_bytes)), .inl Tape_size])] (fun r h' => r = none ∧ h' = [.inr (3, [.inr (some (.inr Tape_bytes)), .inl 0, .inl 0, .inl ((-1)), .inl 0, .inr (some (.inr z))]), .inr (9, [.inr (some (.inr Tape_bytes)), .inl Tape_size])]) := by
  refine m_X3_init (Nat.le_of_ble_eq_true rfl) ?_
  refine callA (c_X6_init_LR) rfl rfl rfl rfl ?_
  rintro r h' ⟨rfl, rfl⟩
  refine And.intro rfl (And.intro rfl (And.intro rfl ?_))
  exact ⟨rfl, rfl⟩

set_option maxRecDepth 100000 in
theorem c_X11_init {l : Launch}  : MetP l 3 yX11_init cX11_init 1 none 54 3664 [.inr (some (.inl 0))] [.inr (10, [.inr none, .inr none, .inr none, .inr none, .inr none, .inr none, .inr none, .inr none, .inr none, .inr none, .inr none, .inr none, .inr none, .inr none, .inl 0])] (fun r h' => r = none ∧ h' = [.inr (10, [.inr (some (.inl 1)), .inr (some (.inl 3)), .inr (some (.inl 9)), .inr (some (.inl 14)), .inr (some (.inl 19)), .inr (some (.inl 24)), .inr (some (.inl 27)), .inr (some (.inl 29)), .inr (some (.inl 32)), .inr (some (.inl 35)), .inr (some (.inl 54)), .inr (some (.inl 39)), .inr (some (.inl 40)), .inr (some (.inl 47)), .inl 0]), .inr (9, [.inr (some (.inl 2)), .inl 0]), .inl (0, 260, (fun _ => 0)), .inr (6, [.inr (some (.inl 4)), .inr (some (.inl 5)), .inr (some (.inl 6)), .inr (some (.inl 7)), .inr (some (.inl 8)), .inl 0, .inl 0, .inl 0]), .inl (0, 8, (fun _ => 0)), .inl (0, 8, (fun _ => 0)), .inl (2, 384, (fun _ => 0)), .inl (0, 48, (fun _ => 0)), .inl (0, 48, (fun _ => 0)), .inr (4, [.inr (some (.inl 10)), .inr (some (.inl 11)), .inr (some (.inl 12)), .inr (some (.inl 13)), .inl 0, .inl 0, .inl 0, .inl 1]), .inl (0, 8, (fun _ => 0)), .inl (0, 8, (fun _ => 0)), .inl (0, 48, (fillK (fun _ => 0) (-2) 48)), .inl (0, 48, (fun _ => 0)), .inr (4, [.inr (some (.inl 15)), .inr (some (.inl 16)), .inr (some (.inl 17)), .inr (some (.inl 18)), .inl 0, .inl 0, .inl 0, .inl 1]), .inl (0, 8, (fun _ => 0)), .inl (0, 8, (fun _ => 0)), .inl (0, 48, (fillK (fun _ => 0) (-2) 48)), .inl (0, 48, (fun _ => 0)), .inr (4, [.inr (some (.inl 20)), .inr (some (.inl 21)), .inr (some (.inl 22)), .inr (some (.inl 23)), .inl 0, .inl 0, .inl 0, .inl 1]), .inl (0, 8, (fun _ => 0)), .inl (0, 8, (fun _ => 0)), .inl (0, 48, (fillK (fun _ => 0) (-2) 48)), .inl (0, 48, (fun _ => 0)), .inr (0, [.inr (some (.inl 3)), .inr (some (.inl 25)), .inr (some (.inl 26)), .inl 0, .inl 0, .inl 0]), .inl (0, 9, (fun _ => 0)), .inl (0, 48, (fun _ => 0)), .inr (1, [.inr (some (.inl 3)), .inr (some (.inl 28)), .inl 0, .inl 0, .inl 0]), .inl (0, 9, (fun _ => 0)), .inr (7, [.inr (some (.inl 1)), .inr (some (.inl 30)), .inr (some (.inl 31)), .inl 0, .inl 0]), .inl (0, 601, (fun _ => 0)), .inl (0, 6, (fun _ => 0)), .inr (8, [.inr (some (.inl 2)), .inl 0, .inl 0, .inl ((-1)), .inl 0, .inr (some (.inl 33)), .inr (some (.inl 34)), .inl 0]), .inl (0, 48, (fun _ => 0)), .inl (0, 48, (fun _ => 0)), .inr (5, [.inr (some (.inl 2)), .inl 0, .inl 0, .inl ((-1)), .inl 0, .inr (some (.inl 36)), .inr (some (.inl 37)), .inr (some (.inl 38)), .inl 0, .inl 0, .inl 0]), .inl (0, 20, (fun _ => 0)), .inl (0, 20, (fun _ => 0)), .inl (0, 20, (fun _ => 0)), .inl (0, 384, (fun _ => 0)), .inr (2, [.inr (some (.inl 41)), .inr (some (.inl 42)), .inr (some (.inl 43)), .inr (some (.inl 44)), .inr (some (.inl 45)), .inr (some (.inl 46)), .inl 0, .inl 0, .inl 0, .inl 0]), .inl (0, 16, (fun _ => 0)), .inl (0, 16, (fun _ => 0)), .inl (0, 16, (fun _ => 0)), .inl (0, 280, (fun _ => 0)), .inl (0, 280, (fun _ => 0)), .inl (0, 24, (fun _ => 0)), .inr (2, [.inr (some (.inl 48)), .inr (some (.inl 49)), .inr (some (.inl 50)), .inr (some (.inl 51)), .inr (some (.inl 52)), .inr (some (.inl 53)), .inl 0, .inl 0, .inl 0, .inl 0]), .inl (0, 16, (fun _ => 0)), .inl (0, 16, (fun _ => 0)), .inl (0, 16, (fun _ => 0)), .inl (0, 280, (fun _ => 0)), .inl (0, 280, (fun _ => 0)), .inl (0, 24, (fun _ => 0)), .inr (3, [.inr (some (.inl 2)), .inl 0, .inl 0, .inl ((-1)), .inl 0, .inr (some (.inl 47))])]) := by
  refine m_X11_init (Nat.le_of_ble_eq_true rfl) ?_
  refine And.intro rfl ?_
  refine And.intro rfl ?_
  refine callA (c_X10_init) rfl rfl rfl rfl ?_
  rintro r h' ⟨rfl, rfl⟩
  refine And.intro rfl (And.intro rfl (And.intro rfl ?_))
  refine And.intro rfl ?_
  refine callA (c_X7_init) rfl rfl rfl rfl ?_
  rintro r h' ⟨rfl, rfl⟩
  refine And.intro rfl (And.intro rfl (And.intro rfl ?_))
  refine And.intro rfl ?_
  refine callA (c_X4_init) rfl rfl rfl rfl ?_
  rintro r h' ⟨rfl, rfl⟩
  refine And.intro rfl (And.intro rfl (And.intro rfl ?_))
  refine And.intro rfl ?_
  refine callA (c_X4_init) rfl rfl rfl rfl ?_
  rintro r h' ⟨rfl, rfl⟩
  refine And.intro rfl (And.intro rfl (And.intro rfl ?_))
  refine And.intro rfl ?_
  refine callA (c_X4_init) rfl rfl rfl rfl ?_
  rintro r h' ⟨rfl, rfl⟩
  refine And.intro rfl (And.intro rfl (And.intro rfl ?_))
  refine And.intro rfl ?_
  refine callA (c_X0_init) rfl rfl rfl rfl ?_
  rintro r h' ⟨rfl, rfl⟩
  refine And.intro rfl (And.intro rfl (And.intro rfl ?_))
  refine And.intro rfl ?_
  refine callA (c_X1_init) rfl rfl rfl rfl ?_
  rintro r h' ⟨rfl, rfl⟩
  refine And.intro rfl (And.intro rfl (And.intro rfl ?_))
  refine And.intro rfl ?_
  refine callA (c_X8_init) rfl rfl rfl rfl ?_
  rintro r h' ⟨rfl, rfl⟩
  refine And.intro rfl (And.intro rfl (And.intro rfl ?_))
  refine And.intro rfl ?_
  refine callA (c_X9_init) rfl rfl rfl rfl ?_
  rintro r h' ⟨rfl, rfl⟩
  refine And.intro rfl (And.intro rfl (And.intro rfl ?_))
  refine And.intro rfl ?_
  refine callA (c_X5_init) rfl rfl rfl rfl ?_
  rintro r h' ⟨rfl, rfl⟩
  refine And.intro rfl (And.intro rfl (And.intro rfl ?_))
  refine And.intro rfl (And.intro rfl ?_)
  refine And.intro rfl ?_
  refine callA (c_X2_init) rfl rfl rfl rfl ?_
  rintro r h' ⟨rfl, rfl⟩
  refine And.intro rfl (And.intro rfl (And.intro rfl ?_))
  refine And.intro rfl ?_
  refine callA (c_X2_init) rfl rfl rfl rfl ?_
  rintro r h' ⟨rfl, rfl⟩
  refine And.intro rfl (And.intro rfl (And.intro rfl ?_))
  refine And.intro rfl ?_
  refine callA (c_X3_init) rfl rfl rfl rfl ?_
  rintro r h' ⟨rfl, rfl⟩
  refine And.intro rfl (And.intro rfl (And.intro rfl ?_))
  refine And.intro (Or.inl rfl) ?_
  exact ⟨rfl, rfl⟩

/-- the reference's row at the start, with i stamps put on none -/
def nowK (i : Nat) : Nat → Int32 := fun j => if 32 ≤ j ∧ j < 32 + i then -1 else if j = 129 then 1 else 0
def mnow : Nat → Int32 := nowK 48
theorem nowK_0 : upd (fun _ => 0) 129 1 = nowK 0 := by
  funext j
  unfold upd nowK
  rw [if_neg (show ¬ (32 ≤ j ∧ j < 32 + 0) by omega)]
theorem nowK_s (i : Nat) (hi : i < 48) : upd (nowK i) (32 + i) (-1) = nowK (i + 1) := by
  funext j
  unfold upd nowK
  by_cases h : j = 32 + i
  · rw [if_pos h, if_pos (by omega)]
  · rw [if_neg h]
    by_cases h2 : 32 ≤ j ∧ j < 32 + i
    · rw [if_pos h2, if_pos (by omega)]
    · rw [if_neg h2, if_neg (show ¬ (32 ≤ j ∧ j < 32 + (i + 1)) by omega)]

set_option maxRecDepth 100000 in
theorem c_X12_init {l : Launch} : MetP l 1 yX12_init cX12_init 2 none 31 3801 [.inr (some (.inl 0))] [.inr (11, [.inr none, .inr none, .inr none, .inr none, .inr none, .inr none, .inr none, .inr none, .inl 0, .inr none, .inl 0, .inl 0, .inl 0, .inl 0, .inl 0, .inl 0, .inl 0, .inl 0, .inl 0, .inl 0, .inr none, .inr none, .inr none, .inr none, .inr none, .inr none, .inr none, .inr none, .inr none, .inr none, .inr none, .inr none, .inr none, .inr none, .inr none, .inr none, .inr none, .inl 0, .inl 0, .inl 0, .inl 0, .inl 0, .inl 0, .inl 0, .inl 0, .inl 0, .inl 0, .inr none, .inr none, .inr none, .inr none, .inr none, .inl 0])] (fun r h' => r = none ∧ h' = [.inr (11, [.inr (some (.inl 1)), .inr (some (.inl 2)), .inr (some (.inl 3)), .inr (some (.inl 4)), .inr (some (.inl 5)), .inr (some (.inl 6)), .inr (some (.inl 7)), .inr (some (.inl 8)), .inl 0, .inr (some (.inl 9)), .inl 0, .inl 0, .inl 0, .inl 0, .inl 0, .inl 0, .inl 0, .inl 0, .inl 0, .inl 0, .inr (some (.inl 10)), .inr (some (.inl 11)), .inr (some (.inl 12)), .inr (some (.inl 13)), .inr (some (.inl 14)), .inr (some (.inl 15)), .inr (some (.inl 16)), .inr (some (.inl 17)), .inr (some (.inl 18)), .inr (some (.inl 19)), .inr (some (.inl 20)), .inr (some (.inl 21)), .inr (some (.inl 22)), .inr (some (.inl 23)), .inr (some (.inl 24)), .inr (some (.inl 25)), .inr (some (.inl 26)), .inl 0, .inl 0, .inl 0, .inl 0, .inl 0, .inl 0, .inl 0, .inl 0, .inl 0, .inl 0, .inr (some (.inl 27)), .inr (some (.inl 28)), .inr (some (.inl 29)), .inr (some (.inl 30)), .inr (some (.inl 31)), .inl 0]), .inl (0, 130, mnow), .inl (0, 130, (fun _ => 0)), .inl (0, 130, (fun _ => 0)), .inl (0, 8, (fillK (fun _ => 0) (-1) 8)), .inl (0, 48, (fun _ => 0)), .inl (0, 48, (fun _ => 0)), .inl (2, 384, (fun _ => 0)), .inl (2, 384, (fun _ => 0)), .inl (1, 260, (fun _ => 0)), .inl (0, 260, (fun _ => 0)), .inl (0, 260, (fun _ => 0)), .inl (0, 16, (fun _ => 0)), .inl (0, 16, (fun _ => 0)), .inl (0, 16, (fun _ => 0)), .inl (0, 16, (fun _ => 0)), .inl (0, 260, (fun _ => 0)), .inl (0, 16, (fun _ => 0)), .inl (0, 16, (fun _ => 0)), .inl (0, 16, (fun _ => 0)), .inl (0, 16, (fun _ => 0)), .inl (0, 260, (fun _ => 0)), .inl (0, 9, (fun _ => 0)), .inl (0, 48, (fun _ => 0)), .inl (0, 2, (fun _ => 0)), .inl (0, 2, (fun _ => 0)), .inl (0, 2, (fun _ => 0)), .inl (0, 48, (fun _ => 0)), .inl (2, 384, (fun _ => 0)), .inl (0, 9, (fun _ => 0)), .inl (0, 601, (fun _ => 0)), .inl (0, 6, (fun _ => 0))]) := by
  refine m_X12_init (fun μ L st h => ∃ i : Nat, i ≤ 48 ∧ 100 - i = μ ∧ L = [some (.inr (some (.inl 0))), some (.inl (nI i))] ∧ st = [] ∧ h = [.inr (11, [.inr (some (.inl 1)), .inr (some (.inl 2)), .inr (some (.inl 3)), .inr (some (.inl 4)), .inr (some (.inl 5)), .inr (some (.inl 6)), .inr (some (.inl 7)), .inr (some (.inl 8)), .inl 0, .inr (some (.inl 9)), .inl 0, .inl 0, .inl 0, .inl 0, .inl 0, .inl 0, .inl 0, .inl 0, .inl 0, .inl 0, .inr (some (.inl 10)), .inr (some (.inl 11)), .inr (some (.inl 12)), .inr (some (.inl 13)), .inr (some (.inl 14)), .inr (some (.inl 15)), .inr (some (.inl 16)), .inr (some (.inl 17)), .inr (some (.inl 18)), .inr (some (.inl 19)), .inr (some (.inl 20)), .inr (some (.inl 21)), .inr (some (.inl 22)), .inr (some (.inl 23)), .inr (some (.inl 24)), .inr (some (.inl 25)), .inr (some (.inl 26)), .inl 0, .inl 0, .inl 0, .inl 0, .inl 0, .inl 0, .inl 0, .inl 0, .inl 0, .inl 0, .inr (some (.inl 27)), .inr (some (.inl 28)), .inr (some (.inl 29)), .inr (some (.inl 30)), .inr (some (.inl 31)), .inl 0]), .inl (0, 130, (nowK i)), .inl (0, 130, (fun _ => 0)), .inl (0, 130, (fun _ => 0)), .inl (0, 8, (fun _ => 0)), .inl (0, 48, (fun _ => 0)), .inl (0, 48, (fun _ => 0)), .inl (2, 384, (fun _ => 0)), .inl (2, 384, (fun _ => 0)), .inl (1, 260, (fun _ => 0)), .inl (0, 260, (fun _ => 0)), .inl (0, 260, (fun _ => 0)), .inl (0, 16, (fun _ => 0)), .inl (0, 16, (fun _ => 0)), .inl (0, 16, (fun _ => 0)), .inl (0, 16, (fun _ => 0)), .inl (0, 260, (fun _ => 0)), .inl (0, 16, (fun _ => 0)), .inl (0, 16, (fun _ => 0)), .inl (0, 16, (fun _ => 0)), .inl (0, 16, (fun _ => 0)), .inl (0, 260, (fun _ => 0)), .inl (0, 9, (fun _ => 0)), .inl (0, 48, (fun _ => 0)), .inl (0, 2, (fun _ => 0)), .inl (0, 2, (fun _ => 0)), .inl (0, 2, (fun _ => 0)), .inl (0, 48, (fun _ => 0)), .inl (2, 384, (fun _ => 0)), .inl (0, 9, (fun _ => 0)), .inl (0, 601, (fun _ => 0)), .inl (0, 6, (fun _ => 0))]) (fun μ L st h => ∃ i : Nat, i ≤ 8 ∧ 8 - i = μ ∧ L = [some (.inr (some (.inl 0))), some (.inl (nI i))] ∧ st = [] ∧ h = [.inr (11, [.inr (some (.inl 1)), .inr (some (.inl 2)), .inr (some (.inl 3)), .inr (some (.inl 4)), .inr (some (.inl 5)), .inr (some (.inl 6)), .inr (some (.inl 7)), .inr (some (.inl 8)), .inl 0, .inr (some (.inl 9)), .inl 0, .inl 0, .inl 0, .inl 0, .inl 0, .inl 0, .inl 0, .inl 0, .inl 0, .inl 0, .inr (some (.inl 10)), .inr (some (.inl 11)), .inr (some (.inl 12)), .inr (some (.inl 13)), .inr (some (.inl 14)), .inr (some (.inl 15)), .inr (some (.inl 16)), .inr (some (.inl 17)), .inr (some (.inl 18)), .inr (some (.inl 19)), .inr (some (.inl 20)), .inr (some (.inl 21)), .inr (some (.inl 22)), .inr (some (.inl 23)), .inr (some (.inl 24)), .inr (some (.inl 25)), .inr (some (.inl 26)), .inl 0, .inl 0, .inl 0, .inl 0, .inl 0, .inl 0, .inl 0, .inl 0, .inl 0, .inl 0, .inr (some (.inl 27)), .inr (some (.inl 28)), .inr (some (.inl 29)), .inr (some (.inl 30)), .inr (some (.inl 31)), .inl 0]), .inl (0, 130, mnow), .inl (0, 130, (fun _ => 0)), .inl (0, 130, (fun _ => 0)), .inl (0, 8, (fillK (fun _ => 0) (-1) i)), .inl (0, 48, (fun _ => 0)), .inl (0, 48, (fun _ => 0)), .inl (2, 384, (fun _ => 0)), .inl (2, 384, (fun _ => 0)), .inl (1, 260, (fun _ => 0)), .inl (0, 260, (fun _ => 0)), .inl (0, 260, (fun _ => 0)), .inl (0, 16, (fun _ => 0)), .inl (0, 16, (fun _ => 0)), .inl (0, 16, (fun _ => 0)), .inl (0, 16, (fun _ => 0)), .inl (0, 260, (fun _ => 0)), .inl (0, 16, (fun _ => 0)), .inl (0, 16, (fun _ => 0)), .inl (0, 16, (fun _ => 0)), .inl (0, 16, (fun _ => 0)), .inl (0, 260, (fun _ => 0)), .inl (0, 9, (fun _ => 0)), .inl (0, 48, (fun _ => 0)), .inl (0, 2, (fun _ => 0)), .inl (0, 2, (fun _ => 0)), .inl (0, 2, (fun _ => 0)), .inl (0, 48, (fun _ => 0)), .inl (2, 384, (fun _ => 0)), .inl (0, 9, (fun _ => 0)), .inl (0, 601, (fun _ => 0)), .inl (0, 6, (fun _ => 0))]) (Nat.le_of_ble_eq_true rfl) ?_ ?_ ?_
  · refine And.intro rfl ?_
    refine And.intro rfl (And.intro rfl ?_)
    refine And.intro rfl (And.intro rfl ?_)
    refine And.intro rfl (And.intro rfl ?_)
    refine And.intro rfl (And.intro rfl ?_)
    refine And.intro rfl (And.intro rfl ?_)
    refine And.intro rfl (And.intro rfl ?_)
    refine And.intro rfl (And.intro rfl ?_)
    refine And.intro rfl (And.intro rfl ?_)
    refine And.intro rfl (And.intro rfl ?_)
    refine And.intro rfl (And.intro rfl ?_)
    refine And.intro rfl (And.intro rfl ?_)
    refine And.intro rfl (And.intro rfl ?_)
    refine And.intro rfl (And.intro rfl ?_)
    refine And.intro rfl (And.intro rfl ?_)
    refine And.intro rfl (And.intro rfl ?_)
    refine And.intro rfl (And.intro rfl ?_)
    refine And.intro rfl (And.intro rfl ?_)
    refine And.intro rfl (And.intro rfl ?_)
    refine And.intro rfl (And.intro rfl ?_)
    refine And.intro rfl (And.intro rfl ?_)
    refine And.intro rfl (And.intro rfl ?_)
    refine And.intro rfl (And.intro rfl ?_)
    refine And.intro rfl (And.intro rfl ?_)
    refine And.intro rfl (And.intro rfl ?_)
    refine And.intro rfl (And.intro rfl ?_)
    refine And.intro rfl (And.intro rfl ?_)
    refine And.intro rfl (And.intro rfl ?_)
    refine And.intro rfl (And.intro rfl ?_)
    refine And.intro rfl (And.intro rfl ?_)
    refine And.intro rfl (And.intro rfl ?_)
    refine And.intro rfl (And.intro rfl ?_)
    refine And.intro (vp_in_nI (n := 129) (by omega) (by omega)) ?_
    exact ⟨100, 0, Nat.zero_le _, rfl, rfl, rfl, congrArg (fun z => ([.inr (11, [.inr (some (.inl 1)), .inr (some (.inl 2)), .inr (some (.inl 3)), .inr (some (.inl 4)), .inr (some (.inl 5)), .inr (some (.inl 6)), .inr (some (.inl 7)), .inr (some (.inl 8)), .inl 0, .inr (some (.inl 9)), .inl 0, .inl 0, .inl 0, .inl 0, .inl 0, .inl 0, .inl 0, .inl 0, .inl 0, .inl 0, .inr (some (.inl 10)), .inr (some (.inl 11)), .inr (some (.inl 12)), .inr (some (.inl 13)), .inr (some (.inl 14)), .inr (some (.inl 15)), .inr (some (.inl 16)), .inr (some (.inl 17)), .inr (some (.inl 18)), .inr (some (.inl 19)), .inr (some (.inl 20)), .inr (some (.inl 21)), .inr (some (.inl 22)), .inr (some (.inl 23)), .inr (some (.inl 24)), .inr (some (.inl 25)), .inr (some (.inl 26)), .inl 0, .inl 0, .inl 0, .inl 0, .inl 0, .inl 0, .inl 0, .inl 0, .inl 0, .inl 0, .inr (some (.inl 27)), .inr (some (.inl 28)), .inr (some (.inl 29)), .inr (some (.inl 30)), .inr (some (.inl 31)), .inl 0]), .inl (0, 130, z), .inl (0, 130, (fun _ => 0)), .inl (0, 130, (fun _ => 0)), .inl (0, 8, (fun _ => 0)), .inl (0, 48, (fun _ => 0)), .inl (0, 48, (fun _ => 0)), .inl (2, 384, (fun _ => 0)), .inl (2, 384, (fun _ => 0)), .inl (1, 260, (fun _ => 0)), .inl (0, 260, (fun _ => 0)), .inl (0, 260, (fun _ => 0)), .inl (0, 16, (fun _ => 0)), .inl (0, 16, (fun _ => 0)), .inl (0, 16, (fun _ => 0)), .inl (0, 16, (fun _ => 0)), .inl (0, 260, (fun _ => 0)), .inl (0, 16, (fun _ => 0)), .inl (0, 16, (fun _ => 0)), .inl (0, 16, (fun _ => 0)), .inl (0, 16, (fun _ => 0)), .inl (0, 260, (fun _ => 0)), .inl (0, 9, (fun _ => 0)), .inl (0, 48, (fun _ => 0)), .inl (0, 2, (fun _ => 0)), .inl (0, 2, (fun _ => 0)), .inl (0, 2, (fun _ => 0)), .inl (0, 48, (fun _ => 0)), .inl (2, 384, (fun _ => 0)), .inl (0, 9, (fun _ => 0)), .inl (0, 601, (fun _ => 0)), .inl (0, 6, (fun _ => 0))] : PH)) nowK_0⟩
  · rintro μ L st h ⟨i, hi, rfl, rfl, rfl, rfl⟩
    refine And.intro (fun (h1 : (48 : Int32) ≤ nI i) => ?_) (fun (h1 : ¬ (48 : Int32) ≤ nI i) => ?_)
    · have h2 := (nI_leI (a := 48) (by omega) (by omega)).mp h1
      have : i = 48 := by omega
      subst this
      exact ⟨8, by omega, 0, Nat.zero_le _, rfl, rfl, rfl, by rw [fillK_0]; rfl⟩
    · have h2 : i < 48 := Nat.not_le.mp fun z => h1 ((nI_leI (a := 48) (by omega) (by omega)).mpr z)
      have e1 : f_add 32 (nI i) = nI (32 + i) := nI_add 32 i
      refine And.intro (by rw [e1]; exact vp_in_nI (by omega) (by omega)) ?_
      refine ⟨100 - (i + 1), by omega, i + 1, by omega, rfl, by rw [← nI_1 i], rfl, ?_⟩
      rw [e1, nI_clamp (by omega)]
      exact congrArg (fun z => ([.inr (11, [.inr (some (.inl 1)), .inr (some (.inl 2)), .inr (some (.inl 3)), .inr (some (.inl 4)), .inr (some (.inl 5)), .inr (some (.inl 6)), .inr (some (.inl 7)), .inr (some (.inl 8)), .inl 0, .inr (some (.inl 9)), .inl 0, .inl 0, .inl 0, .inl 0, .inl 0, .inl 0, .inl 0, .inl 0, .inl 0, .inl 0, .inr (some (.inl 10)), .inr (some (.inl 11)), .inr (some (.inl 12)), .inr (some (.inl 13)), .inr (some (.inl 14)), .inr (some (.inl 15)), .inr (some (.inl 16)), .inr (some (.inl 17)), .inr (some (.inl 18)), .inr (some (.inl 19)), .inr (some (.inl 20)), .inr (some (.inl 21)), .inr (some (.inl 22)), .inr (some (.inl 23)), .inr (some (.inl 24)), .inr (some (.inl 25)), .inr (some (.inl 26)), .inl 0, .inl 0, .inl 0, .inl 0, .inl 0, .inl 0, .inl 0, .inl 0, .inl 0, .inl 0, .inr (some (.inl 27)), .inr (some (.inl 28)), .inr (some (.inl 29)), .inr (some (.inl 30)), .inr (some (.inl 31)), .inl 0]), .inl (0, 130, z), .inl (0, 130, (fun _ => 0)), .inl (0, 130, (fun _ => 0)), .inl (0, 8, (fun _ => 0)), .inl (0, 48, (fun _ => 0)), .inl (0, 48, (fun _ => 0)), .inl (2, 384, (fun _ => 0)), .inl (2, 384, (fun _ => 0)), .inl (1, 260, (fun _ => 0)), .inl (0, 260, (fun _ => 0)), .inl (0, 260, (fun _ => 0)), .inl (0, 16, (fun _ => 0)), .inl (0, 16, (fun _ => 0)), .inl (0, 16, (fun _ => 0)), .inl (0, 16, (fun _ => 0)), .inl (0, 260, (fun _ => 0)), .inl (0, 16, (fun _ => 0)), .inl (0, 16, (fun _ => 0)), .inl (0, 16, (fun _ => 0)), .inl (0, 16, (fun _ => 0)), .inl (0, 260, (fun _ => 0)), .inl (0, 9, (fun _ => 0)), .inl (0, 48, (fun _ => 0)), .inl (0, 2, (fun _ => 0)), .inl (0, 2, (fun _ => 0)), .inl (0, 2, (fun _ => 0)), .inl (0, 48, (fun _ => 0)), .inl (2, 384, (fun _ => 0)), .inl (0, 9, (fun _ => 0)), .inl (0, 601, (fun _ => 0)), .inl (0, 6, (fun _ => 0))] : PH)) (nowK_s i h2)
  · rintro μ L st h ⟨i, hi, rfl, rfl, rfl, rfl⟩
    refine And.intro (fun (h1 : (8 : Int32) ≤ nI i) => ?_) (fun (h1 : ¬ (8 : Int32) ≤ nI i) => ?_)
    · have h2 := (nI_leI (a := 8) (by omega) (by omega)).mp h1
      have : i = 8 := by omega
      subst this
      exact ⟨rfl, rfl⟩
    · have h2 : i < 8 := Nat.not_le.mp fun z => h1 ((nI_leI (a := 8) (by omega) (by omega)).mpr z)
      refine And.intro (vp_in_nI h2 (by omega)) ?_
      refine ⟨8 - (i + 1), by omega, i + 1, by omega, rfl, by rw [← nI_1 i], rfl, ?_⟩
      rw [nI_clamp (by omega)]
      exact congrArg (fun z => ([.inr (11, [.inr (some (.inl 1)), .inr (some (.inl 2)), .inr (some (.inl 3)), .inr (some (.inl 4)), .inr (some (.inl 5)), .inr (some (.inl 6)), .inr (some (.inl 7)), .inr (some (.inl 8)), .inl 0, .inr (some (.inl 9)), .inl 0, .inl 0, .inl 0, .inl 0, .inl 0, .inl 0, .inl 0, .inl 0, .inl 0, .inl 0, .inr (some (.inl 10)), .inr (some (.inl 11)), .inr (some (.inl 12)), .inr (some (.inl 13)), .inr (some (.inl 14)), .inr (some (.inl 15)), .inr (some (.inl 16)), .inr (some (.inl 17)), .inr (some (.inl 18)), .inr (some (.inl 19)), .inr (some (.inl 20)), .inr (some (.inl 21)), .inr (some (.inl 22)), .inr (some (.inl 23)), .inr (some (.inl 24)), .inr (some (.inl 25)), .inr (some (.inl 26)), .inl 0, .inl 0, .inl 0, .inl 0, .inl 0, .inl 0, .inl 0, .inl 0, .inl 0, .inl 0, .inr (some (.inl 27)), .inr (some (.inl 28)), .inr (some (.inl 29)), .inr (some (.inl 30)), .inr (some (.inl 31)), .inl 0]), .inl (0, 130, mnow), .inl (0, 130, (fun _ => 0)), .inl (0, 130, (fun _ => 0)), .inl (0, 8, z), .inl (0, 48, (fun _ => 0)), .inl (0, 48, (fun _ => 0)), .inl (2, 384, (fun _ => 0)), .inl (2, 384, (fun _ => 0)), .inl (1, 260, (fun _ => 0)), .inl (0, 260, (fun _ => 0)), .inl (0, 260, (fun _ => 0)), .inl (0, 16, (fun _ => 0)), .inl (0, 16, (fun _ => 0)), .inl (0, 16, (fun _ => 0)), .inl (0, 16, (fun _ => 0)), .inl (0, 260, (fun _ => 0)), .inl (0, 16, (fun _ => 0)), .inl (0, 16, (fun _ => 0)), .inl (0, 16, (fun _ => 0)), .inl (0, 16, (fun _ => 0)), .inl (0, 260, (fun _ => 0)), .inl (0, 9, (fun _ => 0)), .inl (0, 48, (fun _ => 0)), .inl (0, 2, (fun _ => 0)), .inl (0, 2, (fun _ => 0)), .inl (0, 2, (fun _ => 0)), .inl (0, 48, (fun _ => 0)), .inl (2, 384, (fun _ => 0)), .inl (0, 9, (fun _ => 0)), .inl (0, 601, (fun _ => 0)), .inl (0, 6, (fun _ => 0))] : PH)) (fillK_s (fun _ => 0) (-1) i)
