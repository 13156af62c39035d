/-- how many of the first i are x -/
def cntK (f : Nat → Int32) (x : Int32) : Nat → Int32
  | 0 => 0
  | i + 1 => f_add (cntK f x i) (if f i = x then 1 else 0)
theorem cntK_t {f : Nat → Int32} {x : Int32} {i : Nat} (h : f i = x) : cntK f x (i + 1) = f_add (cntK f x i) 1 := by
  show f_add _ (if f i = x then 1 else 0) = _
  rw [if_pos h]
theorem cntK_f {f : Nat → Int32} {x : Int32} {i : Nat} (h : ¬ f i = x) : cntK f x (i + 1) = f_add (cntK f x i) 0 := by
  show f_add _ (if f i = x then 1 else 0) = _
  rw [if_neg h]

theorem b012 {b : Int32} (h : 0 ≤ b ∧ b ≤ 2) : b = 0 ∨ b = 1 ∨ b = 2 := by
  have h1 := Int32.le_iff_toInt_le.mp h.1
  have h2 := Int32.le_iff_toInt_le.mp h.2
  rw [Int32.toInt_zero] at h1
  have h3 : (2 : Int32).toInt = 2 := by decide
  have h4 : (1 : Int32).toInt = 1 := by decide
  have h5 : b.toInt = 0 ∨ b.toInt = 1 ∨ b.toInt = 2 := by omega
  rcases h5 with h | h | h
  · exact Or.inl (Int32.toInt_inj.mp (by rw [h]; rfl))
  · exact Or.inr (Or.inl (Int32.toInt_inj.mp (by rw [h]; rfl)))
  · exact Or.inr (Or.inr (Int32.toInt_inj.mp (by rw [h]; rfl)))

set_option maxRecDepth 100000 in
theorem f_X11_canBeTried' {l : Launch} {HS_tape HS_kept HS_trial HS_clerk HS_crew HS_riddles HS_sheetReader HS_postReader HS_lawReader HS_seen HS_rules HS_spareRules : List (Option Nat)} {a : Int32}  : MetP l 2 yX11_canBeTried cX11_canBeTried 2 (some .boolean) 0 0 [.inr (some (.inl 0)), .inl a] [.inr (10, [.inr (some (.inr HS_tape)), .inr (some (.inl 6)), .inr (some (.inl 1)), .inr (some (.inr HS_kept)), .inr (some (.inr HS_trial)), .inr (some (.inr HS_clerk)), .inr (some (.inr HS_crew)), .inr (some (.inr HS_riddles)), .inr (some (.inr HS_sheetReader)), .inr (some (.inr HS_postReader)), .inr (some (.inr HS_lawReader)), .inr (some (.inr HS_seen)), .inr (some (.inr HS_rules)), .inr (some (.inr HS_spareRules)), .inl 0]), .inr (4, [.inr (some (.inl 2)), .inr (some (.inl 3)), .inr (some (.inl 4)), .inr (some (.inl 5)), .inl 0, .inl 0, .inl 0, .inl 1]), .inl (0, 8, (fun _ => 0)), .inl (0, 8, (fun _ => 0)), .inl (0, 48, (fillK (fun _ => 0) (-2) 48)), .inl (0, 48, (fun _ => 0)), .inr (6, [.inr (some (.inl 7)), .inr (some (.inl 8)), .inr (some (.inl 9)), .inr (some (.inl 10)), .inr (some (.inl 11)), .inl 0, .inl 0, .inl 0]), .inl (0, 8, (fun _ => 0)), .inl (0, 8, (fun _ => 0)), .inl (2, 384, (fun _ => 0)), .inl (0, 48, (fun _ => 0)), .inl (0, 48, (fun _ => 0))] (fun r h' => r = some (.inl (bI (0 ≤ a ∧ a ≤ 2))) ∧ h' = [.inr (10, [.inr (some (.inr HS_tape)), .inr (some (.inl 6)), .inr (some (.inl 1)), .inr (some (.inr HS_kept)), .inr (some (.inr HS_trial)), .inr (some (.inr HS_clerk)), .inr (some (.inr HS_crew)), .inr (some (.inr HS_riddles)), .inr (some (.inr HS_sheetReader)), .inr (some (.inr HS_postReader)), .inr (some (.inr HS_lawReader)), .inr (some (.inr HS_seen)), .inr (some (.inr HS_rules)), .inr (some (.inr HS_spareRules)), .inl 0]), .inr (4, [.inr (some (.inl 2)), .inr (some (.inl 3)), .inr (some (.inl 4)), .inr (some (.inl 5)), .inl 0, .inl 0, .inl 0, .inl 1]), .inl (0, 8, (fun _ => 0)), .inl (0, 8, (fun _ => 0)), .inl (0, 48, (fillK (fun _ => 0) (-2) 48)), .inl (0, 48, (fun _ => 0)), .inr (6, [.inr (some (.inl 7)), .inr (some (.inl 8)), .inr (some (.inl 9)), .inr (some (.inl 10)), .inr (some (.inl 11)), .inl 0, .inl 0, .inl 0]), .inl (0, 8, (fun _ => 0)), .inl (0, 8, (fun _ => 0)), .inl (2, 384, (fun _ => 0)), .inl (0, 48, (fun _ => 0)), .inl (0, 48, (fun _ => 0))]) := by
  refine m_X11_canBeTried (Nat.le_of_ble_eq_true rfl) ?_
  refine call0 (c_within) rfl rfl ?_
  rintro r h' ⟨rfl, rfl⟩
  refine br_b (fun h1 => ?_) (fun h1 => ?_)
  · refine call0 c_within rfl rfl ?_
    rintro r h' ⟨rfl, rfl⟩
    refine br_b (fun h2 => ?_) (fun h2 => ?_)
    · refine call0 c_within rfl rfl ?_
      rintro r h' ⟨rfl, rfl⟩
      refine br_b (fun h3 => ?_) (fun h3 => And.intro (Or.inr rfl) (And.intro (by rw [bI_t h3]) rfl))
      refine call0 c_X7_stamps rfl rfl ?_
      rintro r h' ⟨rfl, rfl⟩
      refine call0 c_within rfl rfl ?_
      rintro r h' ⟨rfl, rfl⟩
      refine br_b (fun h4 => And.intro (Or.inl rfl) (And.intro (by rw [bI_f h3]) rfl)) (fun h4 => ?_)
      exact absurd (Int32.le_trans h4.1 h4.2) (by decide)
    · refine call0 c_X4_isTold rfl rfl ?_
      rintro r h' ⟨rfl, rfl⟩
      exact And.intro (Or.inl (bI_f no_told)) (And.intro (by rw [bI_f no_told, bI_f (fun z => absurd (Int32.le_trans h2.1 z.2) (by decide))]) rfl)
  · refine call0 c_X4_isTold rfl rfl ?_
    rintro r h' ⟨rfl, rfl⟩
    exact And.intro (Or.inl (bI_f no_told)) (And.intro (by rw [bI_f no_told, bI_f (fun z => absurd (Int32.le_trans h1.1 z.2) (by decide))]) rfl)

set_option maxRecDepth 100000 in
theorem f_X11_tried {l : Launch} {HS_tape HS_kept HS_crew HS_riddles HS_sheetReader HS_postReader HS_lawReader HS_seen HS_spareRules : List (Option Nat)} {a b : Int32}  : MetP l 7 yX11_tried cX11_tried 4 (some .int) 0 0 [.inr (some (.inl 0)), .inl a, .inl b] [.inr (10, [.inr (some (.inr HS_tape)), .inr (some (.inl 4)), .inr (some (.inl 17)), .inr (some (.inr HS_kept)), .inr (some (.inl 22)), .inr (some (.inl 1)), .inr (some (.inr HS_crew)), .inr (some (.inr HS_riddles)), .inr (some (.inr HS_sheetReader)), .inr (some (.inr HS_postReader)), .inr (some (.inr HS_lawReader)), .inr (some (.inr HS_seen)), .inr (some (.inl 10)), .inr (some (.inr HS_spareRules)), .inl 0]), .inr (0, [.inr (some (.inl 4)), .inr (some (.inl 2)), .inr (some (.inl 3)), .inl 0, .inl 0, .inl 0]), .inl (0, 9, (fun _ => 0)), .inl (0, 48, (fun _ => 0)), .inr (6, [.inr (some (.inl 5)), .inr (some (.inl 6)), .inr (some (.inl 7)), .inr (some (.inl 8)), .inr (some (.inl 9)), .inl 0, .inl 0, .inl 0]), .inl (0, 8, (fun _ => 0)), .inl (0, 8, (fun _ => 0)), .inl (2, 384, (fun _ => 0)), .inl (0, 48, (fun _ => 0)), .inl (0, 48, (fun _ => 0)), .inr (2, [.inr (some (.inl 11)), .inr (some (.inl 12)), .inr (some (.inl 13)), .inr (some (.inl 14)), .inr (some (.inl 15)), .inr (some (.inl 16)), .inl 0, .inl 0, .inl 0, .inl 0]), .inl (0, 16, (fun _ => 0)), .inl (0, 16, (fun _ => 0)), .inl (0, 16, (fun _ => 0)), .inl (0, 280, (fun _ => 0)), .inl (0, 280, (fun _ => 0)), .inl (0, 24, (fun _ => 0)), .inr (4, [.inr (some (.inl 18)), .inr (some (.inl 19)), .inr (some (.inl 20)), .inr (some (.inl 21)), .inl 0, .inl 0, .inl 0, .inl 1]), .inl (0, 8, (fun _ => 0)), .inl (0, 8, (fun _ => 0)), .inl (0, 48, (fillK (fun _ => 0) (-2) 48)), .inl (0, 48, (fun _ => 0)), .inr (4, [.inr (some (.inl 23)), .inr (some (.inl 24)), .inr (some (.inl 25)), .inr (some (.inl 26)), .inl 0, .inl 0, .inl 0, .inl 1]), .inl (0, 8, (fun _ => 0)), .inl (0, 8, (fun _ => 0)), .inl (0, 48, (fillK (fun _ => 0) (-2) 48)), .inl (0, 48, (fun _ => 0))] (fun r h' => r = some (.inl (bI ((1 ≤ a ∧ a ≤ 100) ∧ (0 ≤ b ∧ b ≤ 2)) - 1)) ∧ h'.length = 27) := by
  refine m_X11_tried (Nat.le_of_ble_eq_true rfl) ?_
  refine call0 (c_within) rfl rfl ?_
  rintro r h' ⟨rfl, rfl⟩
  refine br_b (fun h1 => And.intro (by rw [bI_f (fun z => h1 z.1)]; rfl) rfl) (fun h1 => ?_)
  refine call0 (f_X11_canBeTried' (a := b)) rfl rfl ?_
  rintro r h' ⟨rfl, rfl⟩
  refine br_b (fun h2 => And.intro (by rw [bI_f (fun z => h2 z.2)]; rfl) rfl) (fun h2 => ?_)
  obtain ⟨n, hn, rfl⟩ := nI_of100 h1
  refine call0 c_X4_copyFrom rfl rfl ?_
  rintro r h' ⟨rfl, rfl⟩
  refine call0 (f_X0_passDays (k := 0) (by omega)) rfl rfl ?_
  rintro r h' ⟨rfl, rfl⟩
  rw [bI_t ⟨h1, h2⟩]
  refine And.intro (fun h3 => And.intro rfl rfl) (fun h3 => ?_)
  refine And.intro (fun h4 => ?_) (fun h4 => ?_)
  · refine call0 c_X0_fallen rfl rfl ?_
    rintro r h' ⟨rfl, rfl⟩
    exact And.intro rfl rfl
  refine And.intro (fun h5 => ?_) (fun h5 => ?_)
  · refine call0 c_X4_walledBits rfl rfl ?_
    rintro r h' ⟨rfl, rfl⟩
    exact And.intro rfl rfl
  · exact absurd (b012 h2) (fun z => by
      rcases z with z | z | z
      · exact h3 z
      · exact h4 z
      · exact h5 z)

set_option maxRecDepth 100000 in
theorem f_X11_lying {l : Launch} {HS_tape HS_republic HS_kept HS_trial HS_clerk HS_crew HS_riddles HS_sheetReader HS_postReader HS_lawReader HS_seen HS_rules HS_spareRules : List (Option Nat)} {a : Int32}  : MetP l 2 yX11_lying cX11_lying 4 (some .int) 0 0 [.inr (some (.inl 0)), .inl a] [.inr (10, [.inr (some (.inr HS_tape)), .inr (some (.inr HS_republic)), .inr (some (.inl 1)), .inr (some (.inr HS_kept)), .inr (some (.inr HS_trial)), .inr (some (.inr HS_clerk)), .inr (some (.inr HS_crew)), .inr (some (.inr HS_riddles)), .inr (some (.inr HS_sheetReader)), .inr (some (.inr HS_postReader)), .inr (some (.inr HS_lawReader)), .inr (some (.inr HS_seen)), .inr (some (.inr HS_rules)), .inr (some (.inr HS_spareRules)), .inl 0]), .inr (4, [.inr (some (.inl 2)), .inr (some (.inl 3)), .inr (some (.inl 4)), .inr (some (.inl 5)), .inl 0, .inl 0, .inl 0, .inl 1]), .inl (0, 8, (fun _ => 0)), .inl (0, 8, (fun _ => 0)), .inl (0, 48, (fillK (fun _ => 0) (-2) 48)), .inl (0, 48, (fun _ => 0))] (fun r h' => r = some (.inl (bI (0 ≤ a ∧ a ≤ 383) - 1)) ∧ h'.length = 6) := by
  refine m_X11_lying (fun μ L st h => ∃ j : Nat, (0 ≤ a ∧ a ≤ 383) ∧ j ≤ 8 ∧ 8 - j = μ ∧ L = [some (.inr (some (.inl 0))), some (.inl a), some (.inl 0), some (.inl (nI j))] ∧ st = [] ∧ h = [.inr (10, [.inr (some (.inr HS_tape)), .inr (some (.inr HS_republic)), .inr (some (.inl 1)), .inr (some (.inr HS_kept)), .inr (some (.inr HS_trial)), .inr (some (.inr HS_clerk)), .inr (some (.inr HS_crew)), .inr (some (.inr HS_riddles)), .inr (some (.inr HS_sheetReader)), .inr (some (.inr HS_postReader)), .inr (some (.inr HS_lawReader)), .inr (some (.inr HS_seen)), .inr (some (.inr HS_rules)), .inr (some (.inr HS_spareRules)), .inl 0]), .inr (4, [.inr (some (.inl 2)), .inr (some (.inl 3)), .inr (some (.inl 4)), .inr (some (.inl 5)), .inl 0, .inl 0, .inl 0, .inl 1]), .inl (0, 8, (fun _ => 0)), .inl (0, 8, (fun _ => 0)), .inl (0, 48, (fillK (fun _ => 0) (-2) 48)), .inl (0, 48, (fun _ => 0))]) (Nat.le_of_ble_eq_true rfl) ?_ ?_
  · refine call0 (c_isPlace) rfl rfl ?_
    rintro r h' ⟨rfl, rfl⟩
    refine br_b (fun h1 => And.intro (by rw [bI_f h1]; rfl) rfl) (fun h1 => ?_)
    exact ⟨8, 0, h1, Nat.zero_le _, rfl, rfl, rfl, rfl⟩
  · rintro μ L st h ⟨j, h0, hj, rfl, rfl, rfl, rfl⟩
    refine And.intro (fun h1 => And.intro (by rw [bI_t h0]; rfl) rfl) (fun (h1 : ¬ (8 : Int32) ≤ nI j) => ?_)
    have h2 : j < 8 := Nat.not_le.mp fun z => h1 ((nI_leI (a := 8) (by omega) (by omega)).mpr z)
    refine call0 c_X4_isTold rfl rfl ?_
    rintro r h' ⟨rfl, rfl⟩
    refine br_b (fun _ => ?_) (fun h3 => absurd h3 no_told)
    exact ⟨8 - (j + 1), by omega, j + 1, h0, by omega, rfl, by rw [← nI_1 j], rfl, rfl⟩

set_option maxRecDepth 100000 in
theorem f_X11_stamped {l : Launch} {HS_now HS_kept HS_trial HS_clerk HS_riddles HS_sheetReader HS_postReader HS_lawReader HS_seen HS_rules HS_spareRules : List (Option Nat)} {a b c d e : Int32}  : MetP l 7 yX11_stamped cX11_stamped 6 (some .int) 0 0 [.inr (some (.inl 0)), .inl a, .inl b, .inl c, .inl d, .inl e] [.inr (10, [.inr (some (.inl 1)), .inr (some (.inl 5)), .inr (some (.inr HS_now)), .inr (some (.inr HS_kept)), .inr (some (.inr HS_trial)), .inr (some (.inr HS_clerk)), .inr (some (.inl 3)), .inr (some (.inr HS_riddles)), .inr (some (.inr HS_sheetReader)), .inr (some (.inr HS_postReader)), .inr (some (.inr HS_lawReader)), .inr (some (.inr HS_seen)), .inr (some (.inr HS_rules)), .inr (some (.inr HS_spareRules)), .inl 0]), .inr (9, [.inr (some (.inl 2)), .inl 0]), .inl (0, 260, (fun _ => 0)), .inr (1, [.inr (some (.inl 5)), .inr (some (.inl 4)), .inl 0, .inl 0, .inl 0]), .inl (0, 9, (fun _ => 0)), .inr (6, [.inr (some (.inl 6)), .inr (some (.inl 7)), .inr (some (.inl 8)), .inr (some (.inl 9)), .inr (some (.inl 10)), .inl 0, .inl 0, .inl 0]), .inl (0, 8, (fun _ => 0)), .inl (0, 8, (fun _ => 0)), .inl (2, 384, (fun _ => 0)), .inl (0, 48, (fun _ => 0)), .inl (0, 48, (fun _ => 0))] (fun r h' => r = some (.inl (-1)) ∧ h'.length = 11) := by
  refine m_X11_stamped (Nat.le_of_ble_eq_true rfl) ?_
  refine call0 (c_isPlace) rfl rfl ?_
  rintro r h' ⟨rfl, rfl⟩
  refine br_b (fun _ => And.intro rfl rfl) (fun h1 => ?_)
  refine call0 (c_isPlace) rfl rfl ?_
  rintro r h' ⟨rfl, rfl⟩
  refine br_b (fun _ => And.intro rfl rfl) (fun h1 => ?_)
  refine call0 (c_within) rfl rfl ?_
  rintro r h' ⟨rfl, rfl⟩
  refine br_b (fun _ => And.intro rfl rfl) (fun h1 => ?_)
  refine call0 (c_within) rfl rfl ?_
  rintro r h' ⟨rfl, rfl⟩
  refine br_b (fun _ => And.intro rfl rfl) (fun h1 => ?_)
  refine call0 (c_canGive) rfl rfl ?_
  rintro r h' ⟨rfl, rfl⟩
  exact br_b (fun _ => And.intro rfl rfl) (fun h1 => absurd h1 (cg_no (by decide)))

set_option maxRecDepth 100000 in
theorem f_X11_hang {l : Launch} {HS_now HS_kept HS_trial HS_clerk HS_riddles HS_sheetReader HS_postReader HS_lawReader HS_seen HS_rules HS_spareRules : List (Option Nat)} {a b c : Int32}  : MetP l 6 yX11_hang cX11_hang 4 (some .int) 0 0 [.inr (some (.inl 0)), .inl a, .inl b, .inl c] [.inr (10, [.inr (some (.inl 1)), .inr (some (.inl 5)), .inr (some (.inr HS_now)), .inr (some (.inr HS_kept)), .inr (some (.inr HS_trial)), .inr (some (.inr HS_clerk)), .inr (some (.inl 3)), .inr (some (.inr HS_riddles)), .inr (some (.inr HS_sheetReader)), .inr (some (.inr HS_postReader)), .inr (some (.inr HS_lawReader)), .inr (some (.inr HS_seen)), .inr (some (.inr HS_rules)), .inr (some (.inr HS_spareRules)), .inl 0]), .inr (9, [.inr (some (.inl 2)), .inl 0]), .inl (0, 260, (fun _ => 0)), .inr (1, [.inr (some (.inl 5)), .inr (some (.inl 4)), .inl 0, .inl 0, .inl 0]), .inl (0, 9, (fun _ => 0)), .inr (6, [.inr (some (.inl 6)), .inr (some (.inl 7)), .inr (some (.inl 8)), .inr (some (.inl 9)), .inr (some (.inl 10)), .inl 0, .inl 0, .inl 0]), .inl (0, 8, (fun _ => 0)), .inl (0, 8, (fun _ => 0)), .inl (2, 384, (fun _ => 0)), .inl (0, 48, (fun _ => 0)), .inl (0, 48, (fun _ => 0))] (fun r h' => r = some (.inl (-1)) ∧ h'.length = 11) := by
  refine m_X11_hang (Nat.le_of_ble_eq_true rfl) ?_
  refine call0 (c_isPlace) rfl rfl ?_
  rintro r h' ⟨rfl, rfl⟩
  refine br_b (fun _ => And.intro rfl rfl) (fun h1 => ?_)
  refine call0 (c_within) rfl rfl ?_
  rintro r h' ⟨rfl, rfl⟩
  refine br_b (fun _ => And.intro rfl rfl) (fun h1 => ?_)
  refine call0 (c_canGive) rfl rfl ?_
  rintro r h' ⟨rfl, rfl⟩
  exact br_b (fun _ => And.intro rfl rfl) (fun h1 => absurd h1 (cg_no (by decide)))

set_option maxRecDepth 100000 in
theorem f_X11_falseOnes {l : Launch} {HS_now HS_kept HS_trial HS_clerk HS_riddles HS_sheetReader HS_postReader HS_lawReader HS_seen HS_rules HS_spareRules : List (Option Nat)} {a b c d e : Int32}  : MetP l 6 yX11_falseOnes cX11_falseOnes 6 (some .int) 0 0 [.inr (some (.inl 0)), .inl a, .inl b, .inl c, .inl d, .inl e] [.inr (10, [.inr (some (.inl 1)), .inr (some (.inl 5)), .inr (some (.inr HS_now)), .inr (some (.inr HS_kept)), .inr (some (.inr HS_trial)), .inr (some (.inr HS_clerk)), .inr (some (.inl 3)), .inr (some (.inr HS_riddles)), .inr (some (.inr HS_sheetReader)), .inr (some (.inr HS_postReader)), .inr (some (.inr HS_lawReader)), .inr (some (.inr HS_seen)), .inr (some (.inr HS_rules)), .inr (some (.inr HS_spareRules)), .inl 0]), .inr (9, [.inr (some (.inl 2)), .inl 0]), .inl (0, 260, (fun _ => 0)), .inr (1, [.inr (some (.inl 5)), .inr (some (.inl 4)), .inl 0, .inl 0, .inl 0]), .inl (0, 9, (fun _ => 0)), .inr (6, [.inr (some (.inl 6)), .inr (some (.inl 7)), .inr (some (.inl 8)), .inr (some (.inl 9)), .inr (some (.inl 10)), .inl 0, .inl 0, .inl 0]), .inl (0, 8, (fun _ => 0)), .inl (0, 8, (fun _ => 0)), .inl (2, 384, (fun _ => 0)), .inl (0, 48, (fun _ => 0)), .inl (0, 48, (fun _ => 0))] (fun r h' => r = some (.inl (-1)) ∧ h'.length = 11) := by
  refine m_X11_falseOnes (Nat.le_of_ble_eq_true rfl) ?_
  refine call0 (c_isPlace) rfl rfl ?_
  rintro r h' ⟨rfl, rfl⟩
  refine br_b (fun _ => And.intro rfl rfl) (fun h1 => ?_)
  refine call0 (c_within) rfl rfl ?_
  rintro r h' ⟨rfl, rfl⟩
  refine br_b (fun _ => And.intro rfl rfl) (fun h1 => ?_)
  refine call0 (c_within) rfl rfl ?_
  rintro r h' ⟨rfl, rfl⟩
  refine br_b (fun _ => And.intro rfl rfl) (fun h1 => ?_)
  refine call0 (c_within) rfl rfl ?_
  rintro r h' ⟨rfl, rfl⟩
  refine br_b (fun _ => And.intro rfl rfl) (fun h1 => ?_)
  refine call0 (c_canGive) rfl rfl ?_
  rintro r h' ⟨rfl, rfl⟩
  exact br_b (fun _ => And.intro rfl rfl) (fun h1 => absurd h1 (cg_no (by decide)))

set_option maxRecDepth 100000 in
theorem f_X11_printed {l : Launch} {HS_now HS_kept HS_trial HS_clerk HS_crew HS_riddles HS_sheetReader HS_postReader HS_lawReader HS_seen HS_rules HS_spareRules : List (Option Nat)} {a : Int32}  : MetP l 3 yX11_printed cX11_printed 4 (some .int) 0 0 [.inr (some (.inl 0)), .inl a] [.inr (10, [.inr (some (.inl 1)), .inr (some (.inl 3)), .inr (some (.inr HS_now)), .inr (some (.inr HS_kept)), .inr (some (.inr HS_trial)), .inr (some (.inr HS_clerk)), .inr (some (.inr HS_crew)), .inr (some (.inr HS_riddles)), .inr (some (.inr HS_sheetReader)), .inr (some (.inr HS_postReader)), .inr (some (.inr HS_lawReader)), .inr (some (.inr HS_seen)), .inr (some (.inr HS_rules)), .inr (some (.inr HS_spareRules)), .inl 0]), .inr (9, [.inr (some (.inl 2)), .inl 0]), .inl (0, 260, (fun _ => 0)), .inr (6, [.inr (some (.inl 4)), .inr (some (.inl 5)), .inr (some (.inl 6)), .inr (some (.inl 7)), .inr (some (.inl 8)), .inl 0, .inl 0, .inl 0]), .inl (0, 8, (fun _ => 0)), .inl (0, 8, (fun _ => 0)), .inl (2, 384, (fun _ => 0)), .inl (0, 48, (fun _ => 0)), .inl (0, 48, (fun _ => 0))] (fun r h' => r = some (.inl (-1)) ∧ h'.length = 9) := by
  refine m_X11_printed (fun _ _ _ _ => False) (Nat.le_of_ble_eq_true rfl) ?_ (fun _ _ _ _ h => h.elim)
  refine call0 (c_within) rfl rfl ?_
  rintro r h' ⟨rfl, rfl⟩
  refine br_b (fun _ => And.intro rfl rfl) (fun h1 => ?_)
  refine call0 (c_canGive) rfl rfl ?_
  rintro r h' ⟨rfl, rfl⟩
  exact br_b (fun _ => And.intro rfl rfl) (fun h1 => absurd h1 (cg_no (by decide)))

set_option maxRecDepth 100000 in
theorem f_X11_ship {l : Launch} {HS_republic HS_now HS_kept HS_trial HS_clerk HS_crew HS_sheetReader HS_postReader HS_lawReader HS_seen HS_rules HS_spareRules : List (Option Nat)} {a b : Int32}  : MetP l 4 yX11_ship cX11_ship 3 (some .int) 0 0 [.inr (some (.inl 0)), .inl a, .inl b] [.inr (10, [.inr (some (.inl 1)), .inr (some (.inr HS_republic)), .inr (some (.inr HS_now)), .inr (some (.inr HS_kept)), .inr (some (.inr HS_trial)), .inr (some (.inr HS_clerk)), .inr (some (.inr HS_crew)), .inr (some (.inl 3)), .inr (some (.inr HS_sheetReader)), .inr (some (.inr HS_postReader)), .inr (some (.inr HS_lawReader)), .inr (some (.inr HS_seen)), .inr (some (.inr HS_rules)), .inr (some (.inr HS_spareRules)), .inl 0]), .inr (9, [.inr (some (.inl 2)), .inl 0]), .inl (0, 260, (fun _ => 0)), .inr (7, [.inr (some (.inl 1)), .inr (some (.inl 4)), .inr (some (.inl 5)), .inl 0, .inl 0]), .inl (0, 601, (fun _ => 0)), .inl (0, 6, (fun _ => 0))] (fun r h' => r = some (.inl (-1)) ∧ h'.length = 6) := by
  refine m_X11_ship (Nat.le_of_ble_eq_true rfl) ?_
  refine call0 (c_within) rfl rfl ?_
  rintro r h' ⟨rfl, rfl⟩
  refine br_b (fun _ => And.intro rfl rfl) (fun h1 => ?_)
  refine call0 (c_canGive) rfl rfl ?_
  rintro r h' ⟨rfl, rfl⟩
  exact br_b (fun _ => And.intro rfl rfl) (fun h1 => absurd h1 (cg_no (by decide)))

set_option maxRecDepth 100000 in
theorem f_X11_mule {l : Launch} {HS_republic HS_now HS_kept HS_trial HS_clerk HS_crew HS_sheetReader HS_postReader HS_lawReader HS_seen HS_rules HS_spareRules : List (Option Nat)} {a b c : Int32}  : MetP l 4 yX11_mule cX11_mule 5 (some .int) 0 0 [.inr (some (.inl 0)), .inl a, .inl b, .inl c] [.inr (10, [.inr (some (.inl 1)), .inr (some (.inr HS_republic)), .inr (some (.inr HS_now)), .inr (some (.inr HS_kept)), .inr (some (.inr HS_trial)), .inr (some (.inr HS_clerk)), .inr (some (.inr HS_crew)), .inr (some (.inl 3)), .inr (some (.inr HS_sheetReader)), .inr (some (.inr HS_postReader)), .inr (some (.inr HS_lawReader)), .inr (some (.inr HS_seen)), .inr (some (.inr HS_rules)), .inr (some (.inr HS_spareRules)), .inl 0]), .inr (9, [.inr (some (.inl 2)), .inl 0]), .inl (0, 260, (fun _ => 0)), .inr (7, [.inr (some (.inl 1)), .inr (some (.inl 4)), .inr (some (.inl 5)), .inl 0, .inl 0]), .inl (0, 601, (fun _ => 0)), .inl (0, 6, (fun _ => 0))] (fun r h' => r = some (.inl (-1)) ∧ h'.length = 6) := by
  refine m_X11_mule (Nat.le_of_ble_eq_true rfl) ?_
  refine call0 (c_within) rfl rfl ?_
  rintro r h' ⟨rfl, rfl⟩
  refine br_b (fun _ => And.intro rfl rfl) (fun h1 => ?_)
  refine call0 (c_within) rfl rfl ?_
  rintro r h' ⟨rfl, rfl⟩
  refine br_b (fun _ => And.intro rfl rfl) (fun h1 => ?_)
  refine call0 (c_canGive) rfl rfl ?_
  rintro r h' ⟨rfl, rfl⟩
  exact br_b (fun _ => And.intro rfl rfl) (fun h1 => absurd h1 (cg_no (by decide)))

set_option maxRecDepth 100000 in
theorem f_X11_marks {l : Launch} {HS_republic HS_now HS_kept HS_trial HS_clerk HS_crew HS_sheetReader HS_postReader HS_lawReader HS_seen HS_rules HS_spareRules : List (Option Nat)} {a b : Int32}  : MetP l 3 yX11_marks cX11_marks 4 (some .int) 0 0 [.inr (some (.inl 0)), .inl a, .inl b] [.inr (10, [.inr (some (.inl 1)), .inr (some (.inr HS_republic)), .inr (some (.inr HS_now)), .inr (some (.inr HS_kept)), .inr (some (.inr HS_trial)), .inr (some (.inr HS_clerk)), .inr (some (.inr HS_crew)), .inr (some (.inl 3)), .inr (some (.inr HS_sheetReader)), .inr (some (.inr HS_postReader)), .inr (some (.inr HS_lawReader)), .inr (some (.inr HS_seen)), .inr (some (.inr HS_rules)), .inr (some (.inr HS_spareRules)), .inl 0]), .inr (9, [.inr (some (.inl 2)), .inl 0]), .inl (0, 260, (fun _ => 0)), .inr (7, [.inr (some (.inl 1)), .inr (some (.inl 4)), .inr (some (.inl 5)), .inl 0, .inl 0]), .inl (0, 601, (fun _ => 0)), .inl (0, 6, (fun _ => 0))] (fun r h' => r = some (.inl (-1)) ∧ h'.length = 6) := by
  refine m_X11_marks (Nat.le_of_ble_eq_true rfl) ?_
  refine call0 (c_within) rfl rfl ?_
  rintro r h' ⟨rfl, rfl⟩
  refine br_b (fun _ => And.intro rfl rfl) (fun h1 => ?_)
  refine call0 (c_canGive) rfl rfl ?_
  rintro r h' ⟨rfl, rfl⟩
  exact br_b (fun _ => And.intro rfl rfl) (fun h1 => absurd h1 (cg_no (by decide)))

set_option maxRecDepth 100000 in
theorem f_X11_franked {l : Launch} {HS_republic HS_now HS_kept HS_trial HS_clerk HS_crew HS_sheetReader HS_postReader HS_lawReader HS_seen HS_rules HS_spareRules : List (Option Nat)} {a b : Int32}  : MetP l 3 yX11_franked cX11_franked 4 (some .int) 0 0 [.inr (some (.inl 0)), .inl a, .inl b] [.inr (10, [.inr (some (.inl 1)), .inr (some (.inr HS_republic)), .inr (some (.inr HS_now)), .inr (some (.inr HS_kept)), .inr (some (.inr HS_trial)), .inr (some (.inr HS_clerk)), .inr (some (.inr HS_crew)), .inr (some (.inl 3)), .inr (some (.inr HS_sheetReader)), .inr (some (.inr HS_postReader)), .inr (some (.inr HS_lawReader)), .inr (some (.inr HS_seen)), .inr (some (.inr HS_rules)), .inr (some (.inr HS_spareRules)), .inl 0]), .inr (9, [.inr (some (.inl 2)), .inl 0]), .inl (0, 260, (fun _ => 0)), .inr (7, [.inr (some (.inl 1)), .inr (some (.inl 4)), .inr (some (.inl 5)), .inl 0, .inl 0]), .inl (0, 601, (fun _ => 0)), .inl (0, 6, (fun _ => 0))] (fun r h' => r = some (.inl (-1)) ∧ h'.length = 6) := by
  refine m_X11_franked (Nat.le_of_ble_eq_true rfl) ?_
  refine call0 (c_within) rfl rfl ?_
  rintro r h' ⟨rfl, rfl⟩
  refine br_b (fun _ => And.intro rfl rfl) (fun h1 => ?_)
  refine call0 (c_canGive) rfl rfl ?_
  rintro r h' ⟨rfl, rfl⟩
  exact br_b (fun _ => And.intro rfl rfl) (fun h1 => absurd h1 (cg_no (by decide)))

set_option maxRecDepth 100000 in
theorem f_X11_exchange {l : Launch} {HS_republic HS_now HS_kept HS_trial HS_clerk HS_crew HS_sheetReader HS_postReader HS_lawReader HS_seen HS_rules HS_spareRules : List (Option Nat)} {a b : Int32}  : MetP l 5 yX11_exchange cX11_exchange 4 (some .int) 0 0 [.inr (some (.inl 0)), .inl a, .inl b] [.inr (10, [.inr (some (.inl 1)), .inr (some (.inr HS_republic)), .inr (some (.inr HS_now)), .inr (some (.inr HS_kept)), .inr (some (.inr HS_trial)), .inr (some (.inr HS_clerk)), .inr (some (.inr HS_crew)), .inr (some (.inl 3)), .inr (some (.inr HS_sheetReader)), .inr (some (.inr HS_postReader)), .inr (some (.inr HS_lawReader)), .inr (some (.inr HS_seen)), .inr (some (.inr HS_rules)), .inr (some (.inr HS_spareRules)), .inl 0]), .inr (9, [.inr (some (.inl 2)), .inl 0]), .inl (0, 260, (fun _ => 0)), .inr (7, [.inr (some (.inl 1)), .inr (some (.inl 4)), .inr (some (.inl 5)), .inl 0, .inl 0]), .inl (0, 601, (fun _ => 0)), .inl (0, 6, (fun _ => 0))] (fun r h' => r = some (.inl (-1)) ∧ h'.length = 6) := by
  refine m_X11_exchange (Nat.le_of_ble_eq_true rfl) ?_
  refine call0 (c_within) rfl rfl ?_
  rintro r h' ⟨rfl, rfl⟩
  refine br_b (fun _ => And.intro rfl rfl) (fun h1 => ?_)
  refine call0 (c_within) rfl rfl ?_
  rintro r h' ⟨rfl, rfl⟩
  refine br_b (fun _ => And.intro rfl rfl) (fun h1 => ?_)
  refine call0 (c_canGive) rfl rfl ?_
  rintro r h' ⟨rfl, rfl⟩
  exact br_b (fun _ => And.intro rfl rfl) (fun h1 => absurd h1 (cg_no (by decide)))

set_option maxRecDepth 100000 in
theorem f_X11_seed {l : Launch} {HS_tape HS_republic HS_kept HS_trial HS_clerk HS_crew HS_riddles HS_sheetReader HS_postReader HS_lawReader HS_seen HS_rules HS_spareRules : List (Option Nat)} {a : Int32}  : MetP l 1 yX11_seed cX11_seed 2 (some .boolean) 0 0 [.inr (some (.inl 0)), .inl a] [.inr (10, [.inr (some (.inr HS_tape)), .inr (some (.inr HS_republic)), .inr (some (.inl 1)), .inr (some (.inr HS_kept)), .inr (some (.inr HS_trial)), .inr (some (.inr HS_clerk)), .inr (some (.inr HS_crew)), .inr (some (.inr HS_riddles)), .inr (some (.inr HS_sheetReader)), .inr (some (.inr HS_postReader)), .inr (some (.inr HS_lawReader)), .inr (some (.inr HS_seen)), .inr (some (.inr HS_rules)), .inr (some (.inr HS_spareRules)), .inl 0]), .inr (4, [.inr (some (.inl 2)), .inr (some (.inl 3)), .inr (some (.inl 4)), .inr (some (.inl 5)), .inl 0, .inl 0, .inl 0, .inl 1]), .inl (0, 8, (fun _ => 0)), .inl (0, 8, (fun _ => 0)), .inl (0, 48, (fillK (fun _ => 0) (-2) 48)), .inl (0, 48, (fun _ => 0))] (fun r h' => r = some (.inl (bI (0 ≤ a ∧ a ≤ 65535))) ∧ h'.length = 6) := by
  refine m_X11_seed (Nat.le_of_ble_eq_true rfl) ?_
  refine call0 (c_within) rfl rfl ?_
  rintro r h' ⟨rfl, rfl⟩
  refine br_b (fun h1 => And.intro (Or.inl rfl) (And.intro (by rw [bI_f h1]) rfl)) (fun h1 => ?_)
  refine call0 c_X4_seedWith rfl rfl ?_
  rintro r h' ⟨rfl, rfl⟩
  exact And.intro (Or.inr rfl) (And.intro (by rw [bI_t h1]) rfl)

set_option maxRecDepth 100000 in
theorem f_X11_keep {l : Launch} {HS_tape HS_republic HS_trial HS_clerk HS_crew HS_riddles HS_sheetReader HS_postReader HS_lawReader HS_seen HS_rules HS_spareRules : List (Option Nat)}  : MetP l 2 yX11_keep cX11_keep 1 (some .int) 0 0 [.inr (some (.inl 0))] [.inr (10, [.inr (some (.inr HS_tape)), .inr (some (.inr HS_republic)), .inr (some (.inl 1)), .inr (some (.inl 6)), .inr (some (.inr HS_trial)), .inr (some (.inr HS_clerk)), .inr (some (.inr HS_crew)), .inr (some (.inr HS_riddles)), .inr (some (.inr HS_sheetReader)), .inr (some (.inr HS_postReader)), .inr (some (.inr HS_lawReader)), .inr (some (.inr HS_seen)), .inr (some (.inr HS_rules)), .inr (some (.inr HS_spareRules)), .inl 0]), .inr (4, [.inr (some (.inl 2)), .inr (some (.inl 3)), .inr (some (.inl 4)), .inr (some (.inl 5)), .inl 0, .inl 0, .inl 0, .inl 1]), .inl (0, 8, (fun _ => 0)), .inl (0, 8, (fun _ => 0)), .inl (0, 48, (fillK (fun _ => 0) (-2) 48)), .inl (0, 48, (fun _ => 0)), .inr (4, [.inr (some (.inl 7)), .inr (some (.inl 8)), .inr (some (.inl 9)), .inr (some (.inl 10)), .inl 0, .inl 0, .inl 0, .inl 1]), .inl (0, 8, (fun _ => 0)), .inl (0, 8, (fun _ => 0)), .inl (0, 48, (fillK (fun _ => 0) (-2) 48)), .inl (0, 48, (fun _ => 0))] (fun r h' => r = some (.inl (0)) ∧ h'.length = 11) := by
  refine m_X11_keep (Nat.le_of_ble_eq_true rfl) ?_
  refine call0 (c_X4_copyFrom) rfl rfl ?_
  rintro r h' ⟨rfl, rfl⟩
  refine And.intro (Or.inr rfl) ?_
  refine call0 (c_X4_day) rfl rfl ?_
  rintro r h' ⟨rfl, rfl⟩
  exact ⟨rfl, rfl⟩

set_option maxRecDepth 100000 in
theorem f_X11_undo {l : Launch} {HS_tape HS_trial HS_clerk HS_crew HS_riddles HS_sheetReader HS_postReader HS_lawReader HS_seen HS_rules HS_spareRules : List (Option Nat)}  : MetP l 2 yX11_undo cX11_undo 1 (some .boolean) 0 0 [.inr (some (.inl 0))] [.inr (10, [.inr (some (.inr HS_tape)), .inr (some (.inl 11)), .inr (some (.inl 1)), .inr (some (.inl 6)), .inr (some (.inr HS_trial)), .inr (some (.inr HS_clerk)), .inr (some (.inr HS_crew)), .inr (some (.inr HS_riddles)), .inr (some (.inr HS_sheetReader)), .inr (some (.inr HS_postReader)), .inr (some (.inr HS_lawReader)), .inr (some (.inr HS_seen)), .inr (some (.inr HS_rules)), .inr (some (.inr HS_spareRules)), .inl 0]), .inr (4, [.inr (some (.inl 2)), .inr (some (.inl 3)), .inr (some (.inl 4)), .inr (some (.inl 5)), .inl 0, .inl 0, .inl 0, .inl 1]), .inl (0, 8, (fun _ => 0)), .inl (0, 8, (fun _ => 0)), .inl (0, 48, (fillK (fun _ => 0) (-2) 48)), .inl (0, 48, (fun _ => 0)), .inr (4, [.inr (some (.inl 7)), .inr (some (.inl 8)), .inr (some (.inl 9)), .inr (some (.inl 10)), .inl 0, .inl 0, .inl 0, .inl 1]), .inl (0, 8, (fun _ => 0)), .inl (0, 8, (fun _ => 0)), .inl (0, 48, (fillK (fun _ => 0) (-2) 48)), .inl (0, 48, (fun _ => 0)), .inr (6, [.inr (some (.inl 12)), .inr (some (.inl 13)), .inr (some (.inl 14)), .inr (some (.inl 15)), .inr (some (.inl 16)), .inl 0, .inl 0, .inl 0]), .inl (0, 8, (fun _ => 0)), .inl (0, 8, (fun _ => 0)), .inl (2, 384, (fun _ => 0)), .inl (0, 48, (fun _ => 0)), .inl (0, 48, (fun _ => 0))] (fun r h' => r = some (.inl (0)) ∧ h'.length = 17) := by
  refine m_X11_undo (Nat.le_of_ble_eq_true rfl) ?_
  exact And.intro (fun _ => And.intro (Or.inl rfl) (And.intro rfl rfl)) (fun h => absurd rfl h)

theorem le0 {n : Int32} (h : (0 ≤ n ∧ n ≤ 8) ∧ n ≤ 0) : n = 0 := by
  have h1 := Int32.le_iff_toInt_le.mp h.1.1
  have h2 := Int32.le_iff_toInt_le.mp h.2
  exact Int32.toInt_inj.mp (by omega)

set_option maxRecDepth 100000 in
theorem f_X11_check {l : Launch} {HS_republic HS_kept HS_trial HS_clerk HS_crew HS_riddles HS_sheetReader HS_postReader HS_lawReader HS_seen HS_rules HS_spareRules : List (Option Nat)} {a : Int32}  : MetP l 2 yX11_check cX11_check 5 (some .int) 0 0 [.inr (some (.inl 0)), .inl a] [.inr (10, [.inr (some (.inl 6)), .inr (some (.inr HS_republic)), .inr (some (.inl 1)), .inr (some (.inr HS_kept)), .inr (some (.inr HS_trial)), .inr (some (.inr HS_clerk)), .inr (some (.inr HS_crew)), .inr (some (.inr HS_riddles)), .inr (some (.inr HS_sheetReader)), .inr (some (.inr HS_postReader)), .inr (some (.inr HS_lawReader)), .inr (some (.inr HS_seen)), .inr (some (.inr HS_rules)), .inr (some (.inr HS_spareRules)), .inl 0]), .inr (4, [.inr (some (.inl 2)), .inr (some (.inl 3)), .inr (some (.inl 4)), .inr (some (.inl 5)), .inl 0, .inl 0, .inl 0, .inl 1]), .inl (0, 8, (fun _ => 0)), .inl (0, 8, (fun _ => 0)), .inl (0, 48, (fillK (fun _ => 0) (-2) 48)), .inl (0, 48, (fun _ => 0)), .inr (9, [.inr (some (.inl 7)), .inl 0]), .inl (0, 260, (fun _ => 0))] (fun r h' => r = some (.inl (bI (a = 0) - 2)) ∧ h'.length = 8) := by
  refine m_X11_check (fun μ L st h => a = 0 ∧ L = [some (.inr (some (.inl 0))), some (.inl a), some (.inl (-1)), some (.inl (-1)), none] ∧ st = [] ∧ h = [.inr (10, [.inr (some (.inl 6)), .inr (some (.inr HS_republic)), .inr (some (.inl 1)), .inr (some (.inr HS_kept)), .inr (some (.inr HS_trial)), .inr (some (.inr HS_clerk)), .inr (some (.inr HS_crew)), .inr (some (.inr HS_riddles)), .inr (some (.inr HS_sheetReader)), .inr (some (.inr HS_postReader)), .inr (some (.inr HS_lawReader)), .inr (some (.inr HS_seen)), .inr (some (.inr HS_rules)), .inr (some (.inr HS_spareRules)), .inl 0]), .inr (4, [.inr (some (.inl 2)), .inr (some (.inl 3)), .inr (some (.inl 4)), .inr (some (.inl 5)), .inl 0, .inl 0, .inl 0, .inl 1]), .inl (0, 8, (fun _ => 0)), .inl (0, 8, (fun _ => 0)), .inl (0, 48, (fillK (fun _ => 0) (-2) 48)), .inl (0, 48, (fun _ => 0)), .inr (9, [.inr (some (.inl 7)), .inl 0]), .inl (0, 260, (fun _ => 0))]) (Nat.le_of_ble_eq_true rfl) ?_ ?_
  · refine call0 (c_canGive) rfl rfl ?_
    rintro r h' ⟨rfl, rfl⟩
    refine br_b (fun h1 => And.intro (by rw [bI_f (fun z => h1 (by subst z; decide))]; rfl) rfl) (fun h1 => ?_)
    have h2 := le0 h1
    subst h2
    exact ⟨0, rfl, rfl, rfl, rfl⟩
  · rintro μ L st h ⟨rfl, rfl, rfl, rfl⟩
    refine And.intro (fun h1 => ?_) (fun (h1 : ¬ (-1 : Int32) < 0) => absurd (by decide) h1)
    refine call0 c_X10_empty rfl rfl ?_
    rintro r h' ⟨rfl, rfl⟩
    exact And.intro rfl rfl

set_option maxRecDepth 100000 in
theorem c_X4_stampsOn {l : Launch} {Let_told Let_walled Let_day Let_drawState : Int32} {Let_place Let_paste Let_letter Let_used : Nat → Int32} {x : Int32}  : MetP l 0 yX4_stampsOn cX4_stampsOn 4 (some .int) 0 0 [.inr (some (.inl 0)), .inl x] [.inr (4, [.inr (some (.inl 1)), .inr (some (.inl 2)), .inr (some (.inl 3)), .inr (some (.inl 4)), .inl Let_told, .inl Let_walled, .inl Let_day, .inl Let_drawState]), .inl (0, 8, Let_place), .inl (0, 8, Let_paste), .inl (0, 48, Let_letter), .inl (0, 48, Let_used)] (fun r h' => r = some (.inl (cntK Let_letter x 48)) ∧ h' = [.inr (4, [.inr (some (.inl 1)), .inr (some (.inl 2)), .inr (some (.inl 3)), .inr (some (.inl 4)), .inl Let_told, .inl Let_walled, .inl Let_day, .inl Let_drawState]), .inl (0, 8, Let_place), .inl (0, 8, Let_paste), .inl (0, 48, Let_letter), .inl (0, 48, Let_used)]) := by
  refine m_X4_stampsOn (fun μ L st h => ∃ i : Nat, i ≤ 48 ∧ 48 - i = μ ∧ L = [some (.inr (some (.inl 0))), some (.inl x), some (.inl (cntK Let_letter x i)), some (.inl (nI i))] ∧ st = [] ∧ h = [.inr (4, [.inr (some (.inl 1)), .inr (some (.inl 2)), .inr (some (.inl 3)), .inr (some (.inl 4)), .inl Let_told, .inl Let_walled, .inl Let_day, .inl Let_drawState]), .inl (0, 8, Let_place), .inl (0, 8, Let_paste), .inl (0, 48, Let_letter), .inl (0, 48, Let_used)]) (Nat.le_of_ble_eq_true rfl) ?_ ?_
  · exact ⟨48, 0, Nat.zero_le _, rfl, rfl, rfl, rfl⟩
  · rintro μ L st h ⟨i, hi, rfl, rfl, rfl, rfl⟩
    refine And.intro (fun (h1 : (48 : Int32) ≤ nI i) => ?_) (fun (h1 : ¬ (48 : Int32) ≤ nI i) => ?_)
    · have h2 := (nI_leI (a := 48) (by omega) (by omega)).mp h1
      have : i = 48 := by omega
      subst this
      exact ⟨rfl, rfl⟩
    · have h2 : i < 48 := Nat.not_le.mp fun z => h1 ((nI_leI (a := 48) (by omega) (by omega)).mpr z)
      refine And.intro (vp_in_nI h2 (by omega)) ?_
      rw [nI_clamp (by omega)]
      refine And.intro (fun (h3 : Let_letter i = x) => ?_) (fun (h3 : ¬ Let_letter i = x) => ?_)
      · exact ⟨48 - (i + 1), by omega, i + 1, by omega, rfl, by rw [← nI_1 i, cntK_t h3], rfl, rfl⟩
      · exact ⟨48 - (i + 1), by omega, i + 1, by omega, rfl, by rw [← nI_1 i, cntK_f h3], rfl, rfl⟩

set_option maxRecDepth 100000 in
theorem c_X4_stampsOnAll {l : Launch} {Let_told Let_walled Let_day Let_drawState : Int32} {Let_place Let_paste Let_letter Let_used : Nat → Int32}  : MetP l 1 yX4_stampsOnAll cX4_stampsOnAll 1 (some .int) 0 0 [.inr (some (.inl 0))] [.inr (4, [.inr (some (.inl 1)), .inr (some (.inl 2)), .inr (some (.inl 3)), .inr (some (.inl 4)), .inl Let_told, .inl Let_walled, .inl Let_day, .inl Let_drawState]), .inl (0, 8, Let_place), .inl (0, 8, Let_paste), .inl (0, 48, Let_letter), .inl (0, 48, Let_used)] (fun r h' => r = some (.inl (f_sub 48 (cntK Let_letter (-2) 48))) ∧ h' = [.inr (4, [.inr (some (.inl 1)), .inr (some (.inl 2)), .inr (some (.inl 3)), .inr (some (.inl 4)), .inl Let_told, .inl Let_walled, .inl Let_day, .inl Let_drawState]), .inl (0, 8, Let_place), .inl (0, 8, Let_paste), .inl (0, 48, Let_letter), .inl (0, 48, Let_used)]) := by
  refine m_X4_stampsOnAll (Nat.le_of_ble_eq_true rfl) ?_
  refine call0 (c_X4_stampsOn) rfl rfl ?_
  rintro r h' ⟨rfl, rfl⟩
  exact ⟨rfl, rfl⟩

/-- what count answers of a fresh object -/
def cntF (a : Int32) : Int32 := if a = 8 then 1 else if a = 0 ∨ a = 1 ∨ a = 2 ∨ a = 3 ∨ a = 4 ∨ a = 5 ∨ a = 6 ∨ a = 7 then 0 else -1
theorem cnt0 {a : Int32} (h : ¬ a = 8) : cntF a = if a = 0 ∨ a = 1 ∨ a = 2 ∨ a = 3 ∨ a = 4 ∨ a = 5 ∨ a = 6 ∨ a = 7 then 0 else -1 := if_neg h
theorem cnt1 {a : Int32} (h : ¬ a = 0 ∧ ¬ a = 1 ∧ ¬ a = 2 ∧ ¬ a = 3 ∧ ¬ a = 4 ∧ ¬ a = 5 ∧ ¬ a = 6 ∧ ¬ a = 7 ∧ ¬ a = 8) : (if a = 0 ∨ a = 1 ∨ a = 2 ∨ a = 3 ∨ a = 4 ∨ a = 5 ∨ a = 6 ∨ a = 7 then (0 : Int32) else -1) = -1 := by
  obtain ⟨h0, h1, h2, h3, h4, h5, h6, h7, h8⟩ := h
  simp [h0, h1, h2, h3, h4, h5, h6, h7]

set_option maxRecDepth 100000 in
theorem f_X11_count {l : Launch} {HS_kept HS_trial HS_clerk HS_crew HS_riddles HS_sheetReader HS_postReader HS_lawReader HS_seen HS_spareRules : List (Option Nat)} {a : Int32}  : MetP l 2 yX11_count cX11_count 2 (some .int) 0 0 [.inr (some (.inl 0)), .inl a] [.inr (10, [.inr (some (.inl 12)), .inr (some (.inl 6)), .inr (some (.inl 1)), .inr (some (.inr HS_kept)), .inr (some (.inr HS_trial)), .inr (some (.inr HS_clerk)), .inr (some (.inr HS_crew)), .inr (some (.inr HS_riddles)), .inr (some (.inr HS_sheetReader)), .inr (some (.inr HS_postReader)), .inr (some (.inr HS_lawReader)), .inr (some (.inr HS_seen)), .inr (some (.inl 14)), .inr (some (.inr HS_spareRules)), .inl 0]), .inr (4, [.inr (some (.inl 2)), .inr (some (.inl 3)), .inr (some (.inl 4)), .inr (some (.inl 5)), .inl 0, .inl 0, .inl 0, .inl 1]), .inl (0, 8, (fun _ => 0)), .inl (0, 8, (fun _ => 0)), .inl (0, 48, (fillK (fun _ => 0) (-2) 48)), .inl (0, 48, (fun _ => 0)), .inr (6, [.inr (some (.inl 7)), .inr (some (.inl 8)), .inr (some (.inl 9)), .inr (some (.inl 10)), .inr (some (.inl 11)), .inl 0, .inl 0, .inl 0]), .inl (0, 8, (fun _ => 0)), .inl (0, 8, (fun _ => 0)), .inl (2, 384, (fun _ => 0)), .inl (0, 48, (fun _ => 0)), .inl (0, 48, (fun _ => 0)), .inr (9, [.inr (some (.inl 13)), .inl 0]), .inl (0, 260, (fun _ => 0)), .inr (2, [.inr (some (.inl 15)), .inr (some (.inl 16)), .inr (some (.inl 17)), .inr (some (.inl 18)), .inr (some (.inl 19)), .inr (some (.inl 20)), .inl 0, .inl 0, .inl 0, .inl 0]), .inl (0, 16, (fun _ => 0)), .inl (0, 16, (fun _ => 0)), .inl (0, 16, (fun _ => 0)), .inl (0, 280, (fun _ => 0)), .inl (0, 280, (fun _ => 0)), .inl (0, 24, (fun _ => 0))] (fun r h' => r = some (.inl (cntF a)) ∧ h'.length = 21) := by
  refine m_X11_count (Nat.le_of_ble_eq_true rfl) ?_
  refine And.intro (fun h1 => ?_) (fun h2 => ?_)
  · subst h1
    refine call0 c_X4_day rfl rfl ?_
    rintro r h' ⟨rfl, rfl⟩
    exact And.intro (by decide +kernel) rfl
  refine And.intro (fun h1 => ?_) (fun h3 => ?_)
  · subst h1
    refine call0 c_X7_toldMints rfl rfl ?_
    rintro r h' ⟨rfl, rfl⟩
    exact And.intro (by decide +kernel) rfl
  refine And.intro (fun h1 => ?_) (fun h4 => ?_)
  · subst h1
    refine call0 c_X4_toldBits rfl rfl ?_
    rintro r h' ⟨rfl, rfl⟩
    exact And.intro (by decide +kernel) rfl
  refine And.intro (fun h1 => ?_) (fun h5 => ?_)
  · subst h1
    refine call0 c_X7_stamps rfl rfl ?_
    rintro r h' ⟨rfl, rfl⟩
    exact And.intro (by decide +kernel) rfl
  refine And.intro (fun h1 => ?_) (fun h6 => ?_)
  · subst h1
    refine call0 c_X4_stampsOnAll rfl rfl ?_
    rintro r h' ⟨rfl, rfl⟩
    exact And.intro (by decide +kernel) rfl
  refine And.intro (fun h1 => ?_) (fun h7 => ?_)
  · subst h1
    refine call0 c_X7_walls rfl rfl ?_
    rintro r h' ⟨rfl, rfl⟩
    exact And.intro (by decide +kernel) rfl
  refine And.intro (fun h1 => ?_) (fun h8 => ?_)
  · subst h1
    refine call0 c_X2_size rfl rfl ?_
    rintro r h' ⟨rfl, rfl⟩
    exact And.intro (by decide +kernel) rfl
  refine And.intro (fun h1 => ?_) (fun h9 => ?_)
  · subst h1
    refine call0 c_X10_size rfl rfl ?_
    rintro r h' ⟨rfl, rfl⟩
    exact And.intro (by decide +kernel) rfl
  refine And.intro (fun h1 => ?_) (fun h10 => ?_)
  · subst h1
    refine call0 c_X4_drawState rfl rfl ?_
    rintro r h' ⟨rfl, rfl⟩
    exact And.intro (by decide +kernel) rfl
  exact And.intro (by rw [cnt0 h10, cnt1 ⟨h2, h3, h4, h5, h6, h7, h8, h9, h10⟩]) rfl


