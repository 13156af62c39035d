theorem c_within {l : Launch} {v lo hi : Int32} : MetP l 0 yX11_within cX11_within 3 (some .boolean) 0 0 [.inl v, .inl lo, .inl hi] [] (fun r h' => r = some (.inl (bI (lo ≤ v ∧ v ≤ hi))) ∧ h' = []) := by
  refine m_X11_within (Nat.le_of_ble_eq_true rfl) ?_
  refine And.intro (fun (h1 : v < lo) => ?_) (fun (h1 : ¬ v < lo) => ?_)
  · exact And.intro (Or.inl rfl) (by rw [bI_f (fun z => absurd h1 (Int32.not_lt.mpr z.1))]; exact ⟨rfl, rfl⟩)
  · refine And.intro (fun (h2 : hi < v) => ?_) (fun (h2 : ¬ hi < v) => ?_)
    · exact And.intro (Or.inl rfl) (by rw [bI_f (fun z => absurd h2 (Int32.not_lt.mpr z.2))]; exact ⟨rfl, rfl⟩)
    · exact And.intro (Or.inr rfl) (by rw [bI_t ⟨Int32.not_lt.mp h1, Int32.not_lt.mp h2⟩]; exact ⟨rfl, rfl⟩)
theorem c_isPlace {l : Launch} {v : Int32} : MetP l 1 yX11_isPlace cX11_isPlace 1 (some .boolean) 0 0 [.inl v] [] (fun r h' => r = some (.inl (bI (0 ≤ v ∧ v ≤ 383))) ∧ h' = []) := by
  refine m_X11_isPlace (Nat.le_of_ble_eq_true rfl) ?_
  refine call0 c_within rfl rfl ?_
  rintro r h' ⟨rfl, rfl⟩
  exact And.intro bI_01 ⟨rfl, rfl⟩
theorem c_canGive {l : Launch} {tb : Nat → Int32} {tn n lo hi : Int32} : MetP l 1 yX10_canGive cX10_canGive 4 (some .boolean) 0 0 [.inr (some (.inl 0)), .inl n, .inl lo, .inl hi] [.inr (9, [.inr (some (.inl 1)), .inl tn]), .inl (0, 260, tb)] (fun r h' => r = some (.inl (bI ((lo ≤ n ∧ n ≤ hi) ∧ n ≤ tn))) ∧ h' = [.inr (9, [.inr (some (.inl 1)), .inl tn]), .inl (0, 260, tb)]) := by
  refine m_X10_canGive (Nat.le_of_ble_eq_true rfl) ?_
  refine call0 c_within rfl rfl ?_
  rintro r h' ⟨rfl, rfl⟩
  refine br_b (fun h1 => ?_) (fun h1 => ?_)
  · exact And.intro (Or.inl rfl) (by rw [bI_f (fun z => h1 z.1)]; exact ⟨rfl, rfl⟩)
  · refine And.intro (fun (h2 : tn < n) => ?_) (fun (h2 : ¬ tn < n) => ?_)
    · exact And.intro (Or.inl rfl) (by rw [bI_f (fun z => absurd h2 (Int32.not_lt.mpr z.2))]; exact ⟨rfl, rfl⟩)
    · exact And.intro (Or.inr rfl) (by rw [bI_t ⟨h1, Int32.not_lt.mp h2⟩]; exact ⟨rfl, rfl⟩)
theorem c_fill {l : Launch} {n : Nat} {f : Nat → Int32} {v : Int32} (hn : n < 2 ^ 31) : MetP l 0 yJ7_fill_53178 cJ7_fill_53178 4 none 0 0 [.inr (some (.inl 0)), .inl v] [.inl (0, n, f)] (fun r h' => r = none ∧ h' = [.inl (0, n, fillK f v n)]) := by
  refine m_J7_fill_53178 (fun μ L st h => ∃ i, i ≤ n ∧ n - i = μ ∧ L = [some (.inr (some (.inl 0))), some (.inl v), some (.inl (nI i)), some (.inl (nI n))] ∧ st = [] ∧ h = [.inl (0, n, fillK f v i)]) (Nat.le_of_ble_eq_true rfl) ?_ ?_
  · exact ⟨n, 0, Nat.zero_le _, rfl, rfl, rfl, by rw [fillK_0]⟩
  · rintro μ L st h ⟨i, hi, rfl, rfl, rfl, rfl⟩
    refine And.intro (fun (h1 : nI n ≤ nI i) => ?_) (fun (h1 : ¬ nI n ≤ nI i) => ?_)
    · have h2 := (nI_leI (by omega) (by omega)).mp h1
      have : i = n := by omega
      subst this
      exact ⟨rfl, rfl⟩
    · have h2 : i < n := Nat.not_le.mp fun z => h1 ((nI_leI (by omega) (by omega)).mpr z)
      refine And.intro (vp_in_nI h2 hn) ?_
      exact ⟨n - (i + 1), by omega, i + 1, by omega, rfl, by rw [← nI_1 i], rfl, by rw [nI_clamp (by omega)]; exact congrArg (fun z => [Sum.inl (0, n, z)]) (fillK_s f v i)⟩
def tk (f : Nat → Int32) (k : Nat) (x : Int32) : Nat → Int32 := upd f k (f_and x 255)
def tkW (f : Nat → Int32) (k : Nat) (x : Int32) : Nat → Int32 := tk (tk (tk (tk f k (f_ushr x 24)) (k + 1) (f_ushr x 16)) (k + 1 + 1) (f_ushr x 8)) (k + 1 + 1 + 1) x

theorem c_X10_size {l : Launch} {Tape_size : Int32} {Tape_bytes : Nat → Int32}  : MetP l 0 yX10_size cX10_size 1 (some .int) 0 0 [.inr (some (.inl 0))] [.inr (9, [.inr (some (.inl 1)), .inl Tape_size]), .inl (0, 260, Tape_bytes)] (fun r h' => r = some (.inl (Tape_size)) ∧ h' = [.inr (9, [.inr (some (.inl 1)), .inl Tape_size]), .inl (0, 260, Tape_bytes)]) := by
  refine m_X10_size (Nat.le_of_ble_eq_true rfl) ?_
  exact ⟨rfl, rfl⟩

theorem c_X10_hasRoom {l : Launch} {Tape_size : Int32} {Tape_bytes : Nat → Int32} {x : Int32}  : MetP l 0 yX10_hasRoom cX10_hasRoom 2 (some .boolean) 0 0 [.inr (some (.inl 0)), .inl x] [.inr (9, [.inr (some (.inl 1)), .inl Tape_size]), .inl (0, 260, Tape_bytes)] (fun r h' => r = some (.inl (bI (f_add Tape_size x ≤ 260))) ∧ h' = [.inr (9, [.inr (some (.inl 1)), .inl Tape_size]), .inl (0, 260, Tape_bytes)]) := by
  refine m_X10_hasRoom (Nat.le_of_ble_eq_true rfl) ?_
  refine And.intro (fun (h1 : 260 < f_add Tape_size x) => ?_) (fun (h1 : ¬ 260 < f_add Tape_size x) => ?_)
  · exact And.intro (Or.inl rfl) (by rw [bI_f (fun z => absurd h1 (Int32.not_lt.mpr z))]; exact ⟨rfl, rfl⟩)
  · exact And.intro (Or.inr rfl) (by rw [bI_t (Int32.not_lt.mp h1)]; exact ⟨rfl, rfl⟩)

theorem c_X10_takeByte {l : Launch} {Tape_bytes : Nat → Int32} {x : Int32} {k : Nat} (hk : k < 260) : MetP l 0 yX10_takeByte cX10_takeByte 2 none 0 0 [.inr (some (.inl 0)), .inl x] [.inr (9, [.inr (some (.inl 1)), .inl (nI k)]), .inl (0, 260, Tape_bytes)] (fun r h' => r = none ∧ h' = [.inr (9, [.inr (some (.inl 1)), .inl (nI (k + 1))]), .inl (0, 260, (tk Tape_bytes k x))]) := by
  refine m_X10_takeByte (Nat.le_of_ble_eq_true rfl) ?_
  refine And.intro (fun (h1 : (260 : Int32) ≤ nI k) => ?_) (fun (h1 : ¬ (260 : Int32) ≤ nI k) => ?_)
  · exact absurd ((nI_leI (a := 260) (by omega) (by omega)).mp h1) (by omega)
  · refine And.intro (vp_in_nI hk (by omega)) ?_
    rw [nI_clamp (by omega)]
    exact ⟨rfl, by rw [← nI_1 k]; rfl⟩

theorem c_X10_takeWord {l : Launch} {Tape_bytes : Nat → Int32} {x : Int32} {k : Nat} (hk : k + 4 ≤ 260) : MetP l 1 yX10_takeWord cX10_takeWord 2 none 0 0 [.inr (some (.inl 0)), .inl x] [.inr (9, [.inr (some (.inl 1)), .inl (nI k)]), .inl (0, 260, Tape_bytes)] (fun r h' => r = none ∧ h' = [.inr (9, [.inr (some (.inl 1)), .inl (nI (k + 4))]), .inl (0, 260, (tkW Tape_bytes k x))]) := by
  refine m_X10_takeWord (Nat.le_of_ble_eq_true rfl) ?_
  refine call0 (c_X10_takeByte (by omega)) rfl rfl ?_
  rintro r h' ⟨rfl, rfl⟩
  refine call0 (c_X10_takeByte (by omega)) rfl rfl ?_
  rintro r h' ⟨rfl, rfl⟩
  refine call0 (c_X10_takeByte (by omega)) rfl rfl ?_
  rintro r h' ⟨rfl, rfl⟩
  refine call0 (c_X10_takeByte (by omega)) rfl rfl ?_
  rintro r h' ⟨rfl, rfl⟩
  exact ⟨rfl, rfl⟩

theorem c_X10_empty {l : Launch} {Tape_size : Int32} {Tape_bytes : Nat → Int32}  : MetP l 0 yX10_empty cX10_empty 1 none 0 0 [.inr (some (.inl 0))] [.inr (9, [.inr (some (.inl 1)), .inl Tape_size]), .inl (0, 260, Tape_bytes)] (fun r h' => r = none ∧ h' = [.inr (9, [.inr (some (.inl 1)), .inl 0]), .inl (0, 260, Tape_bytes)]) := by
  refine m_X10_empty (Nat.le_of_ble_eq_true rfl) ?_
  exact ⟨rfl, rfl⟩

theorem c_X7_stamps {l : Launch} {Rep_toldMints Rep_walls Rep_stamps : Int32} {Rep_mintX Rep_mintY Rep_wall Rep_mintOf Rep_grainsOf : Nat → Int32}  : MetP l 0 yX7_stamps cX7_stamps 1 (some .int) 0 0 [.inr (some (.inl 0))] [.inr (6, [.inr (some (.inl 1)), .inr (some (.inl 2)), .inr (some (.inl 3)), .inr (some (.inl 4)), .inr (some (.inl 5)), .inl Rep_toldMints, .inl Rep_walls, .inl Rep_stamps]), .inl (0, 8, Rep_mintX), .inl (0, 8, Rep_mintY), .inl (2, 384, Rep_wall), .inl (0, 48, Rep_mintOf), .inl (0, 48, Rep_grainsOf)] (fun r h' => r = some (.inl (Rep_stamps)) ∧ h' = [.inr (6, [.inr (some (.inl 1)), .inr (some (.inl 2)), .inr (some (.inl 3)), .inr (some (.inl 4)), .inr (some (.inl 5)), .inl Rep_toldMints, .inl Rep_walls, .inl Rep_stamps]), .inl (0, 8, Rep_mintX), .inl (0, 8, Rep_mintY), .inl (2, 384, Rep_wall), .inl (0, 48, Rep_mintOf), .inl (0, 48, Rep_grainsOf)]) := by
  refine m_X7_stamps (Nat.le_of_ble_eq_true rfl) ?_
  exact ⟨rfl, rfl⟩

theorem c_X7_toldMints {l : Launch} {Rep_toldMints Rep_walls Rep_stamps : Int32} {Rep_mintX Rep_mintY Rep_wall Rep_mintOf Rep_grainsOf : Nat → Int32}  : MetP l 0 yX7_toldMints cX7_toldMints 1 (some .int) 0 0 [.inr (some (.inl 0))] [.inr (6, [.inr (some (.inl 1)), .inr (some (.inl 2)), .inr (some (.inl 3)), .inr (some (.inl 4)), .inr (some (.inl 5)), .inl Rep_toldMints, .inl Rep_walls, .inl Rep_stamps]), .inl (0, 8, Rep_mintX), .inl (0, 8, Rep_mintY), .inl (2, 384, Rep_wall), .inl (0, 48, Rep_mintOf), .inl (0, 48, Rep_grainsOf)] (fun r h' => r = some (.inl (Rep_toldMints)) ∧ h' = [.inr (6, [.inr (some (.inl 1)), .inr (some (.inl 2)), .inr (some (.inl 3)), .inr (some (.inl 4)), .inr (some (.inl 5)), .inl Rep_toldMints, .inl Rep_walls, .inl Rep_stamps]), .inl (0, 8, Rep_mintX), .inl (0, 8, Rep_mintY), .inl (2, 384, Rep_wall), .inl (0, 48, Rep_mintOf), .inl (0, 48, Rep_grainsOf)]) := by
  refine m_X7_toldMints (Nat.le_of_ble_eq_true rfl) ?_
  exact ⟨rfl, rfl⟩

theorem c_X7_walls {l : Launch} {Rep_toldMints Rep_walls Rep_stamps : Int32} {Rep_mintX Rep_mintY Rep_wall Rep_mintOf Rep_grainsOf : Nat → Int32}  : MetP l 0 yX7_walls cX7_walls 1 (some .int) 0 0 [.inr (some (.inl 0))] [.inr (6, [.inr (some (.inl 1)), .inr (some (.inl 2)), .inr (some (.inl 3)), .inr (some (.inl 4)), .inr (some (.inl 5)), .inl Rep_toldMints, .inl Rep_walls, .inl Rep_stamps]), .inl (0, 8, Rep_mintX), .inl (0, 8, Rep_mintY), .inl (2, 384, Rep_wall), .inl (0, 48, Rep_mintOf), .inl (0, 48, Rep_grainsOf)] (fun r h' => r = some (.inl (Rep_walls)) ∧ h' = [.inr (6, [.inr (some (.inl 1)), .inr (some (.inl 2)), .inr (some (.inl 3)), .inr (some (.inl 4)), .inr (some (.inl 5)), .inl Rep_toldMints, .inl Rep_walls, .inl Rep_stamps]), .inl (0, 8, Rep_mintX), .inl (0, 8, Rep_mintY), .inl (2, 384, Rep_wall), .inl (0, 48, Rep_mintOf), .inl (0, 48, Rep_grainsOf)]) := by
  refine m_X7_walls (Nat.le_of_ble_eq_true rfl) ?_
  exact ⟨rfl, rfl⟩

theorem c_X4_day {l : Launch} {Let_told Let_walled Let_day Let_drawState : Int32} {Let_place Let_paste Let_letter Let_used : Nat → Int32}  : MetP l 0 yX4_day cX4_day 1 (some .int) 0 0 [.inr (some (.inl 0))] [.inr (4, [.inr (some (.inl 1)), .inr (some (.inl 2)), .inr (some (.inl 3)), .inr (some (.inl 4)), .inl Let_told, .inl Let_walled, .inl Let_day, .inl Let_drawState]), .inl (0, 8, Let_place), .inl (0, 8, Let_paste), .inl (0, 48, Let_letter), .inl (0, 48, Let_used)] (fun r h' => r = some (.inl (Let_day)) ∧ h' = [.inr (4, [.inr (some (.inl 1)), .inr (some (.inl 2)), .inr (some (.inl 3)), .inr (some (.inl 4)), .inl Let_told, .inl Let_walled, .inl Let_day, .inl Let_drawState]), .inl (0, 8, Let_place), .inl (0, 8, Let_paste), .inl (0, 48, Let_letter), .inl (0, 48, Let_used)]) := by
  refine m_X4_day (Nat.le_of_ble_eq_true rfl) ?_
  exact ⟨rfl, rfl⟩

theorem c_X4_toldBits {l : Launch} {Let_told Let_walled Let_day Let_drawState : Int32} {Let_place Let_paste Let_letter Let_used : Nat → Int32}  : MetP l 0 yX4_toldBits cX4_toldBits 1 (some .int) 0 0 [.inr (some (.inl 0))] [.inr (4, [.inr (some (.inl 1)), .inr (some (.inl 2)), .inr (some (.inl 3)), .inr (some (.inl 4)), .inl Let_told, .inl Let_walled, .inl Let_day, .inl Let_drawState]), .inl (0, 8, Let_place), .inl (0, 8, Let_paste), .inl (0, 48, Let_letter), .inl (0, 48, Let_used)] (fun r h' => r = some (.inl (Let_told)) ∧ h' = [.inr (4, [.inr (some (.inl 1)), .inr (some (.inl 2)), .inr (some (.inl 3)), .inr (some (.inl 4)), .inl Let_told, .inl Let_walled, .inl Let_day, .inl Let_drawState]), .inl (0, 8, Let_place), .inl (0, 8, Let_paste), .inl (0, 48, Let_letter), .inl (0, 48, Let_used)]) := by
  refine m_X4_toldBits (Nat.le_of_ble_eq_true rfl) ?_
  exact ⟨rfl, rfl⟩

theorem c_X4_walledBits {l : Launch} {Let_told Let_walled Let_day Let_drawState : Int32} {Let_place Let_paste Let_letter Let_used : Nat → Int32}  : MetP l 0 yX4_walledBits cX4_walledBits 1 (some .int) 0 0 [.inr (some (.inl 0))] [.inr (4, [.inr (some (.inl 1)), .inr (some (.inl 2)), .inr (some (.inl 3)), .inr (some (.inl 4)), .inl Let_told, .inl Let_walled, .inl Let_day, .inl Let_drawState]), .inl (0, 8, Let_place), .inl (0, 8, Let_paste), .inl (0, 48, Let_letter), .inl (0, 48, Let_used)] (fun r h' => r = some (.inl (Let_walled)) ∧ h' = [.inr (4, [.inr (some (.inl 1)), .inr (some (.inl 2)), .inr (some (.inl 3)), .inr (some (.inl 4)), .inl Let_told, .inl Let_walled, .inl Let_day, .inl Let_drawState]), .inl (0, 8, Let_place), .inl (0, 8, Let_paste), .inl (0, 48, Let_letter), .inl (0, 48, Let_used)]) := by
  refine m_X4_walledBits (Nat.le_of_ble_eq_true rfl) ?_
  exact ⟨rfl, rfl⟩

theorem c_X4_drawState {l : Launch} {Let_told Let_walled Let_day Let_drawState : Int32} {Let_place Let_paste Let_letter Let_used : Nat → Int32}  : MetP l 0 yX4_drawState cX4_drawState 1 (some .int) 0 0 [.inr (some (.inl 0))] [.inr (4, [.inr (some (.inl 1)), .inr (some (.inl 2)), .inr (some (.inl 3)), .inr (some (.inl 4)), .inl Let_told, .inl Let_walled, .inl Let_day, .inl Let_drawState]), .inl (0, 8, Let_place), .inl (0, 8, Let_paste), .inl (0, 48, Let_letter), .inl (0, 48, Let_used)] (fun r h' => r = some (.inl (Let_drawState)) ∧ h' = [.inr (4, [.inr (some (.inl 1)), .inr (some (.inl 2)), .inr (some (.inl 3)), .inr (some (.inl 4)), .inl Let_told, .inl Let_walled, .inl Let_day, .inl Let_drawState]), .inl (0, 8, Let_place), .inl (0, 8, Let_paste), .inl (0, 48, Let_letter), .inl (0, 48, Let_used)]) := by
  refine m_X4_drawState (Nat.le_of_ble_eq_true rfl) ?_
  exact ⟨rfl, rfl⟩

theorem c_X4_endDay {l : Launch} {Let_told Let_walled Let_day Let_drawState : Int32} {Let_place Let_paste Let_letter Let_used : Nat → Int32}  : MetP l 0 yX4_endDay cX4_endDay 1 none 0 0 [.inr (some (.inl 0))] [.inr (4, [.inr (some (.inl 1)), .inr (some (.inl 2)), .inr (some (.inl 3)), .inr (some (.inl 4)), .inl Let_told, .inl Let_walled, .inl Let_day, .inl Let_drawState]), .inl (0, 8, Let_place), .inl (0, 8, Let_paste), .inl (0, 48, Let_letter), .inl (0, 48, Let_used)] (fun r h' => r = none ∧ h' = [.inr (4, [.inr (some (.inl 1)), .inr (some (.inl 2)), .inr (some (.inl 3)), .inr (some (.inl 4)), .inl Let_told, .inl Let_walled, .inl (f_add Let_day 1), .inl Let_drawState]), .inl (0, 8, Let_place), .inl (0, 8, Let_paste), .inl (0, 48, Let_letter), .inl (0, 48, Let_used)]) := by
  refine m_X4_endDay (Nat.le_of_ble_eq_true rfl) ?_
  exact ⟨rfl, rfl⟩

theorem c_X4_seedWith {l : Launch} {Let_told Let_walled Let_day Let_drawState : Int32} {Let_place Let_paste Let_letter Let_used : Nat → Int32} {x : Int32}  : MetP l 0 yX4_seedWith cX4_seedWith 2 none 0 0 [.inr (some (.inl 0)), .inl x] [.inr (4, [.inr (some (.inl 1)), .inr (some (.inl 2)), .inr (some (.inl 3)), .inr (some (.inl 4)), .inl Let_told, .inl Let_walled, .inl Let_day, .inl Let_drawState]), .inl (0, 8, Let_place), .inl (0, 8, Let_paste), .inl (0, 48, Let_letter), .inl (0, 48, Let_used)] (fun r h' => r = none ∧ h' = [.inr (4, [.inr (some (.inl 1)), .inr (some (.inl 2)), .inr (some (.inl 3)), .inr (some (.inl 4)), .inl Let_told, .inl Let_walled, .inl Let_day, .inl x]), .inl (0, 8, Let_place), .inl (0, 8, Let_paste), .inl (0, 48, Let_letter), .inl (0, 48, Let_used)]) := by
  refine m_X4_seedWith (Nat.le_of_ble_eq_true rfl) ?_
  exact ⟨rfl, rfl⟩

theorem c_X2_size {l : Launch} {Law_rules Law_steps Law_waiting Law_refused : Int32} {Law_kind Law_worthAt Law_testAt Law_step Law_beside Law_stack : Nat → Int32}  : MetP l 0 yX2_size cX2_size 1 (some .int) 0 0 [.inr (some (.inl 0))] [.inr (2, [.inr (some (.inl 1)), .inr (some (.inl 2)), .inr (some (.inl 3)), .inr (some (.inl 4)), .inr (some (.inl 5)), .inr (some (.inl 6)), .inl Law_rules, .inl Law_steps, .inl Law_waiting, .inl Law_refused]), .inl (0, 16, Law_kind), .inl (0, 16, Law_worthAt), .inl (0, 16, Law_testAt), .inl (0, 280, Law_step), .inl (0, 280, Law_beside), .inl (0, 24, Law_stack)] (fun r h' => r = some (.inl (Law_rules)) ∧ h' = [.inr (2, [.inr (some (.inl 1)), .inr (some (.inl 2)), .inr (some (.inl 3)), .inr (some (.inl 4)), .inr (some (.inl 5)), .inr (some (.inl 6)), .inl Law_rules, .inl Law_steps, .inl Law_waiting, .inl Law_refused]), .inl (0, 16, Law_kind), .inl (0, 16, Law_worthAt), .inl (0, 16, Law_testAt), .inl (0, 280, Law_step), .inl (0, 280, Law_beside), .inl (0, 24, Law_stack)]) := by
  refine m_X2_size (Nat.le_of_ble_eq_true rfl) ?_
  exact ⟨rfl, rfl⟩

theorem c_X0_fallen {l : Launch} {Clk_republic : List (Option Nat)} {Clk_acrossSum Clk_alongSum Clk_fallen : Int32} {Clk_facts Clk_moreUsed : Nat → Int32}  : MetP l 0 yX0_fallen cX0_fallen 1 (some .int) 0 0 [.inr (some (.inl 0))] [.inr (0, [.inr (some (.inr Clk_republic)), .inr (some (.inl 1)), .inr (some (.inl 2)), .inl Clk_acrossSum, .inl Clk_alongSum, .inl Clk_fallen]), .inl (0, 9, Clk_facts), .inl (0, 48, Clk_moreUsed)] (fun r h' => r = some (.inl (Clk_fallen)) ∧ h' = [.inr (0, [.inr (some (.inr Clk_republic)), .inr (some (.inl 1)), .inr (some (.inl 2)), .inl Clk_acrossSum, .inl Clk_alongSum, .inl Clk_fallen]), .inl (0, 9, Clk_facts), .inl (0, 48, Clk_moreUsed)]) := by
  refine m_X0_fallen (Nat.le_of_ble_eq_true rfl) ?_
  exact ⟨rfl, rfl⟩

theorem c_X4_isTold {l : Launch} {Let_told Let_walled Let_day Let_drawState : Int32} {Let_place Let_paste Let_letter Let_used : Nat → Int32} {x : Int32}  : MetP l 1 yX4_isTold cX4_isTold 2 (some .boolean) 0 0 [.inr (some (.inl 0)), .inl x] [.inr (4, [.inr (some (.inl 1)), .inr (some (.inl 2)), .inr (some (.inl 3)), .inr (some (.inl 4)), .inl Let_told, .inl Let_walled, .inl Let_day, .inl Let_drawState]), .inl (0, 8, Let_place), .inl (0, 8, Let_paste), .inl (0, 48, Let_letter), .inl (0, 48, Let_used)] (fun r h' => r = some (.inl (bI ((0 ≤ x ∧ x ≤ 7) ∧ f_and (f_shr Let_told x) 1 = 1))) ∧ h' = [.inr (4, [.inr (some (.inl 1)), .inr (some (.inl 2)), .inr (some (.inl 3)), .inr (some (.inl 4)), .inl Let_told, .inl Let_walled, .inl Let_day, .inl Let_drawState]), .inl (0, 8, Let_place), .inl (0, 8, Let_paste), .inl (0, 48, Let_letter), .inl (0, 48, Let_used)]) := by
  refine m_X4_isTold (Nat.le_of_ble_eq_true rfl) ?_
  refine call0 (c_within) rfl rfl ?_
  rintro r h' ⟨rfl, rfl⟩
  refine br_b (fun h1 => ?_) (fun h1 => ?_)
  · exact And.intro (Or.inl rfl) (by rw [bI_f (fun z => h1 z.1)]; exact ⟨rfl, rfl⟩)
  · refine And.intro (fun (h2 : f_and (f_shr Let_told x) 1 = 1) => ?_) (fun (h2 : ¬ f_and (f_shr Let_told x) 1 = 1) => ?_)
    · exact And.intro (Or.inr rfl) (by rw [bI_t ⟨h1, h2⟩]; exact ⟨rfl, rfl⟩)
    · exact And.intro (Or.inl rfl) (by rw [bI_f (fun z => h2 z.2)]; exact ⟨rfl, rfl⟩)

theorem c_X4_copyFrom {l : Launch} {Let_told Let_walled Let_day Let_drawState Oth_told Oth_walled Oth_day Oth_drawState : Int32} {Let_place Let_paste Let_letter Let_used Oth_place Oth_paste Oth_letter Oth_used : Nat → Int32}  : MetP l 1 yX4_copyFrom cX4_copyFrom 2 none 0 0 [.inr (some (.inl 0)), .inr (some (.inl 5))] [.inr (4, [.inr (some (.inl 1)), .inr (some (.inl 2)), .inr (some (.inl 3)), .inr (some (.inl 4)), .inl Let_told, .inl Let_walled, .inl Let_day, .inl Let_drawState]), .inl (0, 8, Let_place), .inl (0, 8, Let_paste), .inl (0, 48, Let_letter), .inl (0, 48, Let_used), .inr (4, [.inr (some (.inl 6)), .inr (some (.inl 7)), .inr (some (.inl 8)), .inr (some (.inl 9)), .inl Oth_told, .inl Oth_walled, .inl Oth_day, .inl Oth_drawState]), .inl (0, 8, Oth_place), .inl (0, 8, Oth_paste), .inl (0, 48, Oth_letter), .inl (0, 48, Oth_used)] (fun r h' => r = none ∧ h' = [.inr (4, [.inr (some (.inl 1)), .inr (some (.inl 2)), .inr (some (.inl 3)), .inr (some (.inl 4)), .inl Oth_told, .inl Oth_walled, .inl Oth_day, .inl Oth_drawState]), .inl (0, 8, (va_cpy Oth_place Let_place 0 0 8)), .inl (0, 8, (va_cpy Oth_paste Let_paste 0 0 8)), .inl (0, 48, (va_cpy Oth_letter Let_letter 0 0 48)), .inl (0, 48, (va_cpy Oth_used Let_used 0 0 48)), .inr (4, [.inr (some (.inl 6)), .inr (some (.inl 7)), .inr (some (.inl 8)), .inr (some (.inl 9)), .inl Oth_told, .inl Oth_walled, .inl Oth_day, .inl Oth_drawState]), .inl (0, 8, Oth_place), .inl (0, 8, Oth_paste), .inl (0, 48, Oth_letter), .inl (0, 48, Oth_used)]) := by
  refine m_X4_copyFrom (Nat.le_of_ble_eq_true rfl) ?_
  refine And.intro rfl (And.intro (by decide) (And.intro (by decide) (And.intro (by decide) (And.intro (by decide) (And.intro (by decide) ?_)))))
  refine And.intro rfl (And.intro (by decide) (And.intro (by decide) (And.intro (by decide) (And.intro (by decide) (And.intro (by decide) ?_)))))
  refine And.intro rfl (And.intro (by decide) (And.intro (by decide) (And.intro (by decide) (And.intro (by decide) (And.intro (by decide) ?_)))))
  refine And.intro rfl (And.intro (by decide) (And.intro (by decide) (And.intro (by decide) (And.intro (by decide) (And.intro (by decide) ?_)))))
  exact ⟨rfl, rfl⟩

