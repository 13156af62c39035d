/-! ===== exact rows: the tape's bytes ===== -/
theorem by_sh {w : Int32} {n : Nat} (hn : n ≤ 24) : f_and (f_shr w (nI n)) 255 = f_and (f_ushr w (nI n)) 255 := by
  apply b_ext
  intro i hi
  show bt (w >>> (nI n &&& 31) &&& 255) i = bt ((w.toUInt32 >>> ((nI n).toUInt32 &&& Int32.toUInt32 31)).toInt32 &&& 255) i
  rw [b_and, b_and, b_255, b_sshr n (by omega) w hi, b_ushr n (by omega) w i]
  by_cases h : i < 8
  · rw [if_pos (by omega)]
  · rw [decide_eq_false h, Bool.and_false, Bool.and_false]
theorem by_0 {w : Int32} : f_and (f_shr w 0) 255 = f_and w 255 := by
  apply b_ext
  intro i hi
  show bt (w >>> (nI 0 &&& 31) &&& 255) i = bt (w &&& 255) i
  rw [b_and, b_and, b_sshr 0 (by omega) w hi, if_pos (by omega), Nat.zero_add]
theorem by_b {x : Int32} : f_and (f_nar 1 (f_i2b x)) 255 = f_and x 255 := by
  show (x.toInt8.toInt32).toInt8.toInt32 &&& 255 = x &&& 255
  rw [bp_b, bp_b]
/-- four bytes of a word, the class's way and the other side's -/
def wdC (f : Nat → Int32) (k : Nat) (w : Int32) : Nat → Int32 := upd (upd (upd (upd f k (f_and (f_ushr w 24) 255)) (k + 1) (f_and (f_ushr w 16) 255)) (k + 2) (f_and (f_ushr w 8) 255)) (k + 3) (f_and w 255)
def wdR (f : Nat → Int32) (k : Nat) (w : Int32) : Nat → Int32 := upd (upd (upd (upd f k (f_nar 1 (f_i2b (f_shr w 24)))) (k + 1) (f_nar 1 (f_i2b (f_shr w 16)))) (k + 2) (f_nar 1 (f_i2b (f_shr w 8)))) (k + 3) (f_nar 1 (f_i2b (f_shr w 0)))
abbrev sameB (f g : Nat → Int32) : Prop := ∀ i, i < 260 → f i = f_and (g i) 255
theorem upd_same {f g : Nat → Int32} {k : Nat} {x y : Int32} (h : sameB f g) (e : x = f_and y 255) : sameB (upd f k x) (upd g k y) := fun i hi => by
  unfold upd
  by_cases q : i = k
  · rw [if_pos q, if_pos q]; exact e
  · rw [if_neg q, if_neg q]; exact h i hi
theorem wd_same {f g : Nat → Int32} {k : Nat} {w : Int32} (h : sameB f g) : sameB (wdC f k w) (wdR g k w) :=
  upd_same (upd_same (upd_same (upd_same h (by rw [by_b]; exact (by_sh (n := 24) (by omega)).symm)) (by rw [by_b]; exact (by_sh (n := 16) (by omega)).symm)) (by rw [by_b]; exact (by_sh (n := 8) (by omega)).symm)) (by rw [by_b]; exact by_0.symm)
def fdC (f : Nat → Int32) (k : Nat) (a b c d e : Int32) : Nat → Int32 := wdC (wdC (wdC (wdC (wdC f k a) (k + 4) b) (k + 8) c) (k + 12) d) (k + 16) e
def fdR (f : Nat → Int32) (k : Nat) (a b c d e : Int32) : Nat → Int32 := wdR (wdR (wdR (wdR (wdR f k a) (k + 4) b) (k + 8) c) (k + 12) d) (k + 16) e
theorem fd_same {f g : Nat → Int32} {k : Nat} {a b c d e : Int32} (h : sameB f g) : sameB (fdC f k a b c d e) (fdR g k a b c d e) := wd_same (wd_same (wd_same (wd_same (wd_same h))))
set_option maxRecDepth 100000 in
theorem c_X10_takeByte {l : Launch} {Tape_bytes : Nat → Int32}  {v : Int32} {k : Nat} (hk : k < 260) : MetP l 0 yX10_takeByte cX10_takeByte 2 none 0 0 [.inr (some (.inl 0)), .inl v] [.inr (9, [.inr (some (.inl 1)), .inl ((nI k))]), .inl (0, 260, Tape_bytes)] (fun r h' => r = none ∧ h' = [.inr (9, [.inr (some (.inl 1)), .inl ((nI (k + 1)))]), .inl (0, 260, (upd Tape_bytes k (f_and v 255)))]) := by
  refine m_X10_takeByte (Nat.le_of_ble_eq_true rfl) ?_
  refine And.intro (fun h1 => ?_) (fun _ => ?_)
  · exact absurd ((nI_leI (a := 260) (b := k) (by omega) (by omega)).mp h1) (by omega)
  · refine And.intro (vp_in_nI hk (by omega)) ?_
    rw [nI_clamp (by omega)]
    exact ⟨rfl, by rw [← nI_1 k] <;> rfl⟩
set_option maxRecDepth 100000 in
theorem c_X10_takeWord {l : Launch} {Tape_bytes : Nat → Int32}  {v : Int32} {k : Nat} (hk : k + 4 ≤ 260) : MetP l 1 yX10_takeWord cX10_takeWord 2 none 0 0 [.inr (some (.inl 0)), .inl v] [.inr (9, [.inr (some (.inl 1)), .inl ((nI k))]), .inl (0, 260, Tape_bytes)] (fun r h' => r = none ∧ h' = [.inr (9, [.inr (some (.inl 1)), .inl ((nI (k + 4)))]), .inl (0, 260, (wdC Tape_bytes k v))]) := by
  refine m_X10_takeWord (Nat.le_of_ble_eq_true rfl) ?_
  refine call0 (c_X10_takeByte (k := k) (by omega)) rfl rfl ?_
  rintro r h' ⟨rfl, rfl⟩
  refine call0 (c_X10_takeByte (k := k + 1) (by omega)) rfl rfl ?_
  rintro r h' ⟨rfl, rfl⟩
  refine call0 (c_X10_takeByte (k := k + 2) (by omega)) rfl rfl ?_
  rintro r h' ⟨rfl, rfl⟩
  refine call0 (c_X10_takeByte (k := k + 3) (by omega)) rfl rfl ?_
  rintro r h' ⟨rfl, rfl⟩
  exact ⟨rfl, rfl⟩
set_option maxRecDepth 100000 in
theorem c_X10_hasRoom {l : Launch} {Tape_bytes : Nat → Int32}  {k : Nat} (hk : k + 20 ≤ 260) : MetP l 0 yX10_hasRoom cX10_hasRoom 2 (some .boolean) 0 0 [.inr (some (.inl 0)), .inl 20] [.inr (9, [.inr (some (.inl 1)), .inl ((nI k))]), .inl (0, 260, Tape_bytes)] (fun r h' => r = some (.inl 1) ∧ h' = [.inr (9, [.inr (some (.inl 1)), .inl ((nI k))]), .inl (0, 260, Tape_bytes)]) := by
  refine m_X10_hasRoom (Nat.le_of_ble_eq_true rfl) ?_
  refine And.intro (fun h1 => ?_) (fun _ => ?_)
  · have h1 : nI 260 < nI k + nI 20 := h1
    rw [nI_add] at h1
    exact absurd ((nI_ltI (by omega) (by omega)).mp h1) (by omega)
  · exact And.intro (Or.inr rfl) ⟨rfl, rfl⟩
set_option maxRecDepth 100000 in
theorem c_X10_size {l : Launch} {Tape_size : Int32} {Tape_bytes : Nat → Int32}  : MetP l 0 yX10_size cX10_size 1 (some .int) 0 0 [.inr (some (.inl 0))] [.inr (9, [.inr (some (.inl 1)), .inl Tape_size]), .inl (0, 260, Tape_bytes)] (fun r h' => r = some (.inl Tape_size) ∧ h' = [.inr (9, [.inr (some (.inl 1)), .inl Tape_size]), .inl (0, 260, Tape_bytes)]) := by
  refine m_X10_size (Nat.le_of_ble_eq_true rfl) ?_
  exact ⟨rfl, rfl⟩
set_option maxRecDepth 100000 in
theorem c_X10_empty {l : Launch} {Tape_size : Int32} {Tape_bytes : Nat → Int32}  : MetP l 0 yX10_empty cX10_empty 1 none 0 0 [.inr (some (.inl 0))] [.inr (9, [.inr (some (.inl 1)), .inl Tape_size]), .inl (0, 260, Tape_bytes)] (fun r h' => r = none ∧ h' = [.inr (9, [.inr (some (.inl 1)), .inl 0]), .inl (0, 260, Tape_bytes)]) := by
  refine m_X10_empty (Nat.le_of_ble_eq_true rfl) ?_
  exact ⟨rfl, rfl⟩
set_option maxRecDepth 100000 in
theorem c_X11_feed {l : Launch} {HS_republic HS_now HS_kept HS_trial HS_clerk HS_crew HS_riddles HS_sheetReader HS_postReader HS_lawReader HS_seen HS_rules HS_spareRules : List (Option Nat)} {HS_wasKept : Int32} {Tape_bytes : Nat → Int32}  {a b c d e : Int32} {k : Nat} (hk : k + 20 ≤ 260) : MetP l 2 yX11_feed cX11_feed 6 (some .int) 0 0 [.inr (some (.inl 0)), .inl a, .inl b, .inl c, .inl d, .inl e] [.inr (10, [.inr (some (.inl 1)), .inr (some (.inr HS_republic)), .inr (some (.inr HS_now)), .inr (some (.inr HS_kept)), .inr (some (.inr HS_trial)), .inr (some (.inr HS_clerk)), .inr (some (.inr HS_crew)), .inr (some (.inr HS_riddles)), .inr (some (.inr HS_sheetReader)), .inr (some (.inr HS_postReader)), .inr (some (.inr HS_lawReader)), .inr (some (.inr HS_seen)), .inr (some (.inr HS_rules)), .inr (some (.inr HS_spareRules)), .inl HS_wasKept]), .inr (9, [.inr (some (.inl 2)), .inl ((nI k))]), .inl (0, 260, Tape_bytes)] (fun r h' => r = some (.inl (nI (k + 20))) ∧ h' = [.inr (10, [.inr (some (.inl 1)), .inr (some (.inr HS_republic)), .inr (some (.inr HS_now)), .inr (some (.inr HS_kept)), .inr (some (.inr HS_trial)), .inr (some (.inr HS_clerk)), .inr (some (.inr HS_crew)), .inr (some (.inr HS_riddles)), .inr (some (.inr HS_sheetReader)), .inr (some (.inr HS_postReader)), .inr (some (.inr HS_lawReader)), .inr (some (.inr HS_seen)), .inr (some (.inr HS_rules)), .inr (some (.inr HS_spareRules)), .inl HS_wasKept]), .inr (9, [.inr (some (.inl 2)), .inl ((nI (k + 20)))]), .inl (0, 260, (fdC Tape_bytes k a b c d e))]) := by
  refine m_X11_feed (Nat.le_of_ble_eq_true rfl) ?_
  refine call0 (c_X10_hasRoom hk) rfl rfl ?_
  rintro r h' ⟨rfl, rfl⟩
  refine And.intro (fun h1 => absurd h1 (by show ¬ ((_ : Int32) = _); decide)) (fun _ => ?_)
  refine call0 (c_X10_takeWord (k := k) (by omega)) rfl rfl ?_
  rintro r h' ⟨rfl, rfl⟩
  refine call0 (c_X10_takeWord (k := k + 4) (by omega)) rfl rfl ?_
  rintro r h' ⟨rfl, rfl⟩
  refine call0 (c_X10_takeWord (k := k + 8) (by omega)) rfl rfl ?_
  rintro r h' ⟨rfl, rfl⟩
  refine call0 (c_X10_takeWord (k := k + 12) (by omega)) rfl rfl ?_
  rintro r h' ⟨rfl, rfl⟩
  refine call0 (c_X10_takeWord (k := k + 16) (by omega)) rfl rfl ?_
  rintro r h' ⟨rfl, rfl⟩
  refine call0 (c_X10_size) rfl rfl ?_
  rintro r h' ⟨rfl, rfl⟩
  exact ⟨rfl, rfl⟩
set_option maxRecDepth 100000 in
theorem c_X12_types {l : Launch} {M_now M_aside M_kept M_mintAt M_mintOf M_wholeOf M_isWall M_wasWall M_said M_waitsAt M_saidLetter M_saidFrom M_saidHalf M_saidTo M_codes M_clauseOf M_codeFrom M_codeHalf M_codeTo M_stack M_facts M_newStamps M_roundFrom M_roundAt M_roundTimes M_usesNow M_wasAt M_someOf M_fewestFor M_getsOf : List (Option Nat)} {M_stampMany M_place0 M_length0 M_fault M_number0 M_open M_codeMany M_waiting M_saidMany M_clauses M_newMany M_rounds M_stampFrom M_stampTimes M_lines M_spot0 M_pullAcross M_pullAlong M_stepsNow M_fallenNow M_isKept : Int32} {M_tape : Nat → Int32}  {v : Int32} {k : Nat} (hk : k + 4 ≤ 260) : MetP l 0 yX12_types cX12_types 3 none 0 0 [.inr (some (.inl 0)), .inl v] [.inr (11, [.inr (some (.inr M_now)), .inr (some (.inr M_aside)), .inr (some (.inr M_kept)), .inr (some (.inr M_mintAt)), .inr (some (.inr M_mintOf)), .inr (some (.inr M_wholeOf)), .inr (some (.inr M_isWall)), .inr (some (.inr M_wasWall)), .inl M_stampMany, .inr (some (.inl 1)), .inl ((nI k)), .inl M_place0, .inl M_length0, .inl M_fault, .inl M_number0, .inl M_open, .inl M_codeMany, .inl M_waiting, .inl M_saidMany, .inl M_clauses, .inr (some (.inr M_said)), .inr (some (.inr M_waitsAt)), .inr (some (.inr M_saidLetter)), .inr (some (.inr M_saidFrom)), .inr (some (.inr M_saidHalf)), .inr (some (.inr M_saidTo)), .inr (some (.inr M_codes)), .inr (some (.inr M_clauseOf)), .inr (some (.inr M_codeFrom)), .inr (some (.inr M_codeHalf)), .inr (some (.inr M_codeTo)), .inr (some (.inr M_stack)), .inr (some (.inr M_facts)), .inr (some (.inr M_newStamps)), .inr (some (.inr M_roundFrom)), .inr (some (.inr M_roundAt)), .inr (some (.inr M_roundTimes)), .inl M_newMany, .inl M_rounds, .inl M_stampFrom, .inl M_stampTimes, .inl M_lines, .inl M_spot0, .inl M_pullAcross, .inl M_pullAlong, .inl M_stepsNow, .inl M_fallenNow, .inr (some (.inr M_usesNow)), .inr (some (.inr M_wasAt)), .inr (some (.inr M_someOf)), .inr (some (.inr M_fewestFor)), .inr (some (.inr M_getsOf)), .inl M_isKept]), .inl (1, 260, M_tape)] (fun r h' => r = none ∧ h' = [.inr (11, [.inr (some (.inr M_now)), .inr (some (.inr M_aside)), .inr (some (.inr M_kept)), .inr (some (.inr M_mintAt)), .inr (some (.inr M_mintOf)), .inr (some (.inr M_wholeOf)), .inr (some (.inr M_isWall)), .inr (some (.inr M_wasWall)), .inl M_stampMany, .inr (some (.inl 1)), .inl ((nI (k + 4))), .inl M_place0, .inl M_length0, .inl M_fault, .inl M_number0, .inl M_open, .inl M_codeMany, .inl M_waiting, .inl M_saidMany, .inl M_clauses, .inr (some (.inr M_said)), .inr (some (.inr M_waitsAt)), .inr (some (.inr M_saidLetter)), .inr (some (.inr M_saidFrom)), .inr (some (.inr M_saidHalf)), .inr (some (.inr M_saidTo)), .inr (some (.inr M_codes)), .inr (some (.inr M_clauseOf)), .inr (some (.inr M_codeFrom)), .inr (some (.inr M_codeHalf)), .inr (some (.inr M_codeTo)), .inr (some (.inr M_stack)), .inr (some (.inr M_facts)), .inr (some (.inr M_newStamps)), .inr (some (.inr M_roundFrom)), .inr (some (.inr M_roundAt)), .inr (some (.inr M_roundTimes)), .inl M_newMany, .inl M_rounds, .inl M_stampFrom, .inl M_stampTimes, .inl M_lines, .inl M_spot0, .inl M_pullAcross, .inl M_pullAlong, .inl M_stepsNow, .inl M_fallenNow, .inr (some (.inr M_usesNow)), .inr (some (.inr M_wasAt)), .inr (some (.inr M_someOf)), .inr (some (.inr M_fewestFor)), .inr (some (.inr M_getsOf)), .inl M_isKept]), .inl (1, 260, (wdR M_tape k v))]) := by
  refine m_X12_types (fun μ L st h => ∃ (j : Nat) (f : Nat → Int32), μ = 4 - j ∧ j ≤ 4 ∧ ((j = 0 ∧ f = M_tape) ∨ (j = 1 ∧ f = upd M_tape k (f_nar 1 (f_i2b (f_shr v 24)))) ∨ (j = 2 ∧ f = upd (upd M_tape k (f_nar 1 (f_i2b (f_shr v 24)))) (k + 1) (f_nar 1 (f_i2b (f_shr v 16)))) ∨ (j = 3 ∧ f = upd (upd (upd M_tape k (f_nar 1 (f_i2b (f_shr v 24)))) (k + 1) (f_nar 1 (f_i2b (f_shr v 16)))) (k + 2) (f_nar 1 (f_i2b (f_shr v 8)))) ∨ (j = 4 ∧ f = wdR M_tape k v)) ∧ L = [some (.inr (some (.inl 0))), some (.inl v), some (.inl (3 - nI j))] ∧ st = [] ∧ h = [.inr (11, [.inr (some (.inr M_now)), .inr (some (.inr M_aside)), .inr (some (.inr M_kept)), .inr (some (.inr M_mintAt)), .inr (some (.inr M_mintOf)), .inr (some (.inr M_wholeOf)), .inr (some (.inr M_isWall)), .inr (some (.inr M_wasWall)), .inl M_stampMany, .inr (some (.inl 1)), .inl ((nI (k + j))), .inl M_place0, .inl M_length0, .inl M_fault, .inl M_number0, .inl M_open, .inl M_codeMany, .inl M_waiting, .inl M_saidMany, .inl M_clauses, .inr (some (.inr M_said)), .inr (some (.inr M_waitsAt)), .inr (some (.inr M_saidLetter)), .inr (some (.inr M_saidFrom)), .inr (some (.inr M_saidHalf)), .inr (some (.inr M_saidTo)), .inr (some (.inr M_codes)), .inr (some (.inr M_clauseOf)), .inr (some (.inr M_codeFrom)), .inr (some (.inr M_codeHalf)), .inr (some (.inr M_codeTo)), .inr (some (.inr M_stack)), .inr (some (.inr M_facts)), .inr (some (.inr M_newStamps)), .inr (some (.inr M_roundFrom)), .inr (some (.inr M_roundAt)), .inr (some (.inr M_roundTimes)), .inl M_newMany, .inl M_rounds, .inl M_stampFrom, .inl M_stampTimes, .inl M_lines, .inl M_spot0, .inl M_pullAcross, .inl M_pullAlong, .inl M_stepsNow, .inl M_fallenNow, .inr (some (.inr M_usesNow)), .inr (some (.inr M_wasAt)), .inr (some (.inr M_someOf)), .inr (some (.inr M_fewestFor)), .inr (some (.inr M_getsOf)), .inl M_isKept]), .inl (1, 260, f)]) (Nat.le_of_ble_eq_true rfl) ?_ ?_
  · exact ⟨_, 0, M_tape, rfl, by omega, Or.inl ⟨rfl, rfl⟩, rfl, rfl, rfl⟩
  · rintro μ L st h ⟨j, f, hμ, hj, hf, rfl, rfl, rfl⟩
    rcases hf with ⟨rfl, rfl⟩ | ⟨rfl, rfl⟩ | ⟨rfl, rfl⟩ | ⟨rfl, rfl⟩ | ⟨rfl, rfl⟩
    · refine And.intro (fun h1 => absurd h1 (by show ¬ ((_ : Int32) < _); decide)) (fun _ => ?_)
      refine And.intro (vp_in_nI (n := k) (by omega) (by omega)) ?_
      rw [nI_clamp (by omega)]
      exact ⟨3, by omega, 1, _, rfl, by omega, Or.inr (Or.inl ⟨rfl, rfl⟩), rfl, rfl, by rw [← nI_1 k] <;> rfl⟩
    · refine And.intro (fun h1 => absurd h1 (by show ¬ ((_ : Int32) < _); decide)) (fun _ => ?_)
      refine And.intro (vp_in_nI (n := k + 1) (by omega) (by omega)) ?_
      rw [nI_clamp (by omega)]
      exact ⟨2, by omega, 2, _, rfl, by omega, Or.inr (Or.inr (Or.inl ⟨rfl, rfl⟩)), rfl, rfl, by rw [← nI_1 (k + 1)] <;> rfl⟩
    · refine And.intro (fun h1 => absurd h1 (by show ¬ ((_ : Int32) < _); decide)) (fun _ => ?_)
      refine And.intro (vp_in_nI (n := k + 2) (by omega) (by omega)) ?_
      rw [nI_clamp (by omega)]
      exact ⟨1, by omega, 3, _, rfl, by omega, Or.inr (Or.inr (Or.inr (Or.inl ⟨rfl, rfl⟩))), rfl, rfl, by rw [← nI_1 (k + 2)] <;> rfl⟩
    · refine And.intro (fun h1 => absurd h1 (by show ¬ ((_ : Int32) < _); decide)) (fun _ => ?_)
      refine And.intro (vp_in_nI (n := k + 3) (by omega) (by omega)) ?_
      rw [nI_clamp (by omega)]
      exact ⟨0, by omega, 4, _, rfl, by omega, Or.inr (Or.inr (Or.inr (Or.inr ⟨rfl, rfl⟩))), rfl, rfl, by rw [← nI_1 (k + 3)] <;> rfl⟩
    · refine And.intro (fun _ => ?_) (fun h1 => absurd (by show ((_ : Int32) < _); decide) h1)
      exact ⟨rfl, rfl⟩
set_option maxRecDepth 100000 in
theorem c_X12_feed {l : Launch} {M_now M_aside M_kept M_mintAt M_mintOf M_wholeOf M_isWall M_wasWall M_said M_waitsAt M_saidLetter M_saidFrom M_saidHalf M_saidTo M_codes M_clauseOf M_codeFrom M_codeHalf M_codeTo M_stack M_facts M_newStamps M_roundFrom M_roundAt M_roundTimes M_usesNow M_wasAt M_someOf M_fewestFor M_getsOf : List (Option Nat)} {M_stampMany M_place0 M_length0 M_fault M_number0 M_open M_codeMany M_waiting M_saidMany M_clauses M_newMany M_rounds M_stampFrom M_stampTimes M_lines M_spot0 M_pullAcross M_pullAlong M_stepsNow M_fallenNow M_isKept : Int32} {M_tape : Nat → Int32}  {a b c d e : Int32} {k : Nat} (hk : k + 20 ≤ 260) : MetP l 1 yX12_feed cX12_feed 6 (some .int) 0 0 [.inr (some (.inl 0)), .inl a, .inl b, .inl c, .inl d, .inl e] [.inr (11, [.inr (some (.inr M_now)), .inr (some (.inr M_aside)), .inr (some (.inr M_kept)), .inr (some (.inr M_mintAt)), .inr (some (.inr M_mintOf)), .inr (some (.inr M_wholeOf)), .inr (some (.inr M_isWall)), .inr (some (.inr M_wasWall)), .inl M_stampMany, .inr (some (.inl 1)), .inl ((nI k)), .inl M_place0, .inl M_length0, .inl M_fault, .inl M_number0, .inl M_open, .inl M_codeMany, .inl M_waiting, .inl M_saidMany, .inl M_clauses, .inr (some (.inr M_said)), .inr (some (.inr M_waitsAt)), .inr (some (.inr M_saidLetter)), .inr (some (.inr M_saidFrom)), .inr (some (.inr M_saidHalf)), .inr (some (.inr M_saidTo)), .inr (some (.inr M_codes)), .inr (some (.inr M_clauseOf)), .inr (some (.inr M_codeFrom)), .inr (some (.inr M_codeHalf)), .inr (some (.inr M_codeTo)), .inr (some (.inr M_stack)), .inr (some (.inr M_facts)), .inr (some (.inr M_newStamps)), .inr (some (.inr M_roundFrom)), .inr (some (.inr M_roundAt)), .inr (some (.inr M_roundTimes)), .inl M_newMany, .inl M_rounds, .inl M_stampFrom, .inl M_stampTimes, .inl M_lines, .inl M_spot0, .inl M_pullAcross, .inl M_pullAlong, .inl M_stepsNow, .inl M_fallenNow, .inr (some (.inr M_usesNow)), .inr (some (.inr M_wasAt)), .inr (some (.inr M_someOf)), .inr (some (.inr M_fewestFor)), .inr (some (.inr M_getsOf)), .inl M_isKept]), .inl (1, 260, M_tape)] (fun r h' => r = some (.inl (nI (k + 20))) ∧ h' = [.inr (11, [.inr (some (.inr M_now)), .inr (some (.inr M_aside)), .inr (some (.inr M_kept)), .inr (some (.inr M_mintAt)), .inr (some (.inr M_mintOf)), .inr (some (.inr M_wholeOf)), .inr (some (.inr M_isWall)), .inr (some (.inr M_wasWall)), .inl M_stampMany, .inr (some (.inl 1)), .inl ((nI (k + 20))), .inl M_place0, .inl M_length0, .inl M_fault, .inl M_number0, .inl M_open, .inl M_codeMany, .inl M_waiting, .inl M_saidMany, .inl M_clauses, .inr (some (.inr M_said)), .inr (some (.inr M_waitsAt)), .inr (some (.inr M_saidLetter)), .inr (some (.inr M_saidFrom)), .inr (some (.inr M_saidHalf)), .inr (some (.inr M_saidTo)), .inr (some (.inr M_codes)), .inr (some (.inr M_clauseOf)), .inr (some (.inr M_codeFrom)), .inr (some (.inr M_codeHalf)), .inr (some (.inr M_codeTo)), .inr (some (.inr M_stack)), .inr (some (.inr M_facts)), .inr (some (.inr M_newStamps)), .inr (some (.inr M_roundFrom)), .inr (some (.inr M_roundAt)), .inr (some (.inr M_roundTimes)), .inl M_newMany, .inl M_rounds, .inl M_stampFrom, .inl M_stampTimes, .inl M_lines, .inl M_spot0, .inl M_pullAcross, .inl M_pullAlong, .inl M_stepsNow, .inl M_fallenNow, .inr (some (.inr M_usesNow)), .inr (some (.inr M_wasAt)), .inr (some (.inr M_someOf)), .inr (some (.inr M_fewestFor)), .inr (some (.inr M_getsOf)), .inl M_isKept]), .inl (1, 260, (fdR M_tape k a b c d e))]) := by
  refine m_X12_feed (Nat.le_of_ble_eq_true rfl) ?_
  refine And.intro (fun _ => ?_) (fun h1 => ?_)
  · refine call0 (c_X12_types (k := k) (by omega)) rfl rfl ?_
    rintro r h' ⟨rfl, rfl⟩
    refine call0 (c_X12_types (k := k + 4) (by omega)) rfl rfl ?_
    rintro r h' ⟨rfl, rfl⟩
    refine call0 (c_X12_types (k := k + 8) (by omega)) rfl rfl ?_
    rintro r h' ⟨rfl, rfl⟩
    refine call0 (c_X12_types (k := k + 12) (by omega)) rfl rfl ?_
    rintro r h' ⟨rfl, rfl⟩
    refine call0 (c_X12_types (k := k + 16) (by omega)) rfl rfl ?_
    rintro r h' ⟨rfl, rfl⟩
    exact ⟨rfl, rfl⟩
  · have h1 : ¬ nI k + nI 20 ≤ nI 260 := h1
    rw [nI_add] at h1
    exact absurd ((nI_leI (by omega) (by omega)).mpr (by omega)) h1
set_option maxRecDepth 100000 in
theorem c_X10_at {l : Launch} {Tape_bytes : Nat → Int32}  {s k : Nat} (hs : s ≤ 260) (hk : k < s) : MetP l 1 yX10_at cX10_at 2 (some .int) 0 0 [.inr (some (.inl 0)), .inl (nI k)] [.inr (9, [.inr (some (.inl 1)), .inl ((nI s))]), .inl (0, 260, Tape_bytes)] (fun r h' => r = some (.inl (Tape_bytes k)) ∧ h' = [.inr (9, [.inr (some (.inl 1)), .inl ((nI s))]), .inl (0, 260, Tape_bytes)]) := by
  refine m_X10_at (Nat.le_of_ble_eq_true rfl) ?_
  refine call0 (c_within) rfl rfl ?_
  rintro r h' ⟨rfl, rfl⟩
  have e1 : f_sub (nI s) 1 = nI (s - 1) := nI_sub (a := s) (b := 1) (by omega)
  refine br_b (fun z => absurd ⟨(nI_leI (a := 0) (b := k) (by omega) (by omega)).mpr (by omega), by rw [e1]; exact (nI_leI (by omega) (by omega)).mpr (by omega)⟩ z) (fun _ => ?_)
  refine And.intro (vp_in_nI (n := k) (by omega) (by omega)) ?_
  rw [nI_clamp (by omega)]
  exact ⟨rfl, rfl⟩

