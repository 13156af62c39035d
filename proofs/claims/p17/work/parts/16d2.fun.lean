/-! ===== no room on the tape ===== -/
theorem n_X10_hasRoom {l : Launch} {Tape_bytes : Nat → Int32}  : MetP l 0 yX10_hasRoom cX10_hasRoom 2 (some .boolean) 0 0 [.inr (some (.inl 0)), .inl 20] [.inr (9, [.inr (some (.inl 1)), .inl ((nI 260))]), .inl (0, 260, Tape_bytes)] (fun r h' => r = some (.inl 0) ∧ h' = [.inr (9, [.inr (some (.inl 1)), .inl ((nI 260))]), .inl (0, 260, Tape_bytes)]) := by
  refine m_X10_hasRoom (Nat.le_of_ble_eq_true rfl) ?_
  refine And.intro (fun _ => And.intro (Or.inl rfl) ⟨rfl, rfl⟩) (fun h1 => absurd ?_ h1)
  show nI 260 < nI 260 + nI 20
  rw [nI_add]
  exact (nI_ltI (by omega) (by omega)).mpr (by omega)
theorem n_X11_feed {l : Launch} {HS_republic HS_now HS_kept HS_trial HS_clerk HS_crew HS_riddles HS_sheetReader HS_postReader HS_lawReader HS_seen HS_rules HS_spareRules : List (Option Nat)} {HS_wasKept : Int32} {Tape_bytes : Nat → Int32}  {a b c d e : Int32} : MetP l 2 yX11_feed cX11_feed 6 (some .int) 0 0 [.inr (some (.inl 0)), .inl a, .inl b, .inl c, .inl d, .inl e] [.inr (10, [.inr (some (.inl 1)), .inr (some (.inr HS_republic)), .inr (some (.inr HS_now)), .inr (some (.inr HS_kept)), .inr (some (.inr HS_trial)), .inr (some (.inr HS_clerk)), .inr (some (.inr HS_crew)), .inr (some (.inr HS_riddles)), .inr (some (.inr HS_sheetReader)), .inr (some (.inr HS_postReader)), .inr (some (.inr HS_lawReader)), .inr (some (.inr HS_seen)), .inr (some (.inr HS_rules)), .inr (some (.inr HS_spareRules)), .inl HS_wasKept]), .inr (9, [.inr (some (.inl 2)), .inl ((nI 260))]), .inl (0, 260, Tape_bytes)] (fun r h' => r = some (.inl (-1)) ∧ h' = [.inr (10, [.inr (some (.inl 1)), .inr (some (.inr HS_republic)), .inr (some (.inr HS_now)), .inr (some (.inr HS_kept)), .inr (some (.inr HS_trial)), .inr (some (.inr HS_clerk)), .inr (some (.inr HS_crew)), .inr (some (.inr HS_riddles)), .inr (some (.inr HS_sheetReader)), .inr (some (.inr HS_postReader)), .inr (some (.inr HS_lawReader)), .inr (some (.inr HS_seen)), .inr (some (.inr HS_rules)), .inr (some (.inr HS_spareRules)), .inl HS_wasKept]), .inr (9, [.inr (some (.inl 2)), .inl ((nI 260))]), .inl (0, 260, Tape_bytes)]) := by
  refine m_X11_feed (Nat.le_of_ble_eq_true rfl) ?_
  refine call0 (n_X10_hasRoom) rfl rfl ?_
  rintro r h' ⟨rfl, rfl⟩
  refine And.intro (fun _ => ⟨rfl, rfl⟩) (fun h1 => absurd rfl h1)
theorem n_X12_feed {l : Launch} {M_now M_aside M_kept M_mintAt M_mintOf M_wholeOf M_isWall M_wasWall M_said M_waitsAt M_saidLetter M_saidFrom M_saidHalf M_saidTo M_codes M_clauseOf M_codeFrom M_codeHalf M_codeTo M_stack M_facts M_newStamps M_roundFrom M_roundAt M_roundTimes M_usesNow M_wasAt M_someOf M_fewestFor M_getsOf : List (Option Nat)} {M_stampMany M_place0 M_length0 M_fault M_number0 M_open M_codeMany M_waiting M_saidMany M_clauses M_newMany M_rounds M_stampFrom M_stampTimes M_lines M_spot0 M_pullAcross M_pullAlong M_stepsNow M_fallenNow M_isKept : Int32} {M_tape : Nat → Int32}  {a b c d e : Int32} : MetP l 1 yX12_feed cX12_feed 6 (some .int) 0 0 [.inr (some (.inl 0)), .inl a, .inl b, .inl c, .inl d, .inl e] [.inr (11, [.inr (some (.inr M_now)), .inr (some (.inr M_aside)), .inr (some (.inr M_kept)), .inr (some (.inr M_mintAt)), .inr (some (.inr M_mintOf)), .inr (some (.inr M_wholeOf)), .inr (some (.inr M_isWall)), .inr (some (.inr M_wasWall)), .inl M_stampMany, .inr (some (.inl 1)), .inl ((nI 260)), .inl M_place0, .inl M_length0, .inl M_fault, .inl M_number0, .inl M_open, .inl M_codeMany, .inl M_waiting, .inl M_saidMany, .inl M_clauses, .inr (some (.inr M_said)), .inr (some (.inr M_waitsAt)), .inr (some (.inr M_saidLetter)), .inr (some (.inr M_saidFrom)), .inr (some (.inr M_saidHalf)), .inr (some (.inr M_saidTo)), .inr (some (.inr M_codes)), .inr (some (.inr M_clauseOf)), .inr (some (.inr M_codeFrom)), .inr (some (.inr M_codeHalf)), .inr (some (.inr M_codeTo)), .inr (some (.inr M_stack)), .inr (some (.inr M_facts)), .inr (some (.inr M_newStamps)), .inr (some (.inr M_roundFrom)), .inr (some (.inr M_roundAt)), .inr (some (.inr M_roundTimes)), .inl M_newMany, .inl M_rounds, .inl M_stampFrom, .inl M_stampTimes, .inl M_lines, .inl M_spot0, .inl M_pullAcross, .inl M_pullAlong, .inl M_stepsNow, .inl M_fallenNow, .inr (some (.inr M_usesNow)), .inr (some (.inr M_wasAt)), .inr (some (.inr M_someOf)), .inr (some (.inr M_fewestFor)), .inr (some (.inr M_getsOf)), .inl M_isKept]), .inl (1, 260, M_tape)] (fun r h' => r = some (.inl (-1)) ∧ h' = [.inr (11, [.inr (some (.inr M_now)), .inr (some (.inr M_aside)), .inr (some (.inr M_kept)), .inr (some (.inr M_mintAt)), .inr (some (.inr M_mintOf)), .inr (some (.inr M_wholeOf)), .inr (some (.inr M_isWall)), .inr (some (.inr M_wasWall)), .inl M_stampMany, .inr (some (.inl 1)), .inl ((nI 260)), .inl M_place0, .inl M_length0, .inl M_fault, .inl M_number0, .inl M_open, .inl M_codeMany, .inl M_waiting, .inl M_saidMany, .inl M_clauses, .inr (some (.inr M_said)), .inr (some (.inr M_waitsAt)), .inr (some (.inr M_saidLetter)), .inr (some (.inr M_saidFrom)), .inr (some (.inr M_saidHalf)), .inr (some (.inr M_saidTo)), .inr (some (.inr M_codes)), .inr (some (.inr M_clauseOf)), .inr (some (.inr M_codeFrom)), .inr (some (.inr M_codeHalf)), .inr (some (.inr M_codeTo)), .inr (some (.inr M_stack)), .inr (some (.inr M_facts)), .inr (some (.inr M_newStamps)), .inr (some (.inr M_roundFrom)), .inr (some (.inr M_roundAt)), .inr (some (.inr M_roundTimes)), .inl M_newMany, .inl M_rounds, .inl M_stampFrom, .inl M_stampTimes, .inl M_lines, .inl M_spot0, .inl M_pullAcross, .inl M_pullAlong, .inl M_stepsNow, .inl M_fallenNow, .inr (some (.inr M_usesNow)), .inr (some (.inr M_wasAt)), .inr (some (.inr M_someOf)), .inr (some (.inr M_fewestFor)), .inr (some (.inr M_getsOf)), .inl M_isKept]), .inl (1, 260, M_tape)]) := by
  refine m_X12_feed (Nat.le_of_ble_eq_true rfl) ?_
  refine And.intro (fun h1 => ?_) (fun _ => ⟨rfl, rfl⟩)
  have h1 : nI 260 + nI 20 ≤ nI 260 := h1
  rw [nI_add] at h1
  exact absurd ((nI_leI (by omega) (by omega)).mp h1) (by omega)
abbrev rgB (lo hi : Int) (f : Nat → Int32) : Prop := ∀ i, i < 260 → lo ≤ (f i).toInt ∧ (f i).toInt ≤ hi
theorem upd_rg {lo hi : Int} {f : Nat → Int32} {k : Nat} {x : Int32} (h : rgB lo hi f) (hx : lo ≤ x.toInt ∧ x.toInt ≤ hi) : rgB lo hi (upd f k x) := fun i hi' => by
  unfold upd
  split
  · exact hx
  · exact h i hi'
theorem nar_rg {x : Int32} : -128 ≤ (f_nar 1 x).toInt ∧ (f_nar 1 x).toInt ≤ 127 := by
  have e : f_nar 1 x = x.toInt8.toInt32 := rfl
  rw [e, Int8.toInt_toInt32]
  have h1 := Int8.le_toInt x.toInt8
  have h2 := Int8.toInt_lt x.toInt8
  omega
theorem wdC_rg {f : Nat → Int32} {k : Nat} {w : Int32} (h : rgB 0 255 f) : rgB 0 255 (wdC f k w) := upd_rg (upd_rg (upd_rg (upd_rg h oct_rng) oct_rng) oct_rng) oct_rng
theorem wdR_rg {f : Nat → Int32} {k : Nat} {w : Int32} (h : rgB (-128) 127 f) : rgB (-128) 127 (wdR f k w) := upd_rg (upd_rg (upd_rg (upd_rg h nar_rg) nar_rg) nar_rg) nar_rg
theorem fdC_rg {f : Nat → Int32} {k : Nat} {a b c d e : Int32} (h : rgB 0 255 f) : rgB 0 255 (fdC f k a b c d e) := wdC_rg (wdC_rg (wdC_rg (wdC_rg (wdC_rg h))))
theorem fdR_rg {f : Nat → Int32} {k : Nat} {a b c d e : Int32} (h : rgB (-128) 127 f) : rgB (-128) 127 (fdR f k a b c d e) := wdR_rg (wdR_rg (wdR_rg (wdR_rg (wdR_rg h))))
/-- the bytes as numbers -/
def ob (f : Nat → Int32) (i : Nat) : Nat := if i < 260 then (f i).toInt.toNat else 0
theorem ob_ok {f F : Nat → Int32} {i : Nat} (hi : i < 260) (e : F i = f i) (r : 0 ≤ (F i).toInt ∧ (F i).toInt ≤ 255) : ob f i ≤ 255 ∧ F i = nI (ob f i) := by
  unfold ob
  rw [if_pos hi, ← e]
  refine ⟨by omega, Int32.toInt_inj.mp ?_⟩
  rw [nI_toInt (by omega)]
  omega
theorem ob_same {f g : Nat → Int32} (h : sameB f g) : ob f = ob (fun i => f_and (g i) 255) := funext fun i => by
  unfold ob
  by_cases q : i < 260
  · rw [if_pos q, if_pos q, h i q]
  · rw [if_neg q, if_neg q]
theorem sz_n {c : Nat} (h : c ≤ 1000) : (c : Int) ≤ (nI c).toInt ∧ (nI c).toInt ≤ (c : Int) := by rw [nI_toInt (by omega)]; omega

