/-! ===== sheets: what both sides do with them ===== -/
theorem ftV_i {k a : Nat} (hk : k ≤ 9) (ha : a ≤ 240) : (ftV k a).toInt = -(1000 * (k : Int) + a) := by
  unfold ftV f_sub f_mul
  have e1 : (-1000 : Int32).toInt = -1000 := by decide
  rw [Int32.toInt_sub, Int32.toInt_mul, nI_toInt (by omega), nI_toInt (by omega), e1, bm (n := -1000 * (k : Int)) (by omega) (by omega), bm (by omega) (by omega)]
  omega
theorem shE_k {b : Nat → Nat} {n k a : Nat} (h : shE b n (.inl (k, a))) : ∀ f, (∃ j, shG b n (f + j) true 0 0 (fun _ => 0) [] = .inl (k, a)) := fun f => by
  obtain ⟨j, e⟩ := h
  exact ⟨j, e f⟩
set_option maxRecDepth 100000 in
theorem c_X7_clearStamps {l : Launch} {Rep_toldMints Rep_walls Rep_stamps : Int32} {Rep_mintX Rep_mintY Rep_wall Rep_mintOf Rep_grainsOf : Nat → Int32}  : MetP l 0 yX7_clearStamps cX7_clearStamps 1 none 0 0 [.inr (some (.inl 0))] [.inr (6, [.inr (some (.inl 1)), .inr (some (.inl 2)), .inr (some (.inl 3)), .inr (some (.inl 4)), .inr (some (.inl 5)), .inl Rep_toldMints, .inl Rep_walls, .inl Rep_stamps]), .inl (0, 8, Rep_mintX), .inl (0, 8, Rep_mintY), .inl (2, 384, Rep_wall), .inl (0, 48, Rep_mintOf), .inl (0, 48, Rep_grainsOf)] (fun r h' => r = none ∧ h' = [.inr (6, [.inr (some (.inl 1)), .inr (some (.inl 2)), .inr (some (.inl 3)), .inr (some (.inl 4)), .inr (some (.inl 5)), .inl Rep_toldMints, .inl Rep_walls, .inl 0]), .inl (0, 8, Rep_mintX), .inl (0, 8, Rep_mintY), .inl (2, 384, Rep_wall), .inl (0, 48, Rep_mintOf), .inl (0, 48, Rep_grainsOf)]) := by
  refine m_X7_clearStamps (Nat.le_of_ble_eq_true rfl) ?_
  exact ⟨rfl, rfl⟩
set_option maxRecDepth 100000 in
theorem c_X7_print {l : Launch} {Rep_toldMints Rep_walls : Int32} {Rep_mintX Rep_mintY Rep_wall Rep_mintOf Rep_grainsOf : Nat → Int32}  {x y : Int32} {c : Nat} (hc : c < 48) : MetP l 0 yX7_print cX7_print 3 none 0 0 [.inr (some (.inl 0)), .inl x, .inl y] [.inr (6, [.inr (some (.inl 1)), .inr (some (.inl 2)), .inr (some (.inl 3)), .inr (some (.inl 4)), .inr (some (.inl 5)), .inl Rep_toldMints, .inl Rep_walls, .inl ((nI c))]), .inl (0, 8, Rep_mintX), .inl (0, 8, Rep_mintY), .inl (2, 384, Rep_wall), .inl (0, 48, Rep_mintOf), .inl (0, 48, Rep_grainsOf)] (fun r h' => r = none ∧ h' = [.inr (6, [.inr (some (.inl 1)), .inr (some (.inl 2)), .inr (some (.inl 3)), .inr (some (.inl 4)), .inr (some (.inl 5)), .inl Rep_toldMints, .inl Rep_walls, .inl ((nI (c + 1)))]), .inl (0, 8, Rep_mintX), .inl (0, 8, Rep_mintY), .inl (2, 384, Rep_wall), .inl (0, 48, (upd Rep_mintOf c x)), .inl (0, 48, (upd Rep_grainsOf c y))]) := by
  refine m_X7_print (Nat.le_of_ble_eq_true rfl) ?_
  refine And.intro (fun w => absurd ((nI_leI (a := 48) (by omega) (by omega)).mp w) (by omega)) (fun _ => ?_)
  refine And.intro (vp_in_nI (n := c) (by omega) (by omega)) ?_
  refine And.intro (vp_in_nI (n := c) (by omega) (by omega)) ?_
  rw [nI_clamp (by omega)]
  exact ⟨rfl, by rw [← nI_1 c] <;> rfl⟩
set_option maxRecDepth 100000 in
theorem c_X9_printInto {l : Launch} {SR_text : List (Option Nat)} {SR_end SR_at SR_ahead SR_fault Rep_toldMints Rep_walls Rep_stamps : Int32} {SR_mint SR_grains Rep_mintX Rep_mintY Rep_wall Rep_mintOf Rep_grainsOf : Nat → Int32}  {c : Nat} (hc : c ≤ 48) : MetP l 1 yX9_printInto cX9_printInto 3 none 0 0 [.inr (some (.inl 0)), .inr (some (.inl 3))] [.inr (8, [.inr (some (.inr SR_text)), .inl SR_end, .inl SR_at, .inl SR_ahead, .inl SR_fault, .inr (some (.inl 1)), .inr (some (.inl 2)), .inl ((nI c))]), .inl (0, 48, SR_mint), .inl (0, 48, SR_grains), .inr (6, [.inr (some (.inl 4)), .inr (some (.inl 5)), .inr (some (.inl 6)), .inr (some (.inl 7)), .inr (some (.inl 8)), .inl Rep_toldMints, .inl Rep_walls, .inl Rep_stamps]), .inl (0, 8, Rep_mintX), .inl (0, 8, Rep_mintY), .inl (2, 384, Rep_wall), .inl (0, 48, Rep_mintOf), .inl (0, 48, Rep_grainsOf)] (fun r h' => ∃ (mo gr : Nat → Int32), r = none ∧ (∀ i, i < c → mo i = SR_mint i ∧ gr i = SR_grains i) ∧ h' = [.inr (8, [.inr (some (.inr SR_text)), .inl SR_end, .inl SR_at, .inl SR_ahead, .inl SR_fault, .inr (some (.inl 1)), .inr (some (.inl 2)), .inl ((nI c))]), .inl (0, 48, SR_mint), .inl (0, 48, SR_grains), .inr (6, [.inr (some (.inl 4)), .inr (some (.inl 5)), .inr (some (.inl 6)), .inr (some (.inl 7)), .inr (some (.inl 8)), .inl Rep_toldMints, .inl Rep_walls, .inl ((nI c))]), .inl (0, 8, Rep_mintX), .inl (0, 8, Rep_mintY), .inl (2, 384, Rep_wall), .inl (0, 48, mo), .inl (0, 48, gr)]) := by
  refine m_X9_printInto (fun μ L st h => ∃ (s : Nat) (mo gr : Nat → Int32), μ = c - s ∧ s ≤ c ∧ (∀ i, i < s → mo i = SR_mint i ∧ gr i = SR_grains i) ∧ L = [some (.inr (some (.inl 0))), some (.inr (some (.inl 3))), some (.inl (nI s))] ∧ st = [] ∧ h = [.inr (8, [.inr (some (.inr SR_text)), .inl SR_end, .inl SR_at, .inl SR_ahead, .inl SR_fault, .inr (some (.inl 1)), .inr (some (.inl 2)), .inl ((nI c))]), .inl (0, 48, SR_mint), .inl (0, 48, SR_grains), .inr (6, [.inr (some (.inl 4)), .inr (some (.inl 5)), .inr (some (.inl 6)), .inr (some (.inl 7)), .inr (some (.inl 8)), .inl Rep_toldMints, .inl Rep_walls, .inl ((nI s))]), .inl (0, 8, Rep_mintX), .inl (0, 8, Rep_mintY), .inl (2, 384, Rep_wall), .inl (0, 48, mo), .inl (0, 48, gr)]) (Nat.le_of_ble_eq_true rfl) ?_ ?_
  · refine call0 (c_X7_clearStamps) rfl rfl ?_
    rintro r h' ⟨rfl, rfl⟩
    exact ⟨_, 0, Rep_mintOf, Rep_grainsOf, rfl, by omega, fun i hi => absurd hi (Nat.not_lt_zero _), rfl, rfl, rfl⟩
  · rintro μ L st h ⟨s, mo, gr, hμ, h1, h2, rfl, rfl, rfl⟩
    refine And.intro (fun q => ?_) (fun q => ?_)
    · have q := (nI_leI (by omega) (by omega)).mp q
      obtain rfl : s = c := by omega
      exact ⟨mo, gr, rfl, h2, rfl⟩
    · have q : s < c := Nat.lt_of_not_le fun z => q ((nI_leI (by omega) (by omega)).mpr z)
      refine And.intro (fun w => absurd ((nI_leI (a := 48) (by omega) (by omega)).mp w) (by omega)) (fun _ => ?_)
      refine And.intro (vp_in_nI (n := s) (by omega) (by omega)) ?_
      refine And.intro (vp_in_nI (n := s) (by omega) (by omega)) ?_
      rw [nI_clamp (by omega)]
      refine call0 (c_X7_print (c := s) (by omega)) rfl rfl ?_
      rintro r h' ⟨rfl, rfl⟩
      refine ⟨c - (s + 1), by omega, s + 1, _, _, rfl, by omega, fun i hi => ?_, by rw [← nI_1 s] <;> rfl, rfl, rfl⟩
      by_cases e : i = s
      · subst e
        rw [upd_sI, upd_sI]
        exact ⟨rfl, rfl⟩
      · rw [upd_nI e, upd_nI e]
        exact h2 i (by omega)
set_option maxRecDepth 100000 in
theorem c_X4_peelFrom {l : Launch} {Let_told Let_walled Let_day Let_drawState : Int32} {Let_place Let_paste Let_letter Let_used : Nat → Int32}  : MetP l 1 yX4_peelFrom cX4_peelFrom 3 none 0 0 [.inr (some (.inl 0)), .inl 0] [.inr (4, [.inr (some (.inl 1)), .inr (some (.inl 2)), .inr (some (.inl 3)), .inr (some (.inl 4)), .inl Let_told, .inl Let_walled, .inl Let_day, .inl Let_drawState]), .inl (0, 8, Let_place), .inl (0, 8, Let_paste), .inl (0, 48, Let_letter), .inl (0, 48, Let_used)] (fun r h' => ∃ (le us : Nat → Int32), r = none ∧ (∀ i, i < 48 → le i = -2 ∧ us i = 0) ∧ h' = [.inr (4, [.inr (some (.inl 1)), .inr (some (.inl 2)), .inr (some (.inl 3)), .inr (some (.inl 4)), .inl Let_told, .inl Let_walled, .inl Let_day, .inl Let_drawState]), .inl (0, 8, Let_place), .inl (0, 8, Let_paste), .inl (0, 48, le), .inl (0, 48, us)]) := by
  refine m_X4_peelFrom (fun μ L st h => ∃ (s : Nat) (le us : Nat → Int32), μ = 48 - s ∧ s ≤ 48 ∧ (∀ i, i < s → le i = -2 ∧ us i = 0) ∧ L = [some (.inr (some (.inl 0))), some (.inl 0), some (.inl (nI s))] ∧ st = [] ∧ h = [.inr (4, [.inr (some (.inl 1)), .inr (some (.inl 2)), .inr (some (.inl 3)), .inr (some (.inl 4)), .inl Let_told, .inl Let_walled, .inl Let_day, .inl Let_drawState]), .inl (0, 8, Let_place), .inl (0, 8, Let_paste), .inl (0, 48, le), .inl (0, 48, us)]) (Nat.le_of_ble_eq_true rfl) ?_ ?_
  · refine And.intro rfl ?_
    exact ⟨_, 0, Let_letter, Let_used, rfl, by omega, fun i hi => absurd hi (Nat.not_lt_zero _), rfl, rfl, rfl⟩
  · rintro μ L st h ⟨s, le, us, hμ, h1, h2, rfl, rfl, rfl⟩
    refine And.intro (fun q => ?_) (fun q => ?_)
    · have q := (nI_leI (a := 48) (by omega) (by omega)).mp q
      exact ⟨le, us, rfl, fun i hi => h2 i (by omega), rfl⟩
    · have q : s < 48 := Nat.lt_of_not_le fun z => q ((nI_leI (a := 48) (by omega) (by omega)).mpr z)
      refine And.intro (vp_in_nI (n := s) (by omega) (by omega)) ?_
      refine And.intro (vp_in_nI (n := s) (by omega) (by omega)) ?_
      rw [nI_clamp (by omega)]
      refine ⟨48 - (s + 1), by omega, s + 1, _, _, rfl, by omega, fun i hi => ?_, by rw [← nI_1 s] <;> rfl, rfl, rfl⟩
      by_cases e : i = s
      · subst e
        rw [upd_sI, upd_sI]
        exact ⟨rfl, rfl⟩
      · rw [upd_nI e, upd_nI e]
        exact h2 i (by omega)
/-- what a sheet answers -/
def shY (b : Nat → Nat) (n : Nat) (y : Int32) : Prop := (∃ k a, shE b n (.inl (k, a)) ∧ y = ftV k a) ∨ (∃ c g, shE b n (.inr (c, g)) ∧ y = nI c)
theorem shY_eq {b : Nat → Nat} {n : Nat} {y y' : Int32} (h : shY b n y) (h' : shY b n y') : y = y' := by
  rcases h with ⟨k, a, e, rfl⟩ | ⟨c, g, e, rfl⟩ <;> rcases h' with ⟨k', a', e', rfl⟩ | ⟨c', g', e', rfl⟩
  · cases shE_u e e'
    rfl
  · cases shE_u e e'
  · cases shE_u e e'
  · cases shE_u e e'
    rfl
set_option maxRecDepth 100000 in
theorem c_X11_sheet {l : Launch} {HS_kept HS_trial HS_clerk HS_crew HS_riddles HS_postReader HS_lawReader HS_seen HS_rules HS_spareRules : List (Option Nat)} {HS_wasKept SR_end SR_at SR_ahead SR_fault SR_size Rep_toldMints Rep_walls Rep_stamps Now_told Now_walled Now_day Now_drawState : Int32} {Tape_bytes SR_mint SR_grains Rep_mintX Rep_mintY Rep_wall Rep_mintOf Rep_grainsOf Now_place Now_paste Now_letter Now_used : Nat → Int32}  {o : Nat → Nat} {n s : Nat} (hn1 : 1 ≤ n) (hn : n ≤ 60) (hs : s ≤ 260) (hns : n ≤ s) (hb : txB Tape_bytes o n) : MetP l 102 yX11_sheet cX11_sheet 3 (some .int) 0 0 [.inr (some (.inl 0)), .inl (nI n)] [.inr (10, [.inr (some (.inl 1)), .inr (some (.inl 6)), .inr (some (.inl 12)), .inr (some (.inr HS_kept)), .inr (some (.inr HS_trial)), .inr (some (.inr HS_clerk)), .inr (some (.inr HS_crew)), .inr (some (.inr HS_riddles)), .inr (some (.inl 3)), .inr (some (.inr HS_postReader)), .inr (some (.inr HS_lawReader)), .inr (some (.inr HS_seen)), .inr (some (.inr HS_rules)), .inr (some (.inr HS_spareRules)), .inl HS_wasKept]), .inr (9, [.inr (some (.inl 2)), .inl ((nI s))]), .inl (0, 260, Tape_bytes), .inr (8, [.inr (some (.inl 2)), .inl SR_end, .inl SR_at, .inl SR_ahead, .inl SR_fault, .inr (some (.inl 4)), .inr (some (.inl 5)), .inl SR_size]), .inl (0, 48, SR_mint), .inl (0, 48, SR_grains), .inr (6, [.inr (some (.inl 7)), .inr (some (.inl 8)), .inr (some (.inl 9)), .inr (some (.inl 10)), .inr (some (.inl 11)), .inl Rep_toldMints, .inl Rep_walls, .inl Rep_stamps]), .inl (0, 8, Rep_mintX), .inl (0, 8, Rep_mintY), .inl (2, 384, Rep_wall), .inl (0, 48, Rep_mintOf), .inl (0, 48, Rep_grainsOf), .inr (4, [.inr (some (.inl 13)), .inr (some (.inl 14)), .inr (some (.inl 15)), .inr (some (.inl 16)), .inl Now_told, .inl Now_walled, .inl Now_day, .inl Now_drawState]), .inl (0, 8, Now_place), .inl (0, 8, Now_paste), .inl (0, 48, Now_letter), .inl (0, 48, Now_used)] (fun r h' => ∃ (y at_ ah fa sm : Int32) (c : Nat) (fm fg mo gr le us : Nat → Int32), r = some (.inl y) ∧ c ≤ 48 ∧ shY o n y ∧ ((sm = Rep_stamps ∧ mo = Rep_mintOf ∧ gr = Rep_grainsOf ∧ ∃ k a, shE o n (.inl (k, a))) ∨ (sm = nI c ∧ ∃ g, shE o n (.inr (c, g)) ∧ ∀ i, i < c → mo i = nI (g i / 3) ∧ gr i = nI (g i % 3))) ∧ h' = [.inr (10, [.inr (some (.inl 1)), .inr (some (.inl 6)), .inr (some (.inl 12)), .inr (some (.inr HS_kept)), .inr (some (.inr HS_trial)), .inr (some (.inr HS_clerk)), .inr (some (.inr HS_crew)), .inr (some (.inr HS_riddles)), .inr (some (.inl 3)), .inr (some (.inr HS_postReader)), .inr (some (.inr HS_lawReader)), .inr (some (.inr HS_seen)), .inr (some (.inr HS_rules)), .inr (some (.inr HS_spareRules)), .inl HS_wasKept]), .inr (9, [.inr (some (.inl 2)), .inl 0]), .inl (0, 260, Tape_bytes), .inr (8, [.inr (some (.inl 2)), .inl ((nI n)), .inl at_, .inl ah, .inl fa, .inr (some (.inl 4)), .inr (some (.inl 5)), .inl ((nI c))]), .inl (0, 48, fm), .inl (0, 48, fg), .inr (6, [.inr (some (.inl 7)), .inr (some (.inl 8)), .inr (some (.inl 9)), .inr (some (.inl 10)), .inr (some (.inl 11)), .inl Rep_toldMints, .inl Rep_walls, .inl sm]), .inl (0, 8, Rep_mintX), .inl (0, 8, Rep_mintY), .inl (2, 384, Rep_wall), .inl (0, 48, mo), .inl (0, 48, gr), .inr (4, [.inr (some (.inl 13)), .inr (some (.inl 14)), .inr (some (.inl 15)), .inr (some (.inl 16)), .inl Now_told, .inl Now_walled, .inl Now_day, .inl Now_drawState]), .inl (0, 8, Now_place), .inl (0, 8, Now_paste), .inl (0, 48, le), .inl (0, 48, us)]) := by
  refine m_X11_sheet (Nat.le_of_ble_eq_true rfl) ?_
  refine call0 (c_canGive) rfl rfl ?_
  rintro r h' ⟨rfl, rfl⟩
  refine br_b (fun z => absurd ⟨(nI_bt (a := 1) (b := 60) (by omega) (by omega) (by omega)).mpr ⟨hn1, hn⟩, (nI_leI (by omega) (by omega)).mpr hns⟩ z) (fun _ => ?_)
  refine call0 (c_X9_read (b := o) (n := n) hn1 hn hb) rfl rfl ?_
  rintro r h' ⟨y, at_, ah, fa, c, fm, fg, rfl, hc, hp, rfl⟩
  refine call0 (c_X10_empty) rfl rfl ?_
  rintro r h' ⟨rfl, rfl⟩
  rcases hp with ⟨k, a, k9, an, e, rfl⟩ | ⟨g, e, rfl, hg⟩
  · have k1 := k9.1
    have ei := ftV_i k9.2 (show a ≤ 240 by omega)
    have z0 : (0 : Int32).toInt = 0 := rfl
    refine And.intro (fun _ => ?_) (fun z => absurd (Int32.lt_iff_toInt_lt.mpr (by omega)) z)
    exact ⟨_, at_, ah, fa, Rep_stamps, c, fm, fg, Rep_mintOf, Rep_grainsOf, Now_letter, Now_used, rfl, hc, Or.inl ⟨k, a, e, rfl⟩, Or.inl ⟨rfl, rfl, rfl, k, a, e⟩, rfl⟩
  · refine And.intro (fun z => absurd ((nI_ltI (b := 0) (by omega) (by omega)).mp z) (by omega)) (fun _ => ?_)
    refine call0 (c_X9_printInto (c := c) hc) rfl rfl ?_
    rintro r h' ⟨mo, gr, rfl, hm, rfl⟩
    refine call0 c_X4_peelFrom rfl rfl ?_
    rintro r h' ⟨le, us, rfl, hle, rfl⟩
    exact ⟨_, at_, ah, fa, nI c, c, fm, fg, mo, gr, le, us, rfl, hc, Or.inr ⟨c, g, e, rfl⟩, Or.inr ⟨rfl, g, e, fun i hi => by rw [(hm i hi).1, (hm i hi).2]; exact hg i hi⟩, rfl⟩
theorem rowD : ∀ n, n < 24 → nI n / 3 = nI (n / 3) ∧ nI n - nI n / 3 * 3 = nI (n % 3) := by decide +kernel
theorem x_X12_sheet {l : Launch} {D : Nat → Int32} {M_aside M_kept M_mintAt M_isWall M_wasWall M_said M_waitsAt M_saidLetter M_saidFrom M_saidHalf M_saidTo M_codes M_clauseOf M_codeFrom M_codeHalf M_codeTo M_stack M_facts M_usesNow M_wasAt M_someOf M_fewestFor M_getsOf : List (Option Nat)} {M_stampMany M_place0 M_length0 M_fault M_number0 M_open M_codeMany M_waiting M_saidMany M_clauses M_newMany M_rounds M_stampFrom M_stampTimes M_lines M_spot0 M_pullAcross M_pullAlong M_stepsNow M_fallenNow M_isKept : Int32} {M_now M_mintOf M_wholeOf M_tape M_newStamps M_roundFrom M_roundAt M_roundTimes : Nat → Int32}  {b : Nat → Nat} {n s : Nat} (hn1 : 1 ≤ n) (hn : n ≤ 60) (hs : s ≤ 260) (hns : n ≤ s) (hb : txM M_tape b n) (hN : segD D M_now) (hMO : rg 48 0 7 M_mintOf) (hW : rg 48 0 2 M_wholeOf) (hR : nsR M_newStamps) (hsm : 0 ≤ M_stampMany.toInt ∧ M_stampMany.toInt ≤ 48) : MetP l 3 yX12_sheet cX12_sheet 4 (some .int) 0 0 [.inr (some (.inl 0)), .inl (nI n)] [.inr (11, [.inr (some (.inl 1)), .inr (some (.inr M_aside)), .inr (some (.inr M_kept)), .inr (some (.inr M_mintAt)), .inr (some (.inl 2)), .inr (some (.inl 3)), .inr (some (.inr M_isWall)), .inr (some (.inr M_wasWall)), .inl M_stampMany, .inr (some (.inl 4)), .inl ((nI s)), .inl M_place0, .inl M_length0, .inl M_fault, .inl M_number0, .inl M_open, .inl M_codeMany, .inl M_waiting, .inl M_saidMany, .inl M_clauses, .inr (some (.inr M_said)), .inr (some (.inr M_waitsAt)), .inr (some (.inr M_saidLetter)), .inr (some (.inr M_saidFrom)), .inr (some (.inr M_saidHalf)), .inr (some (.inr M_saidTo)), .inr (some (.inr M_codes)), .inr (some (.inr M_clauseOf)), .inr (some (.inr M_codeFrom)), .inr (some (.inr M_codeHalf)), .inr (some (.inr M_codeTo)), .inr (some (.inr M_stack)), .inr (some (.inr M_facts)), .inr (some (.inl 5)), .inr (some (.inl 6)), .inr (some (.inl 7)), .inr (some (.inl 8)), .inl M_newMany, .inl M_rounds, .inl M_stampFrom, .inl M_stampTimes, .inl M_lines, .inl M_spot0, .inl M_pullAcross, .inl M_pullAlong, .inl M_stepsNow, .inl M_fallenNow, .inr (some (.inr M_usesNow)), .inr (some (.inr M_wasAt)), .inr (some (.inr M_someOf)), .inr (some (.inr M_fewestFor)), .inr (some (.inr M_getsOf)), .inl M_isKept]), .inl (0, 130, M_now), .inl (0, 48, M_mintOf), .inl (0, 48, M_wholeOf), .inl (1, 260, M_tape), .inl (0, 48, M_newStamps), .inl (0, 2, M_roundFrom), .inl (0, 2, M_roundAt), .inl (0, 2, M_roundTimes)] (fun r h' => ∃ (y : Int32) (nw mo wh ns rf ra rt : Nat → Int32) (sm pp f nm rd sf st : Int32), r = some (.inl y) ∧ shY b n y ∧ ((sm = M_stampMany ∧ mo = M_mintOf ∧ wh = M_wholeOf ∧ ∃ k a, shE b n (.inl (k, a))) ∨ (∃ c g, c ≤ 48 ∧ sm = nI c ∧ shE b n (.inr (c, g)) ∧ ∀ i, i < c → mo i = nI (g i / 3) ∧ wh i = nI (g i % 3))) ∧ segD D nw ∧ rg 48 0 7 mo ∧ rg 48 0 2 wh ∧ nsR ns ∧ (0 ≤ sm.toInt ∧ sm.toInt ≤ 48) ∧ (0 ≤ pp.toInt ∧ pp.toInt ≤ 240) ∧ h' = [.inr (11, [.inr (some (.inl 1)), .inr (some (.inr M_aside)), .inr (some (.inr M_kept)), .inr (some (.inr M_mintAt)), .inr (some (.inl 2)), .inr (some (.inl 3)), .inr (some (.inr M_isWall)), .inr (some (.inr M_wasWall)), .inl sm, .inr (some (.inl 4)), .inl 0, .inl pp, .inl ((nI n)), .inl f, .inl M_number0, .inl M_open, .inl 0, .inl M_waiting, .inl 0, .inl M_clauses, .inr (some (.inr M_said)), .inr (some (.inr M_waitsAt)), .inr (some (.inr M_saidLetter)), .inr (some (.inr M_saidFrom)), .inr (some (.inr M_saidHalf)), .inr (some (.inr M_saidTo)), .inr (some (.inr M_codes)), .inr (some (.inr M_clauseOf)), .inr (some (.inr M_codeFrom)), .inr (some (.inr M_codeHalf)), .inr (some (.inr M_codeTo)), .inr (some (.inr M_stack)), .inr (some (.inr M_facts)), .inr (some (.inl 5)), .inr (some (.inl 6)), .inr (some (.inl 7)), .inr (some (.inl 8)), .inl nm, .inl rd, .inl sf, .inl st, .inl M_lines, .inl M_spot0, .inl M_pullAcross, .inl M_pullAlong, .inl M_stepsNow, .inl M_fallenNow, .inr (some (.inr M_usesNow)), .inr (some (.inr M_wasAt)), .inr (some (.inr M_someOf)), .inr (some (.inr M_fewestFor)), .inr (some (.inr M_getsOf)), .inl M_isKept]), .inl (0, 130, nw), .inl (0, 48, mo), .inl (0, 48, wh), .inl (1, 260, M_tape), .inl (0, 48, ns), .inl (0, 2, rf), .inl (0, 2, ra), .inl (0, 2, rt)]) := by
  have nr : ∀ {k m : Nat}, k ≤ m → m ≤ 1000 → 0 ≤ (nI k).toInt ∧ (nI k).toInt ≤ m := fun h1 h2 => by rw [nI_toInt (by omega)]; omega
  refine m_X12_sheet (fun μ L st h => ∃ (p c : Nat) (ns rf ra rt : Nat → Int32) (G sf st' f rd : Int32) (z : Option PV), μ = 1000 + (if G = 0 then 0 else 1 + (240 - p)) ∧ p ≤ n ∧ c ≤ 48 ∧ nsR ns ∧ ((G = 0 ∧ ∃ k a, goF b n true 0 0 (fun _ => 0) [] k a ∧ f = ftV k a) ∨ (G = 1 ∧ ∃ (g : Nat → Nat) (stk : Stk), goT b n true 0 0 (fun _ => 0) [] false p c g stk ∧ (stk = [] ∨ ¬ hr b n p = 41) ∧ stW n c stk ∧ stR rf ra rt stk ∧ nsX ns g c ∧ rd = nI stk.length)) ∧ L = [some (.inr (some (.inl 0))), some (.inl (nI n)), some (.inl G), z] ∧ st = [] ∧ h = [.inr (11, [.inr (some (.inl 1)), .inr (some (.inr M_aside)), .inr (some (.inr M_kept)), .inr (some (.inr M_mintAt)), .inr (some (.inl 2)), .inr (some (.inl 3)), .inr (some (.inr M_isWall)), .inr (some (.inr M_wasWall)), .inl M_stampMany, .inr (some (.inl 4)), .inl ((nI s)), .inl ((nI p)), .inl ((nI n)), .inl f, .inl M_number0, .inl M_open, .inl 0, .inl M_waiting, .inl 0, .inl M_clauses, .inr (some (.inr M_said)), .inr (some (.inr M_waitsAt)), .inr (some (.inr M_saidLetter)), .inr (some (.inr M_saidFrom)), .inr (some (.inr M_saidHalf)), .inr (some (.inr M_saidTo)), .inr (some (.inr M_codes)), .inr (some (.inr M_clauseOf)), .inr (some (.inr M_codeFrom)), .inr (some (.inr M_codeHalf)), .inr (some (.inr M_codeTo)), .inr (some (.inr M_stack)), .inr (some (.inr M_facts)), .inr (some (.inl 5)), .inr (some (.inl 6)), .inr (some (.inl 7)), .inr (some (.inl 8)), .inl ((nI c)), .inl rd, .inl sf, .inl (st'), .inl M_lines, .inl M_spot0, .inl M_pullAcross, .inl M_pullAlong, .inl M_stepsNow, .inl M_fallenNow, .inr (some (.inr M_usesNow)), .inr (some (.inr M_wasAt)), .inr (some (.inr M_someOf)), .inr (some (.inr M_fewestFor)), .inr (some (.inr M_getsOf)), .inl M_isKept]), .inl (0, 130, M_now), .inl (0, 48, M_mintOf), .inl (0, 48, M_wholeOf), .inl (1, 260, M_tape), .inl (0, 48, ns), .inl (0, 2, rf), .inl (0, 2, ra), .inl (0, 2, rt)]) (fun μ L st h => ∃ (p c v : Nat) (g : Nat → Nat) (nw mo wh ns rf ra rt : Nat → Int32) (G sf st' f rd : Int32), μ = 48 - v ∧ v ≤ 48 ∧ p ≤ n ∧ c ≤ 48 ∧ nsR ns ∧ nsX ns g c ∧ shE b n (.inr (c, g)) ∧ (∀ i, i < v → i < c → mo i = nI (g i / 3) ∧ wh i = nI (g i % 3)) ∧ segD D nw ∧ rg 48 0 7 mo ∧ rg 48 0 2 wh ∧ L = [some (.inr (some (.inl 0))), some (.inl (nI n)), some (.inl G), some (.inl (nI v))] ∧ st = [] ∧ h = [.inr (11, [.inr (some (.inl 1)), .inr (some (.inr M_aside)), .inr (some (.inr M_kept)), .inr (some (.inr M_mintAt)), .inr (some (.inl 2)), .inr (some (.inl 3)), .inr (some (.inr M_isWall)), .inr (some (.inr M_wasWall)), .inl ((nI c)), .inr (some (.inl 4)), .inl 0, .inl ((nI p)), .inl ((nI n)), .inl f, .inl M_number0, .inl M_open, .inl 0, .inl M_waiting, .inl 0, .inl M_clauses, .inr (some (.inr M_said)), .inr (some (.inr M_waitsAt)), .inr (some (.inr M_saidLetter)), .inr (some (.inr M_saidFrom)), .inr (some (.inr M_saidHalf)), .inr (some (.inr M_saidTo)), .inr (some (.inr M_codes)), .inr (some (.inr M_clauseOf)), .inr (some (.inr M_codeFrom)), .inr (some (.inr M_codeHalf)), .inr (some (.inr M_codeTo)), .inr (some (.inr M_stack)), .inr (some (.inr M_facts)), .inr (some (.inl 5)), .inr (some (.inl 6)), .inr (some (.inl 7)), .inr (some (.inl 8)), .inl ((nI c)), .inl rd, .inl sf, .inl (st'), .inl M_lines, .inl M_spot0, .inl M_pullAcross, .inl M_pullAlong, .inl M_stepsNow, .inl M_fallenNow, .inr (some (.inr M_usesNow)), .inr (some (.inr M_wasAt)), .inr (some (.inr M_someOf)), .inr (some (.inr M_fewestFor)), .inr (some (.inr M_getsOf)), .inl M_isKept]), .inl (0, 130, nw), .inl (0, 48, mo), .inl (0, 48, wh), .inl (1, 260, M_tape), .inl (0, 48, ns), .inl (0, 2, rf), .inl (0, 2, ra), .inl (0, 2, rt)]) (Nat.le_of_ble_eq_true rfl) ?_ ?_ ?_
  · refine call0 (c_in) rfl rfl ?_
    rintro r h' ⟨rfl, rfl⟩
    refine br_b (fun z => absurd ((nI_bt (a := 1) (b := 60) (by omega) (by omega) (by omega)).mpr ⟨hn1, hn⟩) z) (fun _ => ?_)
    refine And.intro (fun _ => ?_) (fun z => absurd ((nI_leI (by omega) (by omega)).mpr hns) z)
    refine call0 (c_X12_beginsText) rfl rfl ?_
    rintro r h' ⟨rfl, rfl⟩
    refine call0 (x_X12_readsStamp (b := b) (g := fun _ => 0) (stk := []) (p := 0) (n := n) (c := 0) (by omega) hn (by omega) goT_0 trivial trivial hR (fun i hi => absurd hi (Nat.not_lt_zero _)) hb) rfl rfl ?_
    rintro _ h' (⟨rfl, k, a, p', c', s', ns, rf, ra, rt, sf, st, f1, f2, f3, f4, f5, f6, rfl⟩ | ⟨rfl, p', c', g', stk', ns, rf, ra, rt, sf, st, f1, f2, f3, f4, f5, f6, f7, f8, f9, rfl⟩)
    · exact ⟨_, p', c', ns, rf, ra, rt, 0, sf, st, _, _, _, rfl, f4, f5, f6, Or.inl ⟨rfl, k, a, f1, rfl⟩, rfl, rfl, rfl⟩
    · exact ⟨_, p', c', ns, rf, ra, rt, 1, sf, st, _, _, _, rfl, f4, f5, f8, Or.inr ⟨rfl, g', stk', f1, f2, f6, f7, f9, rfl⟩, rfl, rfl, rfl⟩
  · rintro μ L st h ⟨p, c, ns, rf, ra, rt, G, sf, st', f, rd, z, hμ, h1, h2, h3, h4, rfl, rfl, rfl⟩
    rcases h4 with ⟨rfl, k, a, h4, rfl⟩ | ⟨rfl, g, stk, g1, g2, g3, g4, g5, rfl⟩
    · refine And.intro (fun _ => ?_) (fun z => absurd rfl z)
      refine And.intro (fun _ => ?_) (fun z => absurd rfl z)
      exact ⟨_, M_now, M_mintOf, M_wholeOf, ns, rf, ra, rt, M_stampMany, _, _, _, _, _, _, rfl, Or.inl ⟨k, a, h4, rfl⟩, Or.inl ⟨rfl, rfl, rfl, k, a, h4⟩, hN, hMO, hW, h3, hsm, nr (m := 240) (by omega) (by omega), rfl⟩
    · refine And.intro (fun z => absurd z (by show ¬ ((_ : Int32) = _); decide)) (fun _ => ?_)
      rw [if_neg (by decide)] at hμ
      have hl := stW_len g3
      have b62 : (goT b n false p c g stk true p c g stk) → ∀ {C94 : Blk} {Rv : Option PV → PH → Prop}, b_X12_sheet_62 l (ltb (fun μ L st h => ∃ (p c : Nat) (ns rf ra rt : Nat → Int32) (G sf st' f rd : Int32) (z : Option PV), μ = 1000 + (if G = 0 then 0 else 1 + (240 - p)) ∧ p ≤ n ∧ c ≤ 48 ∧ nsR ns ∧ ((G = 0 ∧ ∃ k a, goF b n true 0 0 (fun _ => 0) [] k a ∧ f = ftV k a) ∨ (G = 1 ∧ ∃ (g : Nat → Nat) (stk : Stk), goT b n true 0 0 (fun _ => 0) [] false p c g stk ∧ (stk = [] ∨ ¬ hr b n p = 41) ∧ stW n c stk ∧ stR rf ra rt stk ∧ nsX ns g c ∧ rd = nI stk.length)) ∧ L = [some (.inr (some (.inl 0))), some (.inl (nI n)), some (.inl G), z] ∧ st = [] ∧ h = [.inr (11, [.inr (some (.inl 1)), .inr (some (.inr M_aside)), .inr (some (.inr M_kept)), .inr (some (.inr M_mintAt)), .inr (some (.inl 2)), .inr (some (.inl 3)), .inr (some (.inr M_isWall)), .inr (some (.inr M_wasWall)), .inl M_stampMany, .inr (some (.inl 4)), .inl ((nI s)), .inl ((nI p)), .inl ((nI n)), .inl f, .inl M_number0, .inl M_open, .inl 0, .inl M_waiting, .inl 0, .inl M_clauses, .inr (some (.inr M_said)), .inr (some (.inr M_waitsAt)), .inr (some (.inr M_saidLetter)), .inr (some (.inr M_saidFrom)), .inr (some (.inr M_saidHalf)), .inr (some (.inr M_saidTo)), .inr (some (.inr M_codes)), .inr (some (.inr M_clauseOf)), .inr (some (.inr M_codeFrom)), .inr (some (.inr M_codeHalf)), .inr (some (.inr M_codeTo)), .inr (some (.inr M_stack)), .inr (some (.inr M_facts)), .inr (some (.inl 5)), .inr (some (.inl 6)), .inr (some (.inl 7)), .inr (some (.inl 8)), .inl ((nI c)), .inl rd, .inl sf, .inl (st'), .inl M_lines, .inl M_spot0, .inl M_pullAcross, .inl M_pullAlong, .inl M_stepsNow, .inl M_fallenNow, .inr (some (.inr M_usesNow)), .inr (some (.inr M_wasAt)), .inr (some (.inr M_someOf)), .inr (some (.inr M_fewestFor)), .inr (some (.inr M_getsOf)), .inl M_isKept]), .inl (0, 130, M_now), .inl (0, 48, M_mintOf), .inl (0, 48, M_wholeOf), .inl (1, 260, M_tape), .inl (0, 48, ns), .inl (0, 2, rf), .inl (0, 2, ra), .inl (0, 2, rt)]) μ) C94 Rv [some (.inr (some (.inl 0))), some (.inl (nI n)), some (.inl 1), z] [] [.inr (11, [.inr (some (.inl 1)), .inr (some (.inr M_aside)), .inr (some (.inr M_kept)), .inr (some (.inr M_mintAt)), .inr (some (.inl 2)), .inr (some (.inl 3)), .inr (some (.inr M_isWall)), .inr (some (.inr M_wasWall)), .inl M_stampMany, .inr (some (.inl 4)), .inl ((nI s)), .inl ((nI p)), .inl ((nI n)), .inl f, .inl M_number0, .inl M_open, .inl 0, .inl M_waiting, .inl 0, .inl M_clauses, .inr (some (.inr M_said)), .inr (some (.inr M_waitsAt)), .inr (some (.inr M_saidLetter)), .inr (some (.inr M_saidFrom)), .inr (some (.inr M_saidHalf)), .inr (some (.inr M_saidTo)), .inr (some (.inr M_codes)), .inr (some (.inr M_clauseOf)), .inr (some (.inr M_codeFrom)), .inr (some (.inr M_codeHalf)), .inr (some (.inr M_codeTo)), .inr (some (.inr M_stack)), .inr (some (.inr M_facts)), .inr (some (.inl 5)), .inr (some (.inl 6)), .inr (some (.inl 7)), .inr (some (.inl 8)), .inl ((nI c)), .inl ((nI stk.length)), .inl sf, .inl (st'), .inl M_lines, .inl M_spot0, .inl M_pullAcross, .inl M_pullAlong, .inl M_stepsNow, .inl M_fallenNow, .inr (some (.inr M_usesNow)), .inr (some (.inr M_wasAt)), .inr (some (.inr M_someOf)), .inr (some (.inr M_fewestFor)), .inr (some (.inr M_getsOf)), .inl M_isKept]), .inl (0, 130, M_now), .inl (0, 48, M_mintOf), .inl (0, 48, M_wholeOf), .inl (1, 260, M_tape), .inl (0, 48, ns), .inl (0, 2, rf), .inl (0, 2, ra), .inl (0, 2, rt)] := by
        intro eT C94 Rv
        refine call0 (x_X12_readsStamp (b := b) (g := g) (stk := stk) (p := p) (n := n) (c := c) h1 hn h2 (goT_go g1 eT) g3 g4 h3 g5 hb) rfl rfl ?_
        rintro _ h' (⟨rfl, k, a, p', c', s', ns, rf, ra, rt, sf, st, f1, f2, f3, f4, f5, f6, rfl⟩ | ⟨rfl, p', c', g', stk', ns, rf, ra, rt, sf, st, f1, f2, f3, f4, f5, f6, f7, f8, f9, rfl⟩)
        · exact ⟨1000, by omega, p', c', ns, rf, ra, rt, 0, sf, st, _, _, _, rfl, f4, f5, f6, Or.inl ⟨rfl, k, a, f1, rfl⟩, rfl, rfl, rfl⟩
        · exact ⟨1000 + (1 + (240 - p')), by omega, p', c', ns, rf, ra, rt, 1, sf, st, _, _, _, by rw [if_neg (by decide)], f4, f5, f8, Or.inr ⟨rfl, g', stk', f1, f2, f6, f7, f9, rfl⟩, rfl, rfl, rfl⟩
      refine And.intro (fun q => ?_) (fun q => ?_)
      · have q := (nI_ltI (by omega) (by omega)).mp q
        refine b62 ?_ (C94 := Bz) (Rv := fun _ _ => False)
        cases stk with
        | nil => exact st_next0 (by omega)
        | cons e rest =>
          obtain ⟨fr, a, tm⟩ := e
          exact st_next (g2.resolve_left (by simp))
      · have q : n ≤ p := Nat.le_of_not_lt fun z => q ((nI_ltI (by omega) (by omega)).mpr z)
        cases stk with
        | nil =>
          refine And.intro (fun _ => ?_) (fun z => absurd (Int32.le_iff_toInt_le.mpr (Int.le_refl _)) z)
          refine And.intro (fun z => absurd z (by show ¬ ((_ : Int32) = _); decide)) (fun _ => ?_)
          exact ⟨48, by omega, p, c, 0, g, M_now, M_mintOf, M_wholeOf, ns, rf, ra, rt, 1, sf, st', _, _, rfl, by omega, h1, h2, h3, g5, shE_T g1 q, fun i hi => absurd hi (Nat.not_lt_zero _), hN, hMO, hW, rfl, rfl, rfl⟩
        | cons e rest =>
          refine And.intro (fun z => absurd ((nI_leI (b := 0) (by show rest.length + 1 < _; have : rest.length + 1 ≤ 2 := hl; omega) (by omega)).mp z) (by show ¬ rest.length + 1 ≤ 0; omega)) (fun _ => ?_)
          obtain ⟨fr, a, tm⟩ := e
          exact b62 (st_next (g2.resolve_left (by simp))) (C94 := Bz) (Rv := fun _ _ => False)
  · rintro μ L st h ⟨p, c, v, g, nw, mo, wh, ns, rf, ra, rt, G, sf, st', f, rd, hμ, h1, h2, h3, h5, hx, he, hv, h6, h7, h8, rfl, rfl, rfl⟩
    refine And.intro (fun q1 => ?_) (fun q1 => ?_)
    · have q1 := (nI_leI (a := 48) (by omega) (by omega)).mp q1
      exact ⟨_, nw, mo, wh, ns, rf, ra, rt, nI c, _, _, _, _, _, _, rfl, Or.inr ⟨c, g, he, rfl⟩, Or.inr ⟨c, g, h3, rfl, he, fun i hi => hv i (by omega) hi⟩, h6, h7, h8, h5, nr (m := 48) h3 (by omega), nr (m := 240) (by omega) (by omega), rfl⟩
    · have q1 : v < 48 := Nat.lt_of_not_le fun z => q1 ((nI_leI (a := 48) (by omega) (by omega)).mpr z)
      have e32 : f_add 32 (nI v) = nI (32 + v) := nI_add 32 v
      have e80 : f_add 80 (nI v) = nI (80 + v) := nI_add 80 v
      have i48 : vp_in (nI v) 48 := vp_in_nI q1 (by omega)
      have ec : (nI v).toNatClampNeg = v := nI_clamp (by omega)
      obtain ⟨d1, d2, d3, d4⟩ := div3 (x := ns v) (h5 v q1).1 (h5 v q1).2
      refine And.intro (by rw [e32]; exact vp_in_nI (by omega) (by omega)) (And.intro (by rw [e80]; exact vp_in_nI (by omega) (by omega)) ?_)
      refine And.intro i48 (And.intro (by decide) (And.intro i48 ?_))
      refine And.intro i48 (And.intro (by decide) (And.intro i48 ?_))
      rw [e32, e80, ec, nI_clamp (by omega), nI_clamp (by omega)]
      refine ⟨48 - (v + 1), by omega, p, c, v + 1, g, _, _, _, ns, rf, ra, rt, G, sf, st', f, rd, rfl, by omega, h2, h3, h5, hx, he, fun i hi hic => ?_, segD_upd (segD_upd h6 (by omega)) (by omega), rg_upd h7 d1 d2, rg_upd h8 d3 d4, ?_, rfl, rfl⟩
      · by_cases e : i = v
        · subst e
          rw [upd_sI, upd_sI, (hx i hic).2]
          exact rowD (g i) (by have := (hx i hic).1; omega)
        · rw [upd_nI e, upd_nI e]
          exact hv i (by omega) hic
      · rw [← nI_1 v] <;> rfl

