/-! ===== exchanges of the other side, exactly ===== -/
abbrev obM (tp : Nat → Int32) (o : Nat → Nat) (n : Nat) : Prop := ∀ i, i < n → o i ≤ 255 ∧ f_and (tp i) 255 = nI (o i)
theorem e_X12_likesOf {l : Launch} {M_now M_aside M_kept M_mintAt M_mintOf M_wholeOf M_isWall M_wasWall M_said M_waitsAt M_saidLetter M_saidFrom M_saidHalf M_saidTo M_codes M_clauseOf M_codeFrom M_codeHalf M_codeTo M_stack M_facts M_newStamps M_roundFrom M_roundAt M_roundTimes M_usesNow M_wasAt M_someOf M_fewestFor M_getsOf : List (Option Nat)} {M_stampMany M_taped M_place0 M_length0 M_fault M_number0 M_open M_codeMany M_waiting M_saidMany M_clauses M_newMany M_rounds M_stampFrom M_stampTimes M_lines M_spot0 M_pullAcross M_pullAlong M_stepsNow M_fallenNow M_isKept : Int32} {M_tape : Nat → Int32}  {o : Nat → Nat} {n S c : Nat} (hn : n ≤ 6) (hc : c < n) (hS : S < 64) (hR : rowG o n c) (hx : ∃ e, e < n ∧ S.testBit e = true) (hb : obM M_tape o 36) : MetP l 1 yX12_likesOf cX12_likesOf 5 (some .int) 0 0 [.inr (some (.inl 0)), .inl (nI c), .inl (nI S), .inl (nI n)] [.inr (11, [.inr (some (.inr M_now)), .inr (some (.inr M_aside)), .inr (some (.inr M_kept)), .inr (some (.inr M_mintAt)), .inr (some (.inr M_mintOf)), .inr (some (.inr M_wholeOf)), .inr (some (.inr M_isWall)), .inr (some (.inr M_wasWall)), .inl M_stampMany, .inr (some (.inl 1)), .inl M_taped, .inl M_place0, .inl M_length0, .inl M_fault, .inl M_number0, .inl M_open, .inl M_codeMany, .inl M_waiting, .inl M_saidMany, .inl M_clauses, .inr (some (.inr M_said)), .inr (some (.inr M_waitsAt)), .inr (some (.inr M_saidLetter)), .inr (some (.inr M_saidFrom)), .inr (some (.inr M_saidHalf)), .inr (some (.inr M_saidTo)), .inr (some (.inr M_codes)), .inr (some (.inr M_clauseOf)), .inr (some (.inr M_codeFrom)), .inr (some (.inr M_codeHalf)), .inr (some (.inr M_codeTo)), .inr (some (.inr M_stack)), .inr (some (.inr M_facts)), .inr (some (.inr M_newStamps)), .inr (some (.inr M_roundFrom)), .inr (some (.inr M_roundAt)), .inr (some (.inr M_roundTimes)), .inl M_newMany, .inl M_rounds, .inl M_stampFrom, .inl M_stampTimes, .inl M_lines, .inl M_spot0, .inl M_pullAcross, .inl M_pullAlong, .inl M_stepsNow, .inl M_fallenNow, .inr (some (.inr M_usesNow)), .inr (some (.inr M_wasAt)), .inr (some (.inr M_someOf)), .inr (some (.inr M_fewestFor)), .inr (some (.inr M_getsOf)), .inl M_isKept]), .inl (1, 260, M_tape)] (fun r h' => r = some (.inl (nI (lkG o n S c))) ∧ h' = [.inr (11, [.inr (some (.inr M_now)), .inr (some (.inr M_aside)), .inr (some (.inr M_kept)), .inr (some (.inr M_mintAt)), .inr (some (.inr M_mintOf)), .inr (some (.inr M_wholeOf)), .inr (some (.inr M_isWall)), .inr (some (.inr M_wasWall)), .inl M_stampMany, .inr (some (.inl 1)), .inl M_taped, .inl M_place0, .inl M_length0, .inl M_fault, .inl M_number0, .inl M_open, .inl M_codeMany, .inl M_waiting, .inl M_saidMany, .inl M_clauses, .inr (some (.inr M_said)), .inr (some (.inr M_waitsAt)), .inr (some (.inr M_saidLetter)), .inr (some (.inr M_saidFrom)), .inr (some (.inr M_saidHalf)), .inr (some (.inr M_saidTo)), .inr (some (.inr M_codes)), .inr (some (.inr M_clauseOf)), .inr (some (.inr M_codeFrom)), .inr (some (.inr M_codeHalf)), .inr (some (.inr M_codeTo)), .inr (some (.inr M_stack)), .inr (some (.inr M_facts)), .inr (some (.inr M_newStamps)), .inr (some (.inr M_roundFrom)), .inr (some (.inr M_roundAt)), .inr (some (.inr M_roundTimes)), .inl M_newMany, .inl M_rounds, .inl M_stampFrom, .inl M_stampTimes, .inl M_lines, .inl M_spot0, .inl M_pullAcross, .inl M_pullAlong, .inl M_stepsNow, .inl M_fallenNow, .inr (some (.inr M_usesNow)), .inr (some (.inr M_wasAt)), .inr (some (.inr M_someOf)), .inr (some (.inr M_fewestFor)), .inr (some (.inr M_getsOf)), .inl M_isKept]), .inl (1, 260, M_tape)]) := by
  obtain ⟨e, he, hbe⟩ := hx
  obtain ⟨i0, hi0, ei0⟩ := rowG_F hR e he
  refine m_X12_likesOf (fun μ L st h => ∃ k : Nat, μ = n - k ∧ k ≤ i0 ∧ lkF o n S c (n - k) k = lkG o n S c ∧ L = [some (.inr (some (.inl 0))), some (.inl (nI c)), some (.inl (nI S)), some (.inl (nI n)), some (.inl (nI k))] ∧ st = [] ∧ h = [.inr (11, [.inr (some (.inr M_now)), .inr (some (.inr M_aside)), .inr (some (.inr M_kept)), .inr (some (.inr M_mintAt)), .inr (some (.inr M_mintOf)), .inr (some (.inr M_wholeOf)), .inr (some (.inr M_isWall)), .inr (some (.inr M_wasWall)), .inl M_stampMany, .inr (some (.inl 1)), .inl M_taped, .inl M_place0, .inl M_length0, .inl M_fault, .inl M_number0, .inl M_open, .inl M_codeMany, .inl M_waiting, .inl M_saidMany, .inl M_clauses, .inr (some (.inr M_said)), .inr (some (.inr M_waitsAt)), .inr (some (.inr M_saidLetter)), .inr (some (.inr M_saidFrom)), .inr (some (.inr M_saidHalf)), .inr (some (.inr M_saidTo)), .inr (some (.inr M_codes)), .inr (some (.inr M_clauseOf)), .inr (some (.inr M_codeFrom)), .inr (some (.inr M_codeHalf)), .inr (some (.inr M_codeTo)), .inr (some (.inr M_stack)), .inr (some (.inr M_facts)), .inr (some (.inr M_newStamps)), .inr (some (.inr M_roundFrom)), .inr (some (.inr M_roundAt)), .inr (some (.inr M_roundTimes)), .inl M_newMany, .inl M_rounds, .inl M_stampFrom, .inl M_stampTimes, .inl M_lines, .inl M_spot0, .inl M_pullAcross, .inl M_pullAlong, .inl M_stepsNow, .inl M_fallenNow, .inr (some (.inr M_usesNow)), .inr (some (.inr M_wasAt)), .inr (some (.inr M_someOf)), .inr (some (.inr M_fewestFor)), .inr (some (.inr M_getsOf)), .inl M_isKept]), .inl (1, 260, M_tape)]) (Nat.le_of_ble_eq_true rfl) ?_ ?_
  · exact ⟨_, 0, rfl, by omega, rfl, rfl, rfl, rfl⟩
  · rintro μ L st h ⟨k, hμ, h1, h2, rfl, rfl, rfl⟩
    have hlt := mul_lt hn hc (show k < n by omega)
    have o1 := (hb (n * c + k) (by omega)).2
    have o3 := hR.1 k (by omega)
    refine call0 (g_X12_octet idx_n (by omega)) rfl rfl ?_
    rintro r h' ⟨rfl, rfl⟩
    rw [o1]
    refine call0 (c_X12_hasE) rfl rfl ?_
    rintro r h' ⟨rfl, rfl⟩
    have hu : lkF o n S c (n - k) k = (if S.testBit (o (n * c + k)) = true then o (n * c + k) else lkF o n S c (n - (k + 1)) (k + 1)) := by
      rw [show n - k = (n - (k + 1)) + 1 by omega]
      rfl
    refine br_b (fun w => ?_) (fun w => ?_)
    · have w : ¬ S.testBit (o (n * c + k)) = true := fun z => w ((has_n hS (by omega)).mpr z)
      rw [if_neg w] at hu
      have hk : ¬ k = i0 := fun z => w (by rw [z, ei0]; exact hbe)
      exact ⟨n - (k + 1), by omega, k + 1, rfl, by omega, by rw [← hu, h2], by rw [← nI_1 k] <;> rfl, rfl, rfl⟩
    · have w := (has_n hS (by omega)).mp w
      rw [if_pos w] at hu
      refine call0 (g_X12_octet idx_n (by omega)) rfl rfl ?_
      rintro r h' ⟨rfl, rfl⟩
      rw [o1, ← hu, h2]
      exact ⟨rfl, rfl⟩
theorem e_X12_areRows {l : Launch} {M_now M_aside M_kept M_mintAt M_mintOf M_wholeOf M_isWall M_wasWall M_said M_waitsAt M_saidLetter M_saidFrom M_saidHalf M_saidTo M_codes M_clauseOf M_codeFrom M_codeHalf M_codeTo M_stack M_facts M_newStamps M_roundFrom M_roundAt M_roundTimes M_usesNow M_wasAt M_someOf M_fewestFor M_getsOf : List (Option Nat)} {M_stampMany M_taped M_place0 M_length0 M_fault M_number0 M_open M_codeMany M_waiting M_saidMany M_clauses M_newMany M_rounds M_stampFrom M_stampTimes M_lines M_spot0 M_pullAcross M_pullAlong M_stepsNow M_fallenNow M_isKept : Int32} {M_tape : Nat → Int32}  {o : Nat → Nat} {n : Nat} (hn : n ≤ 6) (hb : obM M_tape o 36) : MetP l 1 yX12_areRows cX12_areRows 6 (some .boolean) 0 0 [.inr (some (.inl 0)), .inl (nI n)] [.inr (11, [.inr (some (.inr M_now)), .inr (some (.inr M_aside)), .inr (some (.inr M_kept)), .inr (some (.inr M_mintAt)), .inr (some (.inr M_mintOf)), .inr (some (.inr M_wholeOf)), .inr (some (.inr M_isWall)), .inr (some (.inr M_wasWall)), .inl M_stampMany, .inr (some (.inl 1)), .inl M_taped, .inl M_place0, .inl M_length0, .inl M_fault, .inl M_number0, .inl M_open, .inl M_codeMany, .inl M_waiting, .inl M_saidMany, .inl M_clauses, .inr (some (.inr M_said)), .inr (some (.inr M_waitsAt)), .inr (some (.inr M_saidLetter)), .inr (some (.inr M_saidFrom)), .inr (some (.inr M_saidHalf)), .inr (some (.inr M_saidTo)), .inr (some (.inr M_codes)), .inr (some (.inr M_clauseOf)), .inr (some (.inr M_codeFrom)), .inr (some (.inr M_codeHalf)), .inr (some (.inr M_codeTo)), .inr (some (.inr M_stack)), .inr (some (.inr M_facts)), .inr (some (.inr M_newStamps)), .inr (some (.inr M_roundFrom)), .inr (some (.inr M_roundAt)), .inr (some (.inr M_roundTimes)), .inl M_newMany, .inl M_rounds, .inl M_stampFrom, .inl M_stampTimes, .inl M_lines, .inl M_spot0, .inl M_pullAcross, .inl M_pullAlong, .inl M_stepsNow, .inl M_fallenNow, .inr (some (.inr M_usesNow)), .inr (some (.inr M_wasAt)), .inr (some (.inr M_someOf)), .inr (some (.inr M_fewestFor)), .inr (some (.inr M_getsOf)), .inl M_isKept]), .inl (1, 260, M_tape)] (fun r h' => ((r = some (.inl 0) ∧ ∃ c, c < n ∧ ¬ rowG o n c) ∨ (r = some (.inl 1) ∧ ∀ c, c < n → rowG o n c)) ∧ h' = [.inr (11, [.inr (some (.inr M_now)), .inr (some (.inr M_aside)), .inr (some (.inr M_kept)), .inr (some (.inr M_mintAt)), .inr (some (.inr M_mintOf)), .inr (some (.inr M_wholeOf)), .inr (some (.inr M_isWall)), .inr (some (.inr M_wasWall)), .inl M_stampMany, .inr (some (.inl 1)), .inl M_taped, .inl M_place0, .inl M_length0, .inl M_fault, .inl M_number0, .inl M_open, .inl M_codeMany, .inl M_waiting, .inl M_saidMany, .inl M_clauses, .inr (some (.inr M_said)), .inr (some (.inr M_waitsAt)), .inr (some (.inr M_saidLetter)), .inr (some (.inr M_saidFrom)), .inr (some (.inr M_saidHalf)), .inr (some (.inr M_saidTo)), .inr (some (.inr M_codes)), .inr (some (.inr M_clauseOf)), .inr (some (.inr M_codeFrom)), .inr (some (.inr M_codeHalf)), .inr (some (.inr M_codeTo)), .inr (some (.inr M_stack)), .inr (some (.inr M_facts)), .inr (some (.inr M_newStamps)), .inr (some (.inr M_roundFrom)), .inr (some (.inr M_roundAt)), .inr (some (.inr M_roundTimes)), .inl M_newMany, .inl M_rounds, .inl M_stampFrom, .inl M_stampTimes, .inl M_lines, .inl M_spot0, .inl M_pullAcross, .inl M_pullAlong, .inl M_stepsNow, .inl M_fallenNow, .inr (some (.inr M_usesNow)), .inr (some (.inr M_wasAt)), .inr (some (.inr M_someOf)), .inr (some (.inr M_fewestFor)), .inr (some (.inr M_getsOf)), .inl M_isKept]), .inl (1, 260, M_tape)]) := by
  refine m_X12_areRows (fun μ L st h => ∃ (c : Nat) (z3 z4 z5 : Option PV), μ = 100 * (n - c) + 50 ∧ c ≤ n ∧ (∀ j, j < c → rowG o n j) ∧ L = [some (.inr (some (.inl 0))), some (.inl (nI n)), some (.inl (nI c)), z3, z4, z5] ∧ st = [] ∧ h = [.inr (11, [.inr (some (.inr M_now)), .inr (some (.inr M_aside)), .inr (some (.inr M_kept)), .inr (some (.inr M_mintAt)), .inr (some (.inr M_mintOf)), .inr (some (.inr M_wholeOf)), .inr (some (.inr M_isWall)), .inr (some (.inr M_wasWall)), .inl M_stampMany, .inr (some (.inl 1)), .inl M_taped, .inl M_place0, .inl M_length0, .inl M_fault, .inl M_number0, .inl M_open, .inl M_codeMany, .inl M_waiting, .inl M_saidMany, .inl M_clauses, .inr (some (.inr M_said)), .inr (some (.inr M_waitsAt)), .inr (some (.inr M_saidLetter)), .inr (some (.inr M_saidFrom)), .inr (some (.inr M_saidHalf)), .inr (some (.inr M_saidTo)), .inr (some (.inr M_codes)), .inr (some (.inr M_clauseOf)), .inr (some (.inr M_codeFrom)), .inr (some (.inr M_codeHalf)), .inr (some (.inr M_codeTo)), .inr (some (.inr M_stack)), .inr (some (.inr M_facts)), .inr (some (.inr M_newStamps)), .inr (some (.inr M_roundFrom)), .inr (some (.inr M_roundAt)), .inr (some (.inr M_roundTimes)), .inl M_newMany, .inl M_rounds, .inl M_stampFrom, .inl M_stampTimes, .inl M_lines, .inl M_spot0, .inl M_pullAcross, .inl M_pullAlong, .inl M_stepsNow, .inl M_fallenNow, .inr (some (.inr M_usesNow)), .inr (some (.inr M_wasAt)), .inr (some (.inr M_someOf)), .inr (some (.inr M_fewestFor)), .inr (some (.inr M_getsOf)), .inl M_isKept]), .inl (1, 260, M_tape)]) (fun μ L st h => ∃ (c k : Nat) (z5 : Option PV), μ = 100 * (n - c) + (n - k) ∧ c < n ∧ k ≤ n ∧ (∀ j, j < c → rowG o n j) ∧ (∀ i, i < k → o (n * c + i) < n) ∧ (∀ i j, i < j → j < k → ¬ o (n * c + i) = o (n * c + j)) ∧ L = [some (.inr (some (.inl 0))), some (.inl (nI n)), some (.inl (nI c)), some (.inl (nI (orF (fun i => o (n * c + i)) k))), some (.inl (nI k)), z5] ∧ st = [] ∧ h = [.inr (11, [.inr (some (.inr M_now)), .inr (some (.inr M_aside)), .inr (some (.inr M_kept)), .inr (some (.inr M_mintAt)), .inr (some (.inr M_mintOf)), .inr (some (.inr M_wholeOf)), .inr (some (.inr M_isWall)), .inr (some (.inr M_wasWall)), .inl M_stampMany, .inr (some (.inl 1)), .inl M_taped, .inl M_place0, .inl M_length0, .inl M_fault, .inl M_number0, .inl M_open, .inl M_codeMany, .inl M_waiting, .inl M_saidMany, .inl M_clauses, .inr (some (.inr M_said)), .inr (some (.inr M_waitsAt)), .inr (some (.inr M_saidLetter)), .inr (some (.inr M_saidFrom)), .inr (some (.inr M_saidHalf)), .inr (some (.inr M_saidTo)), .inr (some (.inr M_codes)), .inr (some (.inr M_clauseOf)), .inr (some (.inr M_codeFrom)), .inr (some (.inr M_codeHalf)), .inr (some (.inr M_codeTo)), .inr (some (.inr M_stack)), .inr (some (.inr M_facts)), .inr (some (.inr M_newStamps)), .inr (some (.inr M_roundFrom)), .inr (some (.inr M_roundAt)), .inr (some (.inr M_roundTimes)), .inl M_newMany, .inl M_rounds, .inl M_stampFrom, .inl M_stampTimes, .inl M_lines, .inl M_spot0, .inl M_pullAcross, .inl M_pullAlong, .inl M_stepsNow, .inl M_fallenNow, .inr (some (.inr M_usesNow)), .inr (some (.inr M_wasAt)), .inr (some (.inr M_someOf)), .inr (some (.inr M_fewestFor)), .inr (some (.inr M_getsOf)), .inl M_isKept]), .inl (1, 260, M_tape)]) (Nat.le_of_ble_eq_true rfl) ?_ ?_ ?_
  · exact ⟨_, 0, _, _, _, rfl, by omega, fun j hj => absurd hj (Nat.not_lt_zero _), rfl, rfl, rfl⟩
  · rintro μ L st h ⟨c, z3, z4, z5, hμ, h1, h2, rfl, rfl, rfl⟩
    refine And.intro (fun q1 => ?_) (fun q1 => ?_)
    · have q1 := (nI_leI (by omega) (by omega)).mp q1
      exact And.intro (Or.inr rfl) ⟨Or.inr ⟨rfl, fun j hj => h2 j (by omega)⟩, rfl⟩
    · have q1 : c < n := Nat.lt_of_not_le fun z => q1 ((nI_leI (by omega) (by omega)).mpr z)
      exact ⟨100 * (n - c) + n, by omega, c, 0, z5, rfl, q1, by omega, h2, fun i hi => absurd hi (Nat.not_lt_zero _), fun i j _ hj => absurd hj (Nat.not_lt_zero _), rfl, rfl, rfl⟩
  · rintro μ L st h ⟨c, k, z5, hμ, h1, h2, h4, h5, h6, rfl, rfl, rfl⟩
    refine And.intro (fun q1 => ?_) (fun q1 => ?_)
    · have q1 := (nI_leI (by omega) (by omega)).mp q1
      refine ⟨100 * (n - (c + 1)) + 50, by omega, c + 1, some (.inl (nI (orF (fun i => o (n * c + i)) k))), some (.inl (nI k)), z5, rfl, by omega, fun j hj => ?_, by rw [← nI_1 c] <;> rfl, rfl, rfl⟩
      rcases (by omega : j < c ∨ j = c) with q | rfl
      · exact h4 j q
      · exact ⟨fun i hi => h5 i (by omega), fun i j' a b => h6 i j' a (by omega)⟩
    · have q1 : k < n := Nat.lt_of_not_le fun z => q1 ((nI_leI (by omega) (by omega)).mpr z)
      have hlt := mul_lt hn h1 q1
      obtain ⟨o1, o2⟩ := hb (n * c + k) (by omega)
      refine call0 (g_X12_octet idx_n (by omega)) rfl rfl ?_
      rintro r h' ⟨rfl, rfl⟩
      rw [o2]
      refine And.intro (fun q2 => ?_) (fun q2 => ?_)
      · have q2 := (nI_leI (by omega) (by omega)).mp q2
        exact And.intro (Or.inl rfl) ⟨Or.inl ⟨rfl, c, h1, fun z => by have := z.1 k q1; omega⟩, rfl⟩
      · have q2 : o (n * c + k) < n := Nat.lt_of_not_le fun z => q2 ((nI_leI (by omega) (by omega)).mpr z)
        have h3 : orF (fun i => o (n * c + i)) k < 64 := orF_lt (fun i hi => by have := h5 i hi; omega)
        refine call0 (c_X12_hasE) rfl rfl ?_
        rintro r h' ⟨rfl, rfl⟩
        refine br_b (fun w => ?_) (fun w => ?_)
        · have w : ¬ ∃ i, i < k ∧ o (n * c + i) = o (n * c + k) := fun z => w ((has_n h3 (by omega)).mpr ((orF_tb k).mpr z))
          obtain ⟨r1, r2⟩ := or_n h3 (by omega : o (n * c + k) < 6)
          refine ⟨100 * (n - c) + (n - (k + 1)), by omega, c, k + 1, some (.inl (nI (o (n * c + k)))), rfl, h1, by omega, h4, fun i hi => ?_, fun i j a b z => ?_, ?_, rfl, rfl⟩
          · rcases (by omega : i < k ∨ i = k) with q | rfl
            · exact h5 i q
            · exact q2
          · rcases (by omega : j < k ∨ j = k) with q | rfl
            · exact h6 i j a q z
            · exact w ⟨i, a, z⟩
          · rw [r1, ← nI_1 k] <;> rfl
        · obtain ⟨i, hi, e⟩ := (orF_tb k).mp ((has_n h3 (by omega)).mp w)
          exact And.intro (Or.inl rfl) ⟨Or.inl ⟨rfl, c, h1, fun z => z.2 i k hi q1 e⟩, rfl⟩
theorem e_X12_changesRing {l : Launch} {M_now M_aside M_kept M_mintAt M_mintOf M_wholeOf M_isWall M_wasWall M_said M_waitsAt M_saidLetter M_saidFrom M_saidHalf M_saidTo M_codes M_clauseOf M_codeFrom M_codeHalf M_codeTo M_stack M_facts M_newStamps M_roundFrom M_roundAt M_roundTimes M_usesNow M_wasAt M_someOf M_fewestFor : List (Option Nat)} {M_stampMany M_taped M_place0 M_length0 M_fault M_number0 M_open M_codeMany M_waiting M_saidMany M_clauses M_newMany M_rounds M_stampFrom M_stampTimes M_lines M_spot0 M_pullAcross M_pullAlong M_stepsNow M_fallenNow M_isKept : Int32} {M_tape M_getsOf : Nat → Int32}  {o : Nat → Nat} {n S : Nat} (h1 : 1 ≤ n) (hn : n ≤ 6) (hS : S < 2 ^ n) (h0 : ¬ S = 0) (hR : ∀ c, c < n → rowG o n c) (hb : obM M_tape o 36) : MetP l 2 yX12_changesRing cX12_changesRing 6 (some .int) 0 0 [.inr (some (.inl 0)), .inl (nI S), .inl (nI n)] [.inr (11, [.inr (some (.inr M_now)), .inr (some (.inr M_aside)), .inr (some (.inr M_kept)), .inr (some (.inr M_mintAt)), .inr (some (.inr M_mintOf)), .inr (some (.inr M_wholeOf)), .inr (some (.inr M_isWall)), .inr (some (.inr M_wasWall)), .inl M_stampMany, .inr (some (.inl 1)), .inl M_taped, .inl M_place0, .inl M_length0, .inl M_fault, .inl M_number0, .inl M_open, .inl M_codeMany, .inl M_waiting, .inl M_saidMany, .inl M_clauses, .inr (some (.inr M_said)), .inr (some (.inr M_waitsAt)), .inr (some (.inr M_saidLetter)), .inr (some (.inr M_saidFrom)), .inr (some (.inr M_saidHalf)), .inr (some (.inr M_saidTo)), .inr (some (.inr M_codes)), .inr (some (.inr M_clauseOf)), .inr (some (.inr M_codeFrom)), .inr (some (.inr M_codeHalf)), .inr (some (.inr M_codeTo)), .inr (some (.inr M_stack)), .inr (some (.inr M_facts)), .inr (some (.inr M_newStamps)), .inr (some (.inr M_roundFrom)), .inr (some (.inr M_roundAt)), .inr (some (.inr M_roundTimes)), .inl M_newMany, .inl M_rounds, .inl M_stampFrom, .inl M_stampTimes, .inl M_lines, .inl M_spot0, .inl M_pullAcross, .inl M_pullAlong, .inl M_stepsNow, .inl M_fallenNow, .inr (some (.inr M_usesNow)), .inr (some (.inr M_wasAt)), .inr (some (.inr M_someOf)), .inr (some (.inr M_fewestFor)), .inr (some (.inl 2)), .inl M_isKept]), .inl (1, 260, M_tape), .inl (0, 6, M_getsOf)] (fun r h' => ∃ gt : Nat → Int32, r = some (.inl (nI (S &&& (63 ^^^ rgN (lkG o n S) (lwN S) n)))) ∧ (∀ x, x < n → ((rgN (lkG o n S) (lwN S) n).testBit x = true → gt x = nI (lkG o n S x)) ∧ (¬ (rgN (lkG o n S) (lwN S) n).testBit x = true → gt x = M_getsOf x)) ∧ h' = [.inr (11, [.inr (some (.inr M_now)), .inr (some (.inr M_aside)), .inr (some (.inr M_kept)), .inr (some (.inr M_mintAt)), .inr (some (.inr M_mintOf)), .inr (some (.inr M_wholeOf)), .inr (some (.inr M_isWall)), .inr (some (.inr M_wasWall)), .inl M_stampMany, .inr (some (.inl 1)), .inl M_taped, .inl M_place0, .inl M_length0, .inl M_fault, .inl M_number0, .inl M_open, .inl M_codeMany, .inl M_waiting, .inl M_saidMany, .inl M_clauses, .inr (some (.inr M_said)), .inr (some (.inr M_waitsAt)), .inr (some (.inr M_saidLetter)), .inr (some (.inr M_saidFrom)), .inr (some (.inr M_saidHalf)), .inr (some (.inr M_saidTo)), .inr (some (.inr M_codes)), .inr (some (.inr M_clauseOf)), .inr (some (.inr M_codeFrom)), .inr (some (.inr M_codeHalf)), .inr (some (.inr M_codeTo)), .inr (some (.inr M_stack)), .inr (some (.inr M_facts)), .inr (some (.inr M_newStamps)), .inr (some (.inr M_roundFrom)), .inr (some (.inr M_roundAt)), .inr (some (.inr M_roundTimes)), .inl M_newMany, .inl M_rounds, .inl M_stampFrom, .inl M_stampTimes, .inl M_lines, .inl M_spot0, .inl M_pullAcross, .inl M_pullAlong, .inl M_stepsNow, .inl M_fallenNow, .inr (some (.inr M_usesNow)), .inr (some (.inr M_wasAt)), .inr (some (.inr M_someOf)), .inr (some (.inr M_fewestFor)), .inr (some (.inl 2)), .inl M_isKept]), .inl (1, 260, M_tape), .inl (0, 6, gt)]) := by
  have hS6 : S < 64 := p64 hn hS
  obtain ⟨l1, l2⟩ := lwN_ok n hn S hS h0
  have hx : ∃ e, e < n ∧ S.testBit e = true := ⟨_, l1, l2⟩
  have hit := lkG_it hR hx l1
  obtain ⟨G, eG⟩ : ∃ G, G = lkG o n S := ⟨_, rfl⟩
  obtain ⟨c0, ec⟩ : ∃ c0, c0 = lwN S := ⟨_, rfl⟩
  rw [← eG, ← ec] at hit
  rw [← eG, ← ec]
  rw [← ec] at l1 l2
  have lk : ∀ k, lkG o n S k = G k := fun k => by rw [eG]
  refine m_X12_changesRing (fun μ L st h => ∃ (c : Nat) (z4 z5 : Option PV), μ = 10000 + (10 - c) ∧ c ≤ c0 ∧ L = [some (.inr (some (.inl 0))), some (.inl (nI S)), some (.inl (nI n)), some (.inl (nI c)), z4, z5] ∧ st = [] ∧ h = [.inr (11, [.inr (some (.inr M_now)), .inr (some (.inr M_aside)), .inr (some (.inr M_kept)), .inr (some (.inr M_mintAt)), .inr (some (.inr M_mintOf)), .inr (some (.inr M_wholeOf)), .inr (some (.inr M_isWall)), .inr (some (.inr M_wasWall)), .inl M_stampMany, .inr (some (.inl 1)), .inl M_taped, .inl M_place0, .inl M_length0, .inl M_fault, .inl M_number0, .inl M_open, .inl M_codeMany, .inl M_waiting, .inl M_saidMany, .inl M_clauses, .inr (some (.inr M_said)), .inr (some (.inr M_waitsAt)), .inr (some (.inr M_saidLetter)), .inr (some (.inr M_saidFrom)), .inr (some (.inr M_saidHalf)), .inr (some (.inr M_saidTo)), .inr (some (.inr M_codes)), .inr (some (.inr M_clauseOf)), .inr (some (.inr M_codeFrom)), .inr (some (.inr M_codeHalf)), .inr (some (.inr M_codeTo)), .inr (some (.inr M_stack)), .inr (some (.inr M_facts)), .inr (some (.inr M_newStamps)), .inr (some (.inr M_roundFrom)), .inr (some (.inr M_roundAt)), .inr (some (.inr M_roundTimes)), .inl M_newMany, .inl M_rounds, .inl M_stampFrom, .inl M_stampTimes, .inl M_lines, .inl M_spot0, .inl M_pullAcross, .inl M_pullAlong, .inl M_stepsNow, .inl M_fallenNow, .inr (some (.inr M_usesNow)), .inr (some (.inr M_wasAt)), .inr (some (.inr M_someOf)), .inr (some (.inr M_fewestFor)), .inr (some (.inl 2)), .inl M_isKept]), .inl (1, 260, M_tape), .inl (0, 6, M_getsOf)]) (fun μ L st h => ∃ (k : Nat) (z5 : Option PV), μ = 1000 + (n - k) ∧ k ≤ n ∧ L = [some (.inr (some (.inl 0))), some (.inl (nI S)), some (.inl (nI n)), some (.inl (nI (itG G c0 k))), some (.inl (nI k)), z5] ∧ st = [] ∧ h = [.inr (11, [.inr (some (.inr M_now)), .inr (some (.inr M_aside)), .inr (some (.inr M_kept)), .inr (some (.inr M_mintAt)), .inr (some (.inr M_mintOf)), .inr (some (.inr M_wholeOf)), .inr (some (.inr M_isWall)), .inr (some (.inr M_wasWall)), .inl M_stampMany, .inr (some (.inl 1)), .inl M_taped, .inl M_place0, .inl M_length0, .inl M_fault, .inl M_number0, .inl M_open, .inl M_codeMany, .inl M_waiting, .inl M_saidMany, .inl M_clauses, .inr (some (.inr M_said)), .inr (some (.inr M_waitsAt)), .inr (some (.inr M_saidLetter)), .inr (some (.inr M_saidFrom)), .inr (some (.inr M_saidHalf)), .inr (some (.inr M_saidTo)), .inr (some (.inr M_codes)), .inr (some (.inr M_clauseOf)), .inr (some (.inr M_codeFrom)), .inr (some (.inr M_codeHalf)), .inr (some (.inr M_codeTo)), .inr (some (.inr M_stack)), .inr (some (.inr M_facts)), .inr (some (.inr M_newStamps)), .inr (some (.inr M_roundFrom)), .inr (some (.inr M_roundAt)), .inr (some (.inr M_roundTimes)), .inl M_newMany, .inl M_rounds, .inl M_stampFrom, .inl M_stampTimes, .inl M_lines, .inl M_spot0, .inl M_pullAcross, .inl M_pullAlong, .inl M_stepsNow, .inl M_fallenNow, .inr (some (.inr M_usesNow)), .inr (some (.inr M_wasAt)), .inr (some (.inr M_someOf)), .inr (some (.inr M_fewestFor)), .inr (some (.inl 2)), .inl M_isKept]), .inl (1, 260, M_tape), .inl (0, 6, M_getsOf)]) (fun μ L st h => ∃ (j d : Nat) (gt : Nat → Int32), μ = d - j ∧ j ≤ d ∧ d ≤ n ∧ 1 ≤ d ∧ itG G c0 (n + d) = itG G c0 n ∧ (∀ x, x < n → ((∃ i, i < j ∧ itG G c0 (n + i) = x) → gt x = nI (G x)) ∧ ((¬ ∃ i, i < j ∧ itG G c0 (n + i) = x) → gt x = M_getsOf x)) ∧ L = [some (.inr (some (.inl 0))), some (.inl (nI S)), some (.inl (nI n)), some (.inl (nI (itG G c0 (n + j)))), some (.inl (nI (itG G c0 n))), some (.inl (nI (orF (fun i => itG G c0 (n + 1 + i)) j)))] ∧ st = [] ∧ h = [.inr (11, [.inr (some (.inr M_now)), .inr (some (.inr M_aside)), .inr (some (.inr M_kept)), .inr (some (.inr M_mintAt)), .inr (some (.inr M_mintOf)), .inr (some (.inr M_wholeOf)), .inr (some (.inr M_isWall)), .inr (some (.inr M_wasWall)), .inl M_stampMany, .inr (some (.inl 1)), .inl M_taped, .inl M_place0, .inl M_length0, .inl M_fault, .inl M_number0, .inl M_open, .inl M_codeMany, .inl M_waiting, .inl M_saidMany, .inl M_clauses, .inr (some (.inr M_said)), .inr (some (.inr M_waitsAt)), .inr (some (.inr M_saidLetter)), .inr (some (.inr M_saidFrom)), .inr (some (.inr M_saidHalf)), .inr (some (.inr M_saidTo)), .inr (some (.inr M_codes)), .inr (some (.inr M_clauseOf)), .inr (some (.inr M_codeFrom)), .inr (some (.inr M_codeHalf)), .inr (some (.inr M_codeTo)), .inr (some (.inr M_stack)), .inr (some (.inr M_facts)), .inr (some (.inr M_newStamps)), .inr (some (.inr M_roundFrom)), .inr (some (.inr M_roundAt)), .inr (some (.inr M_roundTimes)), .inl M_newMany, .inl M_rounds, .inl M_stampFrom, .inl M_stampTimes, .inl M_lines, .inl M_spot0, .inl M_pullAcross, .inl M_pullAlong, .inl M_stepsNow, .inl M_fallenNow, .inr (some (.inr M_usesNow)), .inr (some (.inr M_wasAt)), .inr (some (.inr M_someOf)), .inr (some (.inr M_fewestFor)), .inr (some (.inl 2)), .inl M_isKept]), .inl (1, 260, M_tape), .inl (0, 6, gt)]) (Nat.le_of_ble_eq_true rfl) ?_ ?_ ?_ ?_
  · exact ⟨_, 0, _, _, rfl, by omega, rfl, rfl, rfl⟩
  · rintro μ L st h ⟨c, z4, z5, hμ, g1, rfl, rfl, rfl⟩
    refine call0 (c_X12_hasE) rfl rfl ?_
    rintro r h' ⟨rfl, rfl⟩
    refine br_b (fun w => ?_) (fun w => ?_)
    · have hne : ¬ c = c0 := fun z => w (by rw [z]; exact (has_n hS6 (by omega)).mpr l2)
      exact ⟨10000 + (10 - (c + 1)), by omega, c + 1, z4, z5, rfl, by omega, by rw [← nI_1 c] <;> rfl, rfl, rfl⟩
    · have w := (has_n hS6 (by omega)).mp w
      obtain rfl : c = c0 := by
        rcases (by omega : c < c0 ∨ c = c0) with q | q
        · have := lwN_lt S hS6 c (by omega) (by omega)
          rw [w] at this
          cases this
        · exact q
      exact ⟨1000 + n, by omega, 0, z5, rfl, by omega, rfl, rfl, rfl⟩
  · rintro μ L st h ⟨k, z5, hμ, g2, rfl, rfl, rfl⟩
    refine And.intro (fun q1 => ?_) (fun q1 => ?_)
    · have q1 := (nI_leI (by omega) (by omega)).mp q1
      obtain rfl : k = n := by omega
      obtain ⟨d, d1, d2, e⟩ := it_n hit
      exact ⟨d, by omega, 0, d, M_getsOf, rfl, by omega, d2, d1, e, fun x _ => ⟨fun ⟨i, hi, _⟩ => absurd hi (Nat.not_lt_zero _), fun _ => rfl⟩, rfl, rfl, rfl⟩
    · have q1 : k < n := Nat.lt_of_not_le fun z => q1 ((nI_leI (by omega) (by omega)).mpr z)
      have hc := hit k
      refine call0 (e_X12_likesOf (o := o) (c := itG G c0 k) hn hc hS6 (hR _ hc) hx hb) rfl rfl ?_
      rintro r h' ⟨rfl, rfl⟩
      rw [lk]
      exact ⟨1000 + (n - (k + 1)), by omega, k + 1, z5, rfl, by omega, by rw [← nI_1 k] <;> rfl, rfl, rfl⟩
  · rintro μ L st h ⟨j, d, gt, hμ, g2, g3, g4, g5, g7, rfl, rfl, rfl⟩
    have hf := hit n
    have hc := hit (n + j)
    have g6 : orF (fun i => itG G c0 (n + 1 + i)) j < 64 := orF_lt (fun i _ => by have := hit (n + 1 + i); omega)
    refine call0 (c_X12_hasE) rfl rfl ?_
    rintro r h' ⟨rfl, rfl⟩
    refine br_b (fun w => ?_) (fun w => ?_)
    · have w : ¬ ∃ i, i < j ∧ itG G c0 (n + 1 + i) = itG G c0 n := fun z => w ((has_n g6 (by omega)).mpr ((orF_tb j).mpr z))
      have hj : j < d := by
        rcases (by omega : j < d ∨ j = d) with q | rfl
        · exact q
        · exact absurd ⟨j - 1, by omega, by rw [show n + 1 + (j - 1) = n + j by omega]; exact g5⟩ w
      refine call0 (e_X12_likesOf (o := o) (c := itG G c0 (n + j)) hn hc hS6 (hR _ hc) hx hb) rfl rfl ?_
      rintro r h' ⟨rfl, rfl⟩
      rw [lk]
      have i6 : vp_in (nI (itG G c0 (n + j))) 6 := vp_in_nI (by omega) (by omega)
      refine And.intro i6 (And.intro i6 ?_)
      have hc2 := hit (n + (j + 1))
      obtain ⟨o1, o2⟩ := or_n g6 (by have := hit (n + 1 + j); omega : itG G c0 (n + 1 + j) < 6)
      have e0 : (nI (itG G c0 (n + j))).toNatClampNeg = itG G c0 (n + j) := nI_clamp (by omega)
      have eu : upd gt (nI (itG G c0 (n + j))).toNatClampNeg (f_nar 0 (nI (G (itG G c0 (n + j))))) (nI (itG G c0 (n + j))).toNatClampNeg = nI (itG G c0 (n + (j + 1))) := upd_sI
      rw [eu]
      have e1 : itG G c0 (n + 1 + j) = itG G c0 (n + (j + 1)) := by rw [show n + 1 + j = n + (j + 1) by omega]
      refine ⟨d - (j + 1), by omega, j + 1, d, _, rfl, by omega, g3, g4, g5, fun x hx => ?_, ?_, rfl, rfl⟩
      · rw [e0]
        by_cases q : x = itG G c0 (n + j)
        · subst q
          rw [upd_sI]
          exact ⟨fun _ => rfl, fun z => absurd ⟨j, by omega, rfl⟩ z⟩
        · rw [upd_nI q]
          refine ⟨fun ⟨i, hi, e⟩ => (g7 x hx).1 ⟨i, ?_, e⟩, fun z => (g7 x hx).2 (fun ⟨i, hi, e⟩ => z ⟨i, by omega, e⟩)⟩
          rcases (by omega : i < j ∨ i = j) with z | rfl
          · exact z
          · exact absurd e.symm q
      · rw [show orF (fun i => itG G c0 (n + 1 + i)) (j + 1) = orF (fun i => itG G c0 (n + 1 + i)) j ||| 2 ^ itG G c0 (n + 1 + j) from rfl, ← o1, e1]
    · obtain ⟨i, hi, e⟩ := (orF_tb j).mp ((has_n g6 (by omega)).mp w)
      have e : itG G c0 (n + (i + 1)) = itG G c0 n := by rw [← e, show n + (i + 1) = n + 1 + i by omega]
      have pin := per_in (by omega : 1 ≤ i + 1) e
      have eg : orF (fun i => itG G c0 (n + 1 + i)) j = rgN G c0 n := rgN_eq hit (fun x h => by
        obtain ⟨i, _, q⟩ := (orF_tb j).mp h
        exact ⟨1 + i, by rw [← q, show n + (1 + i) = n + 1 + i by omega]⟩) (fun m => by
        obtain ⟨q, hq, e2⟩ := pin m
        refine (orF_tb j).mpr ?_
        rcases (by omega : q = 0 ∨ 1 ≤ q) with rfl | hq1
        · exact ⟨i, hi, by rw [e2, show n + 1 + i = n + (i + 1) by omega]; exact e⟩
        · exact ⟨q - 1, by omega, by rw [e2, show n + 1 + (q - 1) = n + q by omega]⟩)
      have e2 := dif_n hS6 g6
      refine ⟨gt, ?_, fun x hx => ?_, rfl⟩
      · rw [← eg, ← e2]
      · have iff : (rgN G c0 n).testBit x = true ↔ ∃ i, i < j ∧ itG G c0 (n + i) = x := by
          constructor
          · intro h
            obtain ⟨m, rfl⟩ := rgN_of h
            obtain ⟨q, hq, e3⟩ := pin m
            exact ⟨q, by omega, e3.symm⟩
          · rintro ⟨q, _, rfl⟩
            exact rgN_in hit q
        rw [iff]
        exact g7 x hx
theorem e_X12_exchange {l : Launch} {M_now M_aside M_kept M_mintAt M_mintOf M_wholeOf M_isWall M_wasWall M_said M_waitsAt M_saidLetter M_saidFrom M_saidHalf M_saidTo M_codes M_clauseOf M_codeFrom M_codeHalf M_codeTo M_stack M_facts M_newStamps M_roundFrom M_roundAt M_roundTimes M_usesNow M_wasAt M_someOf M_fewestFor : List (Option Nat)} {M_stampMany M_place0 M_length0 M_fault M_number0 M_open M_codeMany M_waiting M_saidMany M_clauses M_newMany M_rounds M_stampFrom M_stampTimes M_lines M_spot0 M_pullAcross M_pullAlong M_stepsNow M_fallenNow M_isKept : Int32} {M_tape M_getsOf : Nat → Int32}  {o : Nat → Nat} {n s w : Nat} (hn1 : 2 ≤ n) (hn : n ≤ 6) (hw : w < n) (hs : s ≤ 260) (hns : n * n ≤ s) (hb : obM M_tape o 36) : MetP l 3 yX12_exchange cX12_exchange 4 (some .int) 0 0 [.inr (some (.inl 0)), .inl (nI n), .inl (nI w)] [.inr (11, [.inr (some (.inr M_now)), .inr (some (.inr M_aside)), .inr (some (.inr M_kept)), .inr (some (.inr M_mintAt)), .inr (some (.inr M_mintOf)), .inr (some (.inr M_wholeOf)), .inr (some (.inr M_isWall)), .inr (some (.inr M_wasWall)), .inl M_stampMany, .inr (some (.inl 1)), .inl ((nI s)), .inl M_place0, .inl M_length0, .inl M_fault, .inl M_number0, .inl M_open, .inl M_codeMany, .inl M_waiting, .inl M_saidMany, .inl M_clauses, .inr (some (.inr M_said)), .inr (some (.inr M_waitsAt)), .inr (some (.inr M_saidLetter)), .inr (some (.inr M_saidFrom)), .inr (some (.inr M_saidHalf)), .inr (some (.inr M_saidTo)), .inr (some (.inr M_codes)), .inr (some (.inr M_clauseOf)), .inr (some (.inr M_codeFrom)), .inr (some (.inr M_codeHalf)), .inr (some (.inr M_codeTo)), .inr (some (.inr M_stack)), .inr (some (.inr M_facts)), .inr (some (.inr M_newStamps)), .inr (some (.inr M_roundFrom)), .inr (some (.inr M_roundAt)), .inr (some (.inr M_roundTimes)), .inl M_newMany, .inl M_rounds, .inl M_stampFrom, .inl M_stampTimes, .inl M_lines, .inl M_spot0, .inl M_pullAcross, .inl M_pullAlong, .inl M_stepsNow, .inl M_fallenNow, .inr (some (.inr M_usesNow)), .inr (some (.inr M_wasAt)), .inr (some (.inr M_someOf)), .inr (some (.inr M_fewestFor)), .inr (some (.inl 2)), .inl M_isKept]), .inl (1, 260, M_tape), .inl (0, 6, M_getsOf)] (fun r h' => ∃ (gt : Nat → Int32) (y : Int32), r = some (.inl y) ∧ exY o n w y ∧ h' = [.inr (11, [.inr (some (.inr M_now)), .inr (some (.inr M_aside)), .inr (some (.inr M_kept)), .inr (some (.inr M_mintAt)), .inr (some (.inr M_mintOf)), .inr (some (.inr M_wholeOf)), .inr (some (.inr M_isWall)), .inr (some (.inr M_wasWall)), .inl M_stampMany, .inr (some (.inl 1)), .inl 0, .inl M_place0, .inl M_length0, .inl M_fault, .inl M_number0, .inl M_open, .inl M_codeMany, .inl M_waiting, .inl M_saidMany, .inl M_clauses, .inr (some (.inr M_said)), .inr (some (.inr M_waitsAt)), .inr (some (.inr M_saidLetter)), .inr (some (.inr M_saidFrom)), .inr (some (.inr M_saidHalf)), .inr (some (.inr M_saidTo)), .inr (some (.inr M_codes)), .inr (some (.inr M_clauseOf)), .inr (some (.inr M_codeFrom)), .inr (some (.inr M_codeHalf)), .inr (some (.inr M_codeTo)), .inr (some (.inr M_stack)), .inr (some (.inr M_facts)), .inr (some (.inr M_newStamps)), .inr (some (.inr M_roundFrom)), .inr (some (.inr M_roundAt)), .inr (some (.inr M_roundTimes)), .inl M_newMany, .inl M_rounds, .inl M_stampFrom, .inl M_stampTimes, .inl M_lines, .inl M_spot0, .inl M_pullAcross, .inl M_pullAlong, .inl M_stepsNow, .inl M_fallenNow, .inr (some (.inr M_usesNow)), .inr (some (.inr M_wasAt)), .inr (some (.inr M_someOf)), .inr (some (.inr M_fewestFor)), .inr (some (.inl 2)), .inl M_isKept]), .inl (1, 260, M_tape), .inl (0, 6, gt)]) := by
  refine m_X12_exchange (fun μ L st h => ∃ (S : Nat) (gt : Nat → Int32), exI o n μ S gt ∧ (∀ c, c < n → rowG o n c) ∧ L = [some (.inr (some (.inl 0))), some (.inl (nI n)), some (.inl (nI w)), some (.inl (nI S))] ∧ st = [] ∧ h = [.inr (11, [.inr (some (.inr M_now)), .inr (some (.inr M_aside)), .inr (some (.inr M_kept)), .inr (some (.inr M_mintAt)), .inr (some (.inr M_mintOf)), .inr (some (.inr M_wholeOf)), .inr (some (.inr M_isWall)), .inr (some (.inr M_wasWall)), .inl M_stampMany, .inr (some (.inl 1)), .inl 0, .inl M_place0, .inl M_length0, .inl M_fault, .inl M_number0, .inl M_open, .inl M_codeMany, .inl M_waiting, .inl M_saidMany, .inl M_clauses, .inr (some (.inr M_said)), .inr (some (.inr M_waitsAt)), .inr (some (.inr M_saidLetter)), .inr (some (.inr M_saidFrom)), .inr (some (.inr M_saidHalf)), .inr (some (.inr M_saidTo)), .inr (some (.inr M_codes)), .inr (some (.inr M_clauseOf)), .inr (some (.inr M_codeFrom)), .inr (some (.inr M_codeHalf)), .inr (some (.inr M_codeTo)), .inr (some (.inr M_stack)), .inr (some (.inr M_facts)), .inr (some (.inr M_newStamps)), .inr (some (.inr M_roundFrom)), .inr (some (.inr M_roundAt)), .inr (some (.inr M_roundTimes)), .inl M_newMany, .inl M_rounds, .inl M_stampFrom, .inl M_stampTimes, .inl M_lines, .inl M_spot0, .inl M_pullAcross, .inl M_pullAlong, .inl M_stepsNow, .inl M_fallenNow, .inr (some (.inr M_usesNow)), .inr (some (.inr M_wasAt)), .inr (some (.inr M_someOf)), .inr (some (.inr M_fewestFor)), .inr (some (.inl 2)), .inl M_isKept]), .inl (1, 260, M_tape), .inl (0, 6, gt)]) (Nat.le_of_ble_eq_true rfl) ?_ ?_
  · refine call0 (c_in) rfl rfl ?_
    rintro r h' ⟨rfl, rfl⟩
    refine br_b (fun z => absurd ((nI_bt (a := 2) (b := 6) (by omega) (by omega) (by omega)).mpr ⟨hn1, hn⟩) z) (fun _ => ?_)
    have e1 : f_sub (nI n) 1 = nI (n - 1) := fsub_n (b := 1) (by omega)
    refine call0 (c_in) rfl rfl ?_
    rintro r h' ⟨rfl, rfl⟩
    refine br_b (fun z => absurd ⟨(nI_leI (a := 0) (b := w) (by omega) (by omega)).mpr (by omega), (by rw [e1]; exact (nI_leI (by omega) (by omega)).mpr (by omega) : nI w ≤ f_sub (nI n) 1)⟩ z) (fun _ => ?_)
    have e2 : f_mul (nI n) (nI n) = nI (n * n) := nI_mul n n
    refine And.intro (fun _ => ?_) (fun z => absurd (show f_mul (nI n) (nI n) ≤ nI s by rw [e2]; exact (nI_leI (by omega) (by omega)).mpr hns) z)
    refine call0 (e_X12_areRows (o := o) (n := n) hn hb) rfl rfl ?_
    rintro r h' ⟨⟨rfl, hbad⟩ | ⟨rfl, hR⟩, rfl⟩
    · refine And.intro (fun _ => ?_) (fun z => absurd rfl z)
      exact ⟨M_getsOf, -2, rfl, Or.inl ⟨rfl, hbad⟩, rfl⟩
    · refine And.intro (fun z => absurd z (by show ¬ ((_ : Int32) = _); decide)) (fun _ => ?_)
      exact ⟨n, 2 ^ n - 1, M_getsOf, exI_0 hn, hR, by rw [← full_n hn] <;> rfl, rfl, rfl⟩
  · rintro μ L st h ⟨S, gt, hI, hR, rfl, rfl, rfl⟩
    have hS := hI.1
    have h64 := p64 hn hS
    refine And.intro (fun q => ?_) (fun q => ?_)
    · have q := (nI_eq (b := 0) (by omega) (by omega)).mp q
      subst q
      refine And.intro (vp_in_nI (n := w) (by omega) (by omega)) ?_
      rw [nI_clamp (by omega)]
      exact ⟨gt, _, rfl, Or.inr ⟨hR, exI_end hI hw⟩, rfl⟩
    · have q : ¬ S = 0 := fun z => q ((nI_eq (b := 0) (by omega) (by omega)).mpr z)
      refine call0 (e_X12_changesRing (o := o) (n := n) (S := S) (by omega) hn hS q hR hb) rfl rfl ?_
      rintro r h' ⟨gt', rfl, hg, rfl⟩
      obtain ⟨f', rfl, hI'⟩ := exI_go hn hR hI q hg
      exact ⟨f', by omega, _, gt', hI', hR, rfl, rfl, rfl⟩

