/-! ===== marks of the other side, exactly ===== -/
def mnV (x y : Int32) : Int32 := if y ≤ x then y else x
set_option maxRecDepth 100000 in
theorem c_X12_minE {l : Launch} {x y : Int32} : MetP l 0 yX12_min cX12_min 2 (some .int) 0 0 [.inl x, .inl y] [] (fun r h' => r = some (.inl (mnV x y)) ∧ h' = []) := by
  refine m_X12_min (Nat.le_of_ble_eq_true rfl) ?_
  unfold mnV
  refine And.intro (fun (h : y ≤ x) => ?_) (fun (h : ¬ y ≤ x) => ?_)
  · rw [if_pos h]; exact ⟨rfl, rfl⟩
  · rw [if_neg h]; exact ⟨rfl, rfl⟩
theorem e_X12_laysFewest {l : Launch} {M_now M_aside M_kept M_mintAt M_mintOf M_wholeOf M_isWall M_wasWall M_said M_waitsAt M_saidLetter M_saidFrom M_saidHalf M_saidTo M_codes M_clauseOf M_codeFrom M_codeHalf M_codeTo M_stack M_facts M_newStamps M_roundFrom M_roundAt M_roundTimes M_usesNow M_wasAt M_someOf M_getsOf : List (Option Nat)} {M_stampMany M_taped M_place0 M_length0 M_fault M_number0 M_open M_codeMany M_waiting M_saidMany M_clauses M_newMany M_rounds M_stampFrom M_stampTimes M_lines M_spot0 M_pullAcross M_pullAlong M_stepsNow M_fallenNow M_isKept : Int32} {M_tape M_fewestFor : Nat → Int32}  {o : Nat → Nat} {n : Nat} (hn : n ≤ 5) (hb : ∀ i, i < n → o i ≤ 255 ∧ f_and (M_tape i) 255 = nI (o i)) : MetP l 1 yX12_laysFewest cX12_laysFewest 4 (some .boolean) 0 0 [.inr (some (.inl 0)), .inl (nI n)] [.inr (11, [.inr (some (.inr M_now)), .inr (some (.inr M_aside)), .inr (some (.inr M_kept)), .inr (some (.inr M_mintAt)), .inr (some (.inr M_mintOf)), .inr (some (.inr M_wholeOf)), .inr (some (.inr M_isWall)), .inr (some (.inr M_wasWall)), .inl M_stampMany, .inr (some (.inl 1)), .inl M_taped, .inl M_place0, .inl M_length0, .inl M_fault, .inl M_number0, .inl M_open, .inl M_codeMany, .inl M_waiting, .inl M_saidMany, .inl M_clauses, .inr (some (.inr M_said)), .inr (some (.inr M_waitsAt)), .inr (some (.inr M_saidLetter)), .inr (some (.inr M_saidFrom)), .inr (some (.inr M_saidHalf)), .inr (some (.inr M_saidTo)), .inr (some (.inr M_codes)), .inr (some (.inr M_clauseOf)), .inr (some (.inr M_codeFrom)), .inr (some (.inr M_codeHalf)), .inr (some (.inr M_codeTo)), .inr (some (.inr M_stack)), .inr (some (.inr M_facts)), .inr (some (.inr M_newStamps)), .inr (some (.inr M_roundFrom)), .inr (some (.inr M_roundAt)), .inr (some (.inr M_roundTimes)), .inl M_newMany, .inl M_rounds, .inl M_stampFrom, .inl M_stampTimes, .inl M_lines, .inl M_spot0, .inl M_pullAcross, .inl M_pullAlong, .inl M_stepsNow, .inl M_fallenNow, .inr (some (.inr M_usesNow)), .inr (some (.inr M_wasAt)), .inr (some (.inr M_someOf)), .inr (some (.inl 2)), .inr (some (.inr M_getsOf)), .inl M_isKept]), .inl (1, 260, M_tape), .inl (0, 601, M_fewestFor)] (fun r h' => ∃ (fw : Nat → Int32) (b : Int32), r = some (.inl b) ∧ ((b = 0 ∧ bad5 o n) ∨ (b = 1 ∧ good5 o n ∧ ∃ g, fwS 1000000 o n g 601 ∧ ∀ u, u ≤ 600 → fw u = nI (g u))) ∧ h' = [.inr (11, [.inr (some (.inr M_now)), .inr (some (.inr M_aside)), .inr (some (.inr M_kept)), .inr (some (.inr M_mintAt)), .inr (some (.inr M_mintOf)), .inr (some (.inr M_wholeOf)), .inr (some (.inr M_isWall)), .inr (some (.inr M_wasWall)), .inl M_stampMany, .inr (some (.inl 1)), .inl 0, .inl M_place0, .inl M_length0, .inl M_fault, .inl M_number0, .inl M_open, .inl M_codeMany, .inl M_waiting, .inl M_saidMany, .inl M_clauses, .inr (some (.inr M_said)), .inr (some (.inr M_waitsAt)), .inr (some (.inr M_saidLetter)), .inr (some (.inr M_saidFrom)), .inr (some (.inr M_saidHalf)), .inr (some (.inr M_saidTo)), .inr (some (.inr M_codes)), .inr (some (.inr M_clauseOf)), .inr (some (.inr M_codeFrom)), .inr (some (.inr M_codeHalf)), .inr (some (.inr M_codeTo)), .inr (some (.inr M_stack)), .inr (some (.inr M_facts)), .inr (some (.inr M_newStamps)), .inr (some (.inr M_roundFrom)), .inr (some (.inr M_roundAt)), .inr (some (.inr M_roundTimes)), .inl M_newMany, .inl M_rounds, .inl M_stampFrom, .inl M_stampTimes, .inl M_lines, .inl M_spot0, .inl M_pullAcross, .inl M_pullAlong, .inl M_stepsNow, .inl M_fallenNow, .inr (some (.inr M_usesNow)), .inr (some (.inr M_wasAt)), .inr (some (.inr M_someOf)), .inr (some (.inl 2)), .inr (some (.inr M_getsOf)), .inl M_isKept]), .inl (1, 260, M_tape), .inl (0, 601, fw)]) := by
  refine m_X12_laysFewest (fun μ L st h => ∃ (k : Nat) (z : Option PV), μ = 100000 + (n - k) ∧ k ≤ n ∧ good5 o k ∧ L = [some (.inr (some (.inl 0))), some (.inl (nI n)), some (.inl (nI k)), z] ∧ st = [] ∧ h = [.inr (11, [.inr (some (.inr M_now)), .inr (some (.inr M_aside)), .inr (some (.inr M_kept)), .inr (some (.inr M_mintAt)), .inr (some (.inr M_mintOf)), .inr (some (.inr M_wholeOf)), .inr (some (.inr M_isWall)), .inr (some (.inr M_wasWall)), .inl M_stampMany, .inr (some (.inl 1)), .inl 0, .inl M_place0, .inl M_length0, .inl M_fault, .inl M_number0, .inl M_open, .inl M_codeMany, .inl M_waiting, .inl M_saidMany, .inl M_clauses, .inr (some (.inr M_said)), .inr (some (.inr M_waitsAt)), .inr (some (.inr M_saidLetter)), .inr (some (.inr M_saidFrom)), .inr (some (.inr M_saidHalf)), .inr (some (.inr M_saidTo)), .inr (some (.inr M_codes)), .inr (some (.inr M_clauseOf)), .inr (some (.inr M_codeFrom)), .inr (some (.inr M_codeHalf)), .inr (some (.inr M_codeTo)), .inr (some (.inr M_stack)), .inr (some (.inr M_facts)), .inr (some (.inr M_newStamps)), .inr (some (.inr M_roundFrom)), .inr (some (.inr M_roundAt)), .inr (some (.inr M_roundTimes)), .inl M_newMany, .inl M_rounds, .inl M_stampFrom, .inl M_stampTimes, .inl M_lines, .inl M_spot0, .inl M_pullAcross, .inl M_pullAlong, .inl M_stepsNow, .inl M_fallenNow, .inr (some (.inr M_usesNow)), .inr (some (.inr M_wasAt)), .inr (some (.inr M_someOf)), .inr (some (.inl 2)), .inr (some (.inr M_getsOf)), .inl M_isKept]), .inl (1, 260, M_tape), .inl (0, 601, M_fewestFor)]) (fun μ L st h => ∃ (v : Nat) (g : Nat → Nat) (fw : Nat → Int32) (z : Option PV), μ = 10 * (601 - v) + 8 ∧ 1 ≤ v ∧ v ≤ 601 ∧ good5 o n ∧ fwS 1000000 o n g v ∧ (∀ u, u < v → fw u = nI (g u)) ∧ L = [some (.inr (some (.inl 0))), some (.inl (nI n)), some (.inl (nI v)), z] ∧ st = [] ∧ h = [.inr (11, [.inr (some (.inr M_now)), .inr (some (.inr M_aside)), .inr (some (.inr M_kept)), .inr (some (.inr M_mintAt)), .inr (some (.inr M_mintOf)), .inr (some (.inr M_wholeOf)), .inr (some (.inr M_isWall)), .inr (some (.inr M_wasWall)), .inl M_stampMany, .inr (some (.inl 1)), .inl 0, .inl M_place0, .inl M_length0, .inl M_fault, .inl M_number0, .inl M_open, .inl M_codeMany, .inl M_waiting, .inl M_saidMany, .inl M_clauses, .inr (some (.inr M_said)), .inr (some (.inr M_waitsAt)), .inr (some (.inr M_saidLetter)), .inr (some (.inr M_saidFrom)), .inr (some (.inr M_saidHalf)), .inr (some (.inr M_saidTo)), .inr (some (.inr M_codes)), .inr (some (.inr M_clauseOf)), .inr (some (.inr M_codeFrom)), .inr (some (.inr M_codeHalf)), .inr (some (.inr M_codeTo)), .inr (some (.inr M_stack)), .inr (some (.inr M_facts)), .inr (some (.inr M_newStamps)), .inr (some (.inr M_roundFrom)), .inr (some (.inr M_roundAt)), .inr (some (.inr M_roundTimes)), .inl M_newMany, .inl M_rounds, .inl M_stampFrom, .inl M_stampTimes, .inl M_lines, .inl M_spot0, .inl M_pullAcross, .inl M_pullAlong, .inl M_stepsNow, .inl M_fallenNow, .inr (some (.inr M_usesNow)), .inr (some (.inr M_wasAt)), .inr (some (.inr M_someOf)), .inr (some (.inl 2)), .inr (some (.inr M_getsOf)), .inl M_isKept]), .inl (1, 260, M_tape), .inl (0, 601, fw)]) (fun μ L st h => ∃ (v k : Nat) (g : Nat → Nat) (fw : Nat → Int32), μ = 10 * (601 - v) + (n - k) ∧ 1 ≤ v ∧ v ≤ 600 ∧ k ≤ n ∧ good5 o n ∧ fwS 1000000 o n g v ∧ (∀ u, u < v → fw u = nI (g u)) ∧ fw v = nI (fwK 1000000 o g v k) ∧ L = [some (.inr (some (.inl 0))), some (.inl (nI n)), some (.inl (nI v)), some (.inl (nI k))] ∧ st = [] ∧ h = [.inr (11, [.inr (some (.inr M_now)), .inr (some (.inr M_aside)), .inr (some (.inr M_kept)), .inr (some (.inr M_mintAt)), .inr (some (.inr M_mintOf)), .inr (some (.inr M_wholeOf)), .inr (some (.inr M_isWall)), .inr (some (.inr M_wasWall)), .inl M_stampMany, .inr (some (.inl 1)), .inl 0, .inl M_place0, .inl M_length0, .inl M_fault, .inl M_number0, .inl M_open, .inl M_codeMany, .inl M_waiting, .inl M_saidMany, .inl M_clauses, .inr (some (.inr M_said)), .inr (some (.inr M_waitsAt)), .inr (some (.inr M_saidLetter)), .inr (some (.inr M_saidFrom)), .inr (some (.inr M_saidHalf)), .inr (some (.inr M_saidTo)), .inr (some (.inr M_codes)), .inr (some (.inr M_clauseOf)), .inr (some (.inr M_codeFrom)), .inr (some (.inr M_codeHalf)), .inr (some (.inr M_codeTo)), .inr (some (.inr M_stack)), .inr (some (.inr M_facts)), .inr (some (.inr M_newStamps)), .inr (some (.inr M_roundFrom)), .inr (some (.inr M_roundAt)), .inr (some (.inr M_roundTimes)), .inl M_newMany, .inl M_rounds, .inl M_stampFrom, .inl M_stampTimes, .inl M_lines, .inl M_spot0, .inl M_pullAcross, .inl M_pullAlong, .inl M_stepsNow, .inl M_fallenNow, .inr (some (.inr M_usesNow)), .inr (some (.inr M_wasAt)), .inr (some (.inr M_someOf)), .inr (some (.inl 2)), .inr (some (.inr M_getsOf)), .inl M_isKept]), .inl (1, 260, M_tape), .inl (0, 601, fw)]) (Nat.le_of_ble_eq_true rfl) ?_ ?_ ?_ ?_
  · exact ⟨_, 0, _, rfl, by omega, fun i hi => absurd hi (Nat.not_lt_zero _), rfl, rfl, rfl⟩
  · rintro μ L st h ⟨k, z, hμ, h1, h2, rfl, rfl, rfl⟩
    refine And.intro (fun q1 => ?_) (fun q1 => ?_)
    · have q1 := (nI_leI (by omega) (by omega)).mp q1
      obtain rfl : k = n := by omega
      refine And.intro (vp_in_nI (n := 0) (by omega) (by omega)) ?_
      exact ⟨10 * (601 - 1) + 8, by omega, 1, fun _ => 0, _, z, rfl, by omega, by omega, h2, ⟨rfl, fun v a b => by omega⟩, fun u hu => by rw [show u = 0 by omega]; rfl, rfl, rfl, rfl⟩
    · have q1 : k < n := Nat.lt_of_not_le fun z => q1 ((nI_leI (by omega) (by omega)).mpr z)
      obtain ⟨o1, o2⟩ := hb k q1
      refine call0 (c_X12_octet (k := k) (by omega)) rfl rfl ?_
      rintro r h' ⟨rfl, rfl⟩
      rw [o2]
      refine call0 (c_in) rfl rfl ?_
      rintro r h' ⟨rfl, rfl⟩
      refine br_b (fun w => ?_) (fun w => ?_)
      · exact And.intro (Or.inl rfl) ⟨M_fewestFor, 0, rfl, Or.inl ⟨rfl, k, q1, fun z => w ((nI_bt (a := 1) (b := 100) (by omega) (by omega) (by omega)).mpr z)⟩, rfl⟩
      · have w := (nI_bt (a := 1) (b := 100) (by omega) (by omega) (by omega)).mp w
        refine ⟨100000 + (n - (k + 1)), by omega, k + 1, z, rfl, by omega, fun j hj => ?_, by rw [← nI_1 k] <;> rfl, rfl, rfl⟩
        by_cases e : j = k
        · subst e; exact w
        · exact h2 j (by omega)
  · rintro μ L st h ⟨v, g, fw, z, hμ, h1, h2, h3, h4, h5, rfl, rfl, rfl⟩
    refine And.intro (fun q1 => ?_) (fun q1 => ?_)
    · have q1 := (nI_ltI (a := 600) (by omega) (by omega)).mp q1
      obtain rfl : v = 601 := by omega
      exact And.intro (Or.inr rfl) ⟨fw, 1, rfl, Or.inr ⟨rfl, h3, g, h4, fun u hu => h5 u (by omega)⟩, rfl⟩
    · have q1 : v ≤ 600 := Nat.le_of_not_lt fun z => q1 ((nI_ltI (a := 600) (by omega) (by omega)).mpr z)
      refine And.intro (vp_in_nI (n := v) (by omega) (by omega)) ?_
      rw [nI_clamp (by omega)]
      exact ⟨10 * (601 - v) + n, by omega, v, 0, g, upd fw v 1000000, rfl, h1, q1, by omega, h3, h4, fun u hu => by rw [upd_nI (by omega)]; exact h5 u hu, by rw [upd_sI]; rfl, rfl, rfl, rfl⟩
  · rintro μ L st h ⟨v, k, g, fw, hμ, h1, h2, h3, h4, h5, h6, h7, rfl, rfl, rfl⟩
    have le := fwK_le (B := 1000000) (o := o) (g := g) (v := v) (k := k)
    refine And.intro (fun q1 => ?_) (fun q1 => ?_)
    · have q1 := (nI_leI (by omega) (by omega)).mp q1
      obtain rfl : k = n := by omega
      refine ⟨10 * (601 - (v + 1)) + 8, by omega, v + 1, updN g v (fwK 1000000 o g v k), fw, some (.inl (nI k)), rfl, by omega, by omega, h4, fwS_up (fun j hj => (h4 j hj).1) h1 h5, fun u hu => ?_, by rw [← nI_1 v] <;> rfl, rfl, rfl⟩
      by_cases e : u = v
      · subst e; rw [updN_s]; exact h7
      · rw [updN_n e]; exact h6 u (by omega)
    · have q1 : k < n := Nat.lt_of_not_le fun z => q1 ((nI_leI (by omega) (by omega)).mpr z)
      obtain ⟨o1, o2⟩ := hb k q1
      have o3 := h4 k q1
      refine call0 (c_X12_octet (k := k) (by omega)) rfl rfl ?_
      rintro r h' ⟨rfl, rfl⟩
      rw [o2]
      refine And.intro (fun w => ?_) (fun w => ?_)
      · have w := (nI_ltI (by omega) (by omega)).mp w
        refine ⟨10 * (601 - v) + (n - (k + 1)), by omega, v, k + 1, g, fw, rfl, h1, h2, by omega, h4, h5, h6, ?_, by rw [← nI_1 k] <;> rfl, rfl, rfl⟩
        rw [h7]
        show _ = nI (if o k ≤ v then (if g (v - o k) + 1 < fwK 1000000 o g v k then g (v - o k) + 1 else fwK 1000000 o g v k) else fwK 1000000 o g v k)
        rw [if_neg (by omega)]
      · have w : o k ≤ v := Nat.le_of_not_lt fun z => w ((nI_ltI (by omega) (by omega)).mpr z)
        refine And.intro (vp_in_nI (n := v) (by omega) (by omega)) ?_
        refine call0 (c_X12_octet (k := k) (by omega)) rfl rfl ?_
        rintro r h' ⟨rfl, rfl⟩
        rw [o2]
        refine And.intro (show vp_in (f_sub (nI v) (nI (o k))) 601 from by rw [fsub_n w]; exact vp_in_nI (by omega) (by omega)) ?_
        rw [fsub_n w, nI_clamp (by omega), nI_clamp (by omega), h6 (v - o k) (by omega), h7]
        refine call0 (c_X12_minE) rfl rfl ?_
        rintro r h' ⟨rfl, rfl⟩
        refine And.intro (vp_in_nI (n := v) (by omega) (by omega)) ?_
        rw [nI_clamp (by omega)]
        have gl := fwS_le h5 (u := v - o k) (by omega)
        have em : mnV (nI (fwK 1000000 o g v k)) (f_add (nI (g (v - o k))) 1) = nI (fwK 1000000 o g v (k + 1)) := by
          have ea : f_add (nI (g (v - o k))) 1 = nI (g (v - o k) + 1) := nI_1 _
          rw [ea]
          unfold mnV
          show _ = nI (if o k ≤ v then (if g (v - o k) + 1 < fwK 1000000 o g v k then g (v - o k) + 1 else fwK 1000000 o g v k) else fwK 1000000 o g v k)
          rw [if_pos w]
          by_cases q : g (v - o k) + 1 < fwK 1000000 o g v k
          · rw [if_pos q, if_pos ((nI_leI (by omega) (by omega)).mpr (by omega))]
          · rw [if_neg q]
            by_cases q2 : g (v - o k) + 1 ≤ fwK 1000000 o g v k
            · rw [if_pos ((nI_leI (by omega) (by omega)).mpr q2), show g (v - o k) + 1 = fwK 1000000 o g v k by omega]
            · rw [if_neg (fun z => q2 ((nI_leI (by omega) (by omega)).mp z))]
        rw [em]
        exact ⟨10 * (601 - v) + (n - (k + 1)), by omega, v, k + 1, g, upd fw v (nI (fwK 1000000 o g v (k + 1))), rfl, h1, h2, by omega, h4, h5, fun u hu => by rw [upd_nI (by omega)]; exact h6 u hu, upd_sI, by rw [← nI_1 k] <;> rfl, rfl, rfl⟩
set_option maxRecDepth 100000 in
theorem c_X12_marks {l : Launch} {M_now M_aside M_kept M_mintAt M_mintOf M_wholeOf M_isWall M_wasWall M_said M_waitsAt M_saidLetter M_saidFrom M_saidHalf M_saidTo M_codes M_clauseOf M_codeFrom M_codeHalf M_codeTo M_stack M_facts M_newStamps M_roundFrom M_roundAt M_roundTimes M_usesNow M_wasAt M_someOf M_getsOf : List (Option Nat)} {M_stampMany M_place0 M_length0 M_fault M_number0 M_open M_codeMany M_waiting M_saidMany M_clauses M_newMany M_rounds M_stampFrom M_stampTimes M_lines M_spot0 M_pullAcross M_pullAlong M_stepsNow M_fallenNow M_isKept : Int32} {M_tape M_fewestFor : Nat → Int32}  {o : Nat → Nat} {n s k : Nat} (hn1 : 1 ≤ n) (hn : n ≤ 5) (hk1 : 1 ≤ k) (hk : k ≤ 6) (hs : s ≤ 260) (hns : n ≤ s) (hb : ∀ i, i < n → o i ≤ 255 ∧ f_and (M_tape i) 255 = nI (o i)) : MetP l 2 yX12_marks cX12_marks 4 (some .int) 0 0 [.inr (some (.inl 0)), .inl (nI n), .inl (nI k)] [.inr (11, [.inr (some (.inr M_now)), .inr (some (.inr M_aside)), .inr (some (.inr M_kept)), .inr (some (.inr M_mintAt)), .inr (some (.inr M_mintOf)), .inr (some (.inr M_wholeOf)), .inr (some (.inr M_isWall)), .inr (some (.inr M_wasWall)), .inl M_stampMany, .inr (some (.inl 1)), .inl ((nI s)), .inl M_place0, .inl M_length0, .inl M_fault, .inl M_number0, .inl M_open, .inl M_codeMany, .inl M_waiting, .inl M_saidMany, .inl M_clauses, .inr (some (.inr M_said)), .inr (some (.inr M_waitsAt)), .inr (some (.inr M_saidLetter)), .inr (some (.inr M_saidFrom)), .inr (some (.inr M_saidHalf)), .inr (some (.inr M_saidTo)), .inr (some (.inr M_codes)), .inr (some (.inr M_clauseOf)), .inr (some (.inr M_codeFrom)), .inr (some (.inr M_codeHalf)), .inr (some (.inr M_codeTo)), .inr (some (.inr M_stack)), .inr (some (.inr M_facts)), .inr (some (.inr M_newStamps)), .inr (some (.inr M_roundFrom)), .inr (some (.inr M_roundAt)), .inr (some (.inr M_roundTimes)), .inl M_newMany, .inl M_rounds, .inl M_stampFrom, .inl M_stampTimes, .inl M_lines, .inl M_spot0, .inl M_pullAcross, .inl M_pullAlong, .inl M_stepsNow, .inl M_fallenNow, .inr (some (.inr M_usesNow)), .inr (some (.inr M_wasAt)), .inr (some (.inr M_someOf)), .inr (some (.inl 2)), .inr (some (.inr M_getsOf)), .inl M_isKept]), .inl (1, 260, M_tape), .inl (0, 601, M_fewestFor)] (fun r h' => ∃ (fw : Nat → Int32) (y : Int32), r = some (.inl y) ∧ mkS 1000000 o n k y ∧ h' = [.inr (11, [.inr (some (.inr M_now)), .inr (some (.inr M_aside)), .inr (some (.inr M_kept)), .inr (some (.inr M_mintAt)), .inr (some (.inr M_mintOf)), .inr (some (.inr M_wholeOf)), .inr (some (.inr M_isWall)), .inr (some (.inr M_wasWall)), .inl M_stampMany, .inr (some (.inl 1)), .inl 0, .inl M_place0, .inl M_length0, .inl M_fault, .inl M_number0, .inl M_open, .inl M_codeMany, .inl M_waiting, .inl M_saidMany, .inl M_clauses, .inr (some (.inr M_said)), .inr (some (.inr M_waitsAt)), .inr (some (.inr M_saidLetter)), .inr (some (.inr M_saidFrom)), .inr (some (.inr M_saidHalf)), .inr (some (.inr M_saidTo)), .inr (some (.inr M_codes)), .inr (some (.inr M_clauseOf)), .inr (some (.inr M_codeFrom)), .inr (some (.inr M_codeHalf)), .inr (some (.inr M_codeTo)), .inr (some (.inr M_stack)), .inr (some (.inr M_facts)), .inr (some (.inr M_newStamps)), .inr (some (.inr M_roundFrom)), .inr (some (.inr M_roundAt)), .inr (some (.inr M_roundTimes)), .inl M_newMany, .inl M_rounds, .inl M_stampFrom, .inl M_stampTimes, .inl M_lines, .inl M_spot0, .inl M_pullAcross, .inl M_pullAlong, .inl M_stepsNow, .inl M_fallenNow, .inr (some (.inr M_usesNow)), .inr (some (.inr M_wasAt)), .inr (some (.inr M_someOf)), .inr (some (.inl 2)), .inr (some (.inr M_getsOf)), .inl M_isKept]), .inl (1, 260, M_tape), .inl (0, 601, fw)]) := by
  refine m_X12_marks (fun μ L st h => ∃ (v : Nat) (g : Nat → Nat) (fw : Nat → Int32), μ = 600 - v ∧ v ≤ 600 ∧ good5 o n ∧ fwS 1000000 o n g 601 ∧ (∀ u, u ≤ 600 → fw u = nI (g u)) ∧ (∀ u, 1 ≤ u → u ≤ v → g u ≤ k) ∧ L = [some (.inr (some (.inl 0))), some (.inl (nI n)), some (.inl (nI k)), some (.inl (nI v))] ∧ st = [] ∧ h = [.inr (11, [.inr (some (.inr M_now)), .inr (some (.inr M_aside)), .inr (some (.inr M_kept)), .inr (some (.inr M_mintAt)), .inr (some (.inr M_mintOf)), .inr (some (.inr M_wholeOf)), .inr (some (.inr M_isWall)), .inr (some (.inr M_wasWall)), .inl M_stampMany, .inr (some (.inl 1)), .inl 0, .inl M_place0, .inl M_length0, .inl M_fault, .inl M_number0, .inl M_open, .inl M_codeMany, .inl M_waiting, .inl M_saidMany, .inl M_clauses, .inr (some (.inr M_said)), .inr (some (.inr M_waitsAt)), .inr (some (.inr M_saidLetter)), .inr (some (.inr M_saidFrom)), .inr (some (.inr M_saidHalf)), .inr (some (.inr M_saidTo)), .inr (some (.inr M_codes)), .inr (some (.inr M_clauseOf)), .inr (some (.inr M_codeFrom)), .inr (some (.inr M_codeHalf)), .inr (some (.inr M_codeTo)), .inr (some (.inr M_stack)), .inr (some (.inr M_facts)), .inr (some (.inr M_newStamps)), .inr (some (.inr M_roundFrom)), .inr (some (.inr M_roundAt)), .inr (some (.inr M_roundTimes)), .inl M_newMany, .inl M_rounds, .inl M_stampFrom, .inl M_stampTimes, .inl M_lines, .inl M_spot0, .inl M_pullAcross, .inl M_pullAlong, .inl M_stepsNow, .inl M_fallenNow, .inr (some (.inr M_usesNow)), .inr (some (.inr M_wasAt)), .inr (some (.inr M_someOf)), .inr (some (.inl 2)), .inr (some (.inr M_getsOf)), .inl M_isKept]), .inl (1, 260, M_tape), .inl (0, 601, fw)]) (Nat.le_of_ble_eq_true rfl) ?_ ?_
  · refine call0 (c_in) rfl rfl ?_
    rintro r h' ⟨rfl, rfl⟩
    refine br_b (fun w => absurd ((nI_bt (a := 1) (b := 5) (by omega) (by omega) (by omega)).mpr ⟨hn1, hn⟩) w) (fun _ => ?_)
    refine call0 (c_in) rfl rfl ?_
    rintro r h' ⟨rfl, rfl⟩
    refine br_b (fun w => absurd ((nI_bt (a := 1) (b := 6) (by omega) (by omega) (by omega)).mpr ⟨hk1, hk⟩) w) (fun _ => ?_)
    refine And.intro (fun _ => ?_) (fun w => absurd ((nI_leI (by omega) (by omega)).mpr hns) w)
    refine call0 (e_X12_laysFewest (o := o) (n := n) hn hb) rfl rfl ?_
    rintro r h' ⟨fw, b, rfl, hp, rfl⟩
    rcases hp with ⟨rfl, hbad⟩ | ⟨rfl, hgood, g, hg, hfw⟩
    · refine And.intro (fun _ => ?_) (fun z => absurd rfl z)
      exact ⟨fw, -2, rfl, Or.inl ⟨rfl, hbad⟩, rfl⟩
    · refine And.intro (fun z => absurd z (by show ¬ ((_ : Int32) = _); decide)) (fun _ => ?_)
      exact ⟨_, 0, g, fw, rfl, by omega, hgood, hg, hfw, fun u a b => by omega, rfl, rfl, rfl⟩
  · rintro μ L st h ⟨v, g, fw, hμ, h1, h2, h3, h4, h5, rfl, rfl, rfl⟩
    refine And.intro (fun q1 => ?_) (fun q1 => ?_)
    · have q1 := (nI_leI (a := 600) (by omega) (by omega)).mp q1
      exact ⟨fw, nI v, rfl, Or.inr ⟨h2, g, h3, v, h1, rfl, h5, Or.inl (by omega)⟩, rfl⟩
    · have q1 : v < 600 := Nat.lt_of_not_le fun z => q1 ((nI_leI (a := 600) (by omega) (by omega)).mpr z)
      have e1 : f_add (nI v) 1 = nI (v + 1) := nI_1 v
      have gl := fwS_le h3 (u := v + 1) (by omega)
      refine And.intro (show vp_in (f_add (nI v) 1) 601 from by rw [e1]; exact vp_in_nI (by omega) (by omega)) ?_
      rw [e1, nI_clamp (by omega), h4 (v + 1) (by omega)]
      refine And.intro (fun w => ?_) (fun w => ?_)
      · have w := (nI_ltI (by omega) (by omega)).mp w
        exact ⟨fw, nI v, rfl, Or.inr ⟨h2, g, h3, v, h1, rfl, h5, Or.inr w⟩, rfl⟩
      · have w : g (v + 1) ≤ k := Nat.le_of_not_lt fun z => w ((nI_ltI (by omega) (by omega)).mpr z)
        refine ⟨600 - (v + 1), by omega, v + 1, g, fw, rfl, by omega, h2, h3, h4, fun u a b => ?_, by rw [← e1] <;> rfl, rfl, rfl⟩
        by_cases e : u = v + 1
        · subst e; exact w
        · exact h5 u a (by omega)
set_option maxRecDepth 100000 in
theorem c_X12_franked {l : Launch} {M_now M_aside M_kept M_mintAt M_mintOf M_wholeOf M_isWall M_wasWall M_said M_waitsAt M_saidLetter M_saidFrom M_saidHalf M_saidTo M_codes M_clauseOf M_codeFrom M_codeHalf M_codeTo M_stack M_facts M_newStamps M_roundFrom M_roundAt M_roundTimes M_usesNow M_wasAt M_someOf M_getsOf : List (Option Nat)} {M_stampMany M_place0 M_length0 M_fault M_number0 M_open M_codeMany M_waiting M_saidMany M_clauses M_newMany M_rounds M_stampFrom M_stampTimes M_lines M_spot0 M_pullAcross M_pullAlong M_stepsNow M_fallenNow M_isKept : Int32} {M_tape M_fewestFor : Nat → Int32}  {o : Nat → Nat} {n s v : Nat} (hn1 : 1 ≤ n) (hn : n ≤ 5) (hv1 : 1 ≤ v) (hv : v ≤ 600) (hs : s ≤ 260) (hns : n ≤ s) (hb : ∀ i, i < n → o i ≤ 255 ∧ f_and (M_tape i) 255 = nI (o i)) : MetP l 2 yX12_franked cX12_franked 3 (some .int) 0 0 [.inr (some (.inl 0)), .inl (nI n), .inl (nI v)] [.inr (11, [.inr (some (.inr M_now)), .inr (some (.inr M_aside)), .inr (some (.inr M_kept)), .inr (some (.inr M_mintAt)), .inr (some (.inr M_mintOf)), .inr (some (.inr M_wholeOf)), .inr (some (.inr M_isWall)), .inr (some (.inr M_wasWall)), .inl M_stampMany, .inr (some (.inl 1)), .inl ((nI s)), .inl M_place0, .inl M_length0, .inl M_fault, .inl M_number0, .inl M_open, .inl M_codeMany, .inl M_waiting, .inl M_saidMany, .inl M_clauses, .inr (some (.inr M_said)), .inr (some (.inr M_waitsAt)), .inr (some (.inr M_saidLetter)), .inr (some (.inr M_saidFrom)), .inr (some (.inr M_saidHalf)), .inr (some (.inr M_saidTo)), .inr (some (.inr M_codes)), .inr (some (.inr M_clauseOf)), .inr (some (.inr M_codeFrom)), .inr (some (.inr M_codeHalf)), .inr (some (.inr M_codeTo)), .inr (some (.inr M_stack)), .inr (some (.inr M_facts)), .inr (some (.inr M_newStamps)), .inr (some (.inr M_roundFrom)), .inr (some (.inr M_roundAt)), .inr (some (.inr M_roundTimes)), .inl M_newMany, .inl M_rounds, .inl M_stampFrom, .inl M_stampTimes, .inl M_lines, .inl M_spot0, .inl M_pullAcross, .inl M_pullAlong, .inl M_stepsNow, .inl M_fallenNow, .inr (some (.inr M_usesNow)), .inr (some (.inr M_wasAt)), .inr (some (.inr M_someOf)), .inr (some (.inl 2)), .inr (some (.inr M_getsOf)), .inl M_isKept]), .inl (1, 260, M_tape), .inl (0, 601, M_fewestFor)] (fun r h' => ∃ (fw : Nat → Int32) (y : Int32), r = some (.inl y) ∧ frS 1000000 o n v y ∧ h' = [.inr (11, [.inr (some (.inr M_now)), .inr (some (.inr M_aside)), .inr (some (.inr M_kept)), .inr (some (.inr M_mintAt)), .inr (some (.inr M_mintOf)), .inr (some (.inr M_wholeOf)), .inr (some (.inr M_isWall)), .inr (some (.inr M_wasWall)), .inl M_stampMany, .inr (some (.inl 1)), .inl 0, .inl M_place0, .inl M_length0, .inl M_fault, .inl M_number0, .inl M_open, .inl M_codeMany, .inl M_waiting, .inl M_saidMany, .inl M_clauses, .inr (some (.inr M_said)), .inr (some (.inr M_waitsAt)), .inr (some (.inr M_saidLetter)), .inr (some (.inr M_saidFrom)), .inr (some (.inr M_saidHalf)), .inr (some (.inr M_saidTo)), .inr (some (.inr M_codes)), .inr (some (.inr M_clauseOf)), .inr (some (.inr M_codeFrom)), .inr (some (.inr M_codeHalf)), .inr (some (.inr M_codeTo)), .inr (some (.inr M_stack)), .inr (some (.inr M_facts)), .inr (some (.inr M_newStamps)), .inr (some (.inr M_roundFrom)), .inr (some (.inr M_roundAt)), .inr (some (.inr M_roundTimes)), .inl M_newMany, .inl M_rounds, .inl M_stampFrom, .inl M_stampTimes, .inl M_lines, .inl M_spot0, .inl M_pullAcross, .inl M_pullAlong, .inl M_stepsNow, .inl M_fallenNow, .inr (some (.inr M_usesNow)), .inr (some (.inr M_wasAt)), .inr (some (.inr M_someOf)), .inr (some (.inl 2)), .inr (some (.inr M_getsOf)), .inl M_isKept]), .inl (1, 260, M_tape), .inl (0, 601, fw)]) := by
  refine m_X12_franked (Nat.le_of_ble_eq_true rfl) ?_
  refine call0 (c_in) rfl rfl ?_
  rintro r h' ⟨rfl, rfl⟩
  refine br_b (fun w => absurd ((nI_bt (a := 1) (b := 5) (by omega) (by omega) (by omega)).mpr ⟨hn1, hn⟩) w) (fun _ => ?_)
  refine call0 (c_in) rfl rfl ?_
  rintro r h' ⟨rfl, rfl⟩
  refine br_b (fun w => absurd ((nI_bt (a := 1) (b := 600) (by omega) (by omega) (by omega)).mpr ⟨hv1, hv⟩) w) (fun _ => ?_)
  refine And.intro (fun _ => ?_) (fun w => absurd ((nI_leI (by omega) (by omega)).mpr hns) w)
  refine call0 (e_X12_laysFewest (o := o) (n := n) hn hb) rfl rfl ?_
  rintro r h' ⟨fw, b, rfl, hp, rfl⟩
  rcases hp with ⟨rfl, hbad⟩ | ⟨rfl, hgood, g, hg, hfw⟩
  · refine And.intro (fun _ => ?_) (fun z => absurd rfl z)
    exact ⟨fw, -2, rfl, Or.inl ⟨rfl, hbad⟩, rfl⟩
  · refine And.intro (fun z => absurd z (by show ¬ ((_ : Int32) = _); decide)) (fun _ => ?_)
    have gl := fwS_le hg (u := v) (by omega)
    refine And.intro (vp_in_nI (n := v) (by omega) (by omega)) ?_
    rw [nI_clamp (by omega), hfw v hv]
    refine And.intro (fun w => ?_) (fun w => ?_)
    · have w := (nI_ltI (b := 1000000) (by omega) (by omega)).mp w
      refine And.intro (vp_in_nI (n := v) (by omega) (by omega)) ?_
      rw [nI_clamp (by omega), hfw v hv]
      exact ⟨fw, _, rfl, Or.inr ⟨hgood, g, hg, Or.inl ⟨w, rfl⟩⟩, rfl⟩
    · have w : 1000000 ≤ g v := Nat.le_of_not_lt fun z => w ((nI_ltI (b := 1000000) (by omega) (by omega)).mpr z)
      exact ⟨fw, _, rfl, Or.inr ⟨hgood, g, hg, Or.inr ⟨w, rfl⟩⟩, rfl⟩

