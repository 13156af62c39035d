/-! ===== numbers, letters, signs ===== -/
theorem Φ0 : Φ (fun _ => []) := by
  refine ⟨by decide, by decide, fun q hq => ?_⟩
  have e : (decA [] 0).toInt = 0 := rfl
  exact absurd hq (by rw [e]; omega)
theorem dig_of {x : Int32} (h : digV x) : ∃ d, d ≤ 9 ∧ x = nI (48 + d) := by
  have q1 := Int32.le_iff_toInt_le.mp h.1
  have q2 := Int32.le_iff_toInt_le.mp h.2
  have e1 : (48 : Int32).toInt = 48 := rfl
  have e2 : (57 : Int32).toInt = 57 := rfl
  refine ⟨x.toInt.toNat - 48, by omega, Int32.toInt_inj.mp ?_⟩
  rw [nI_toInt (by omega)]
  omega
theorem num_step {v d : Nat} : f_sub (f_add (f_mul 10 (nI v)) (nI (48 + d))) 48 = nI (10 * v + d) := by
  show 10 * nI v + nI (48 + d) - 48 = nI (10 * v + d)
  have e1 : (10 : Int32) * nI v = nI (10 * v) := (Int32.ofNat_mul 10 v).symm
  rw [e1, nI_add, show 10 * v + (48 + d) = (10 * v + d) + 48 by omega, ← nI_add]
  exact Int32.add_sub_cancel _ _
theorem rng_n {x : Int32} {k : Nat} (h1 : 0 ≤ x.toInt) (h2 : x.toInt ≤ k) : ∃ j, j ≤ k ∧ x = nI j := by
  have := i32hi x
  refine ⟨x.toInt.toNat, by omega, Int32.toInt_inj.mp ?_⟩
  rw [nI_toInt (by omega)]
  omega
set_option maxRecDepth 100000 in
theorem c_X12_factOf {l : Launch} {x : Int32} : MetP l 0 yX12_factOf cX12_factOf 1 (some .int) 0 0 [.inl x] [] (fun r h' => h' = [] ∧ ∃ y : Int32, r = some (.inl y) ∧ (y = -1 ∨ (0 ≤ x.toInt ∧ ¬ y = -1 ∧ ∃ k, k ≤ 8 ∧ y = nI k))) := by
  by_cases hx : 0 ≤ x.toInt
  · refine (s_X12_factOf_p (fun _ => []) Φ0 [.inl x] [] ⟨⟨x, rfl, hx, i32hi x⟩, trivial⟩ trivial).mono (fun r h' hp => ?_)
    obtain ⟨q, hq, h0, h3⟩ := (show ∃ q, q ∈ [(some ((-1 : Int), (8 : Int)), ([] : List AC))] ∧ _ from hp)
    cases List.mem_singleton.mp hq
    obtain ⟨y, rfl, h1, h2⟩ := h0
    cases h' with
    | cons _ _ => exact h3.elim
    | nil =>
      refine ⟨rfl, y, rfl, ?_⟩
      by_cases e : y = -1
      · exact Or.inl e
      · have : ¬ y.toInt = -1 := fun z => e (Int32.toInt_inj.mp z)
        obtain ⟨k, hk, e2⟩ := rng_n (x := y) (k := 8) (by omega) (by omega)
        exact Or.inr ⟨hx, e, k, hk, e2⟩
  · refine (s_X12_factOf_n (fun _ => []) Φ0 [.inl x] [] ⟨⟨x, rfl, i32lo x, by omega⟩, trivial⟩ trivial).mono (fun r h' hp => ?_)
    obtain ⟨q, hq, h0, h3⟩ := (show ∃ q, q ∈ [(some ((-1 : Int), (-1 : Int)), ([] : List AC))] ∧ _ from hp)
    cases List.mem_singleton.mp hq
    obtain ⟨y, rfl, h1, h2⟩ := h0
    cases h' with
    | cons _ _ => exact h3.elim
    | nil => exact ⟨rfl, y, rfl, Or.inl (Int32.toInt_inj.mp (by show y.toInt = -1; omega))⟩
set_option maxRecDepth 100000 in
theorem c_X12_sumSign {l : Launch} {x : Int32} : MetP l 0 yX12_sumSign cX12_sumSign 1 (some .int) 0 0 [.inl x] [] (fun r h' => h' = [] ∧ ∃ y : Int32, r = some (.inl y) ∧ (y = -1 ∨ (0 ≤ x.toInt ∧ ∃ k, 2 ≤ k ∧ k ≤ 6 ∧ y = nI k))) := by
  by_cases hx : 0 ≤ x.toInt
  · refine (s_X12_sumSign_p (fun _ => []) Φ0 [.inl x] [] ⟨⟨x, rfl, hx, i32hi x⟩, trivial⟩ trivial).mono (fun r h' hp => ?_)
    obtain ⟨q, hq, h0, h3⟩ := (show ∃ q, q ∈ [(some ((-1 : Int), (-1 : Int)), ([] : List AC)), (some (2, 6), [])] ∧ _ from hp)
    rcases List.mem_cons.mp hq with rfl | hq
    · obtain ⟨y, rfl, h1, h2⟩ := h0
      cases h' with
      | cons _ _ => exact h3.elim
      | nil => exact ⟨rfl, y, rfl, Or.inl (Int32.toInt_inj.mp (by show y.toInt = -1; omega))⟩
    · cases List.mem_singleton.mp hq
      obtain ⟨y, rfl, h1, h2⟩ := h0
      cases h' with
      | cons _ _ => exact h3.elim
      | nil =>
        obtain ⟨k, hk, e2⟩ := rng_n (x := y) (k := 6) (by omega) (by omega)
        have : y.toInt = k := by rw [e2, nI_toInt (by omega)]
        exact ⟨rfl, y, rfl, Or.inr ⟨hx, k, by omega, hk, e2⟩⟩
  · refine (s_X12_sumSign_n (fun _ => []) Φ0 [.inl x] [] ⟨⟨x, rfl, i32lo x, by omega⟩, trivial⟩ trivial).mono (fun r h' hp => ?_)
    obtain ⟨q, hq, h0, h3⟩ := (show ∃ q, q ∈ [(some ((-1 : Int), (-1 : Int)), ([] : List AC))] ∧ _ from hp)
    cases List.mem_singleton.mp hq
    obtain ⟨y, rfl, h1, h2⟩ := h0
    cases h' with
    | cons _ _ => exact h3.elim
    | nil => exact ⟨rfl, y, rfl, Or.inl (Int32.toInt_inj.mp (by show y.toInt = -1; omega))⟩
theorem pow_step {v d k : Nat} (h : v < 10 ^ k) (hd : d ≤ 9) : 10 * v + d < 10 ^ (k + 1) := by
  rw [Nat.pow_succ]
  omega
set_option maxRecDepth 100000 in
theorem c_X12_readsNumber {l : Launch} {M_now M_aside M_kept M_mintAt M_mintOf M_wholeOf M_isWall M_wasWall M_said M_waitsAt M_saidLetter M_saidFrom M_saidHalf M_saidTo M_codes M_clauseOf M_codeFrom M_codeHalf M_codeTo M_stack M_facts M_newStamps M_roundFrom M_roundAt M_roundTimes M_usesNow M_wasAt M_someOf M_fewestFor M_getsOf : List (Option Nat)} {M_stampMany M_taped M_fault M_number0 M_open M_codeMany M_waiting M_saidMany M_clauses M_newMany M_rounds M_stampFrom M_stampTimes M_lines M_spot0 M_pullAcross M_pullAlong M_stepsNow M_fallenNow M_isKept : Int32} {M_tape : Nat → Int32}  {p n : Nat} (hp : p ≤ 240) (hn : n ≤ 240) : MetP l 2 yX12_readsNumber cX12_readsNumber 2 (some .boolean) 0 0 [.inr (some (.inl 0))] [.inr (11, [.inr (some (.inr M_now)), .inr (some (.inr M_aside)), .inr (some (.inr M_kept)), .inr (some (.inr M_mintAt)), .inr (some (.inr M_mintOf)), .inr (some (.inr M_wholeOf)), .inr (some (.inr M_isWall)), .inr (some (.inr M_wasWall)), .inl M_stampMany, .inr (some (.inl 1)), .inl M_taped, .inl ((nI p)), .inl ((nI n)), .inl M_fault, .inl M_number0, .inl M_open, .inl M_codeMany, .inl M_waiting, .inl M_saidMany, .inl M_clauses, .inr (some (.inr M_said)), .inr (some (.inr M_waitsAt)), .inr (some (.inr M_saidLetter)), .inr (some (.inr M_saidFrom)), .inr (some (.inr M_saidHalf)), .inr (some (.inr M_saidTo)), .inr (some (.inr M_codes)), .inr (some (.inr M_clauseOf)), .inr (some (.inr M_codeFrom)), .inr (some (.inr M_codeHalf)), .inr (some (.inr M_codeTo)), .inr (some (.inr M_stack)), .inr (some (.inr M_facts)), .inr (some (.inr M_newStamps)), .inr (some (.inr M_roundFrom)), .inr (some (.inr M_roundAt)), .inr (some (.inr M_roundTimes)), .inl M_newMany, .inl M_rounds, .inl M_stampFrom, .inl M_stampTimes, .inl M_lines, .inl M_spot0, .inl M_pullAcross, .inl M_pullAlong, .inl M_stepsNow, .inl M_fallenNow, .inr (some (.inr M_usesNow)), .inr (some (.inr M_wasAt)), .inr (some (.inr M_someOf)), .inr (some (.inr M_fewestFor)), .inr (some (.inr M_getsOf)), .inl M_isKept]), .inl (1, 260, M_tape)] (fun r h' => ∃ (q v : Nat) (f : Int32) (y : Int32), r = some (.inl y) ∧ p ≤ q ∧ q ≤ 240 ∧ (y = 0 ∨ y = 1) ∧ (y = 1 → v < 100000 ∧ (digV (hereV M_tape p n) → p < q)) ∧ h' = [.inr (11, [.inr (some (.inr M_now)), .inr (some (.inr M_aside)), .inr (some (.inr M_kept)), .inr (some (.inr M_mintAt)), .inr (some (.inr M_mintOf)), .inr (some (.inr M_wholeOf)), .inr (some (.inr M_isWall)), .inr (some (.inr M_wasWall)), .inl M_stampMany, .inr (some (.inl 1)), .inl M_taped, .inl ((nI q)), .inl ((nI n)), .inl f, .inl ((nI v)), .inl M_open, .inl M_codeMany, .inl M_waiting, .inl M_saidMany, .inl M_clauses, .inr (some (.inr M_said)), .inr (some (.inr M_waitsAt)), .inr (some (.inr M_saidLetter)), .inr (some (.inr M_saidFrom)), .inr (some (.inr M_saidHalf)), .inr (some (.inr M_saidTo)), .inr (some (.inr M_codes)), .inr (some (.inr M_clauseOf)), .inr (some (.inr M_codeFrom)), .inr (some (.inr M_codeHalf)), .inr (some (.inr M_codeTo)), .inr (some (.inr M_stack)), .inr (some (.inr M_facts)), .inr (some (.inr M_newStamps)), .inr (some (.inr M_roundFrom)), .inr (some (.inr M_roundAt)), .inr (some (.inr M_roundTimes)), .inl M_newMany, .inl M_rounds, .inl M_stampFrom, .inl M_stampTimes, .inl M_lines, .inl M_spot0, .inl M_pullAcross, .inl M_pullAlong, .inl M_stepsNow, .inl M_fallenNow, .inr (some (.inr M_usesNow)), .inr (some (.inr M_wasAt)), .inr (some (.inr M_someOf)), .inr (some (.inr M_fewestFor)), .inr (some (.inr M_getsOf)), .inl M_isKept]), .inl (1, 260, M_tape)]) := by
  refine m_X12_readsNumber (fun μ L st h => ∃ q v : Nat, μ = 240 - q ∧ p ≤ q ∧ q ≤ 240 ∧ q ≤ p + 5 ∧ v < 10 ^ (q - p) ∧ L = [some (.inr (some (.inl 0))), some (.inl (nI p))] ∧ st = [] ∧ h = [.inr (11, [.inr (some (.inr M_now)), .inr (some (.inr M_aside)), .inr (some (.inr M_kept)), .inr (some (.inr M_mintAt)), .inr (some (.inr M_mintOf)), .inr (some (.inr M_wholeOf)), .inr (some (.inr M_isWall)), .inr (some (.inr M_wasWall)), .inl M_stampMany, .inr (some (.inl 1)), .inl M_taped, .inl ((nI q)), .inl ((nI n)), .inl M_fault, .inl ((nI v)), .inl M_open, .inl M_codeMany, .inl M_waiting, .inl M_saidMany, .inl M_clauses, .inr (some (.inr M_said)), .inr (some (.inr M_waitsAt)), .inr (some (.inr M_saidLetter)), .inr (some (.inr M_saidFrom)), .inr (some (.inr M_saidHalf)), .inr (some (.inr M_saidTo)), .inr (some (.inr M_codes)), .inr (some (.inr M_clauseOf)), .inr (some (.inr M_codeFrom)), .inr (some (.inr M_codeHalf)), .inr (some (.inr M_codeTo)), .inr (some (.inr M_stack)), .inr (some (.inr M_facts)), .inr (some (.inr M_newStamps)), .inr (some (.inr M_roundFrom)), .inr (some (.inr M_roundAt)), .inr (some (.inr M_roundTimes)), .inl M_newMany, .inl M_rounds, .inl M_stampFrom, .inl M_stampTimes, .inl M_lines, .inl M_spot0, .inl M_pullAcross, .inl M_pullAlong, .inl M_stepsNow, .inl M_fallenNow, .inr (some (.inr M_usesNow)), .inr (some (.inr M_wasAt)), .inr (some (.inr M_someOf)), .inr (some (.inr M_fewestFor)), .inr (some (.inr M_getsOf)), .inl M_isKept]), .inl (1, 260, M_tape)]) (Nat.le_of_ble_eq_true rfl) ?_ ?_
  · exact ⟨_, p, 0, rfl, Nat.le_refl _, hp, by omega, by rw [Nat.sub_self]; decide, rfl, rfl, rfl⟩
  · rintro μ L st h ⟨q, v, hμ, h1, h2, h3, h4, rfl, rfl, rfl⟩
    refine call0 (c_X12_isDigit h2 hn) rfl rfl ?_
    rintro r h' ⟨rfl, rfl⟩
    refine br_b (fun hd => ?_) (fun hd => ?_)
    · refine And.intro (Or.inr rfl) ⟨q, v, M_fault, 1, rfl, h1, h2, Or.inr rfl, fun _ => ⟨?_, fun hd2 => ?_⟩, rfl⟩
      · have : 10 ^ (q - p) ≤ 10 ^ 5 := Nat.pow_le_pow_right (by omega) (by omega)
        have e : 10 ^ 5 = 100000 := by decide
        omega
      · rcases (by omega : p < q ∨ p = q) with h | rfl
        · exact h
        · exact absurd hd2 hd
    · have hlt : q < n := hereV_lt (Int.le_trans (by decide) (Int32.le_iff_toInt_le.mp hd.1))
      refine And.intro (fun he => ?_) (fun he => ?_)
      · refine call0 (c_X12_wrongAt) rfl rfl ?_
        rintro r h' ⟨rfl, rfl⟩
        exact And.intro (Or.inl rfl) ⟨q, v, _, 0, rfl, h1, h2, Or.inl rfl, fun z => absurd z (by decide), rfl⟩
      · have hq5 : ¬ q = p + 5 := fun z => he (by
          show nI q = nI p + 5
          rw [z]
          exact (nI_add p 5).symm)
        refine call0 (c_X12_here h2 hn) rfl rfl ?_
        rintro r h' ⟨rfl, rfl⟩
        obtain ⟨d, hd9, hde⟩ := dig_of hd
        refine ⟨240 - (q + 1), by omega, q + 1, 10 * v + d, rfl, by omega, by omega, by omega, ?_, rfl, rfl, ?_⟩
        · rw [show q + 1 - p = (q - p) + 1 by omega]
          exact pow_step h4 hd9
        · rw [hde, num_step, ← nI_1 q]
          rfl

