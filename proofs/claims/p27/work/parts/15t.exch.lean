/-! ===== exchanges: rings end ===== -/
theorem php : ∀ (n : Nat) (f : Nat → Nat), (∀ i, i ≤ n → f i < n) → ∃ i j, i < j ∧ j ≤ n ∧ f i = f j
  | 0, f, h => absurd (h 0 (Nat.le_refl _)) (Nat.not_lt_zero _)
  | n + 1, f, h => by
    by_cases hex : ∃ i, i ≤ n ∧ f i = f (n + 1)
    · obtain ⟨i, h1, h2⟩ := hex
      exact ⟨i, n + 1, by omega, Nat.le_refl _, h2⟩
    · have hne : ∀ i, i ≤ n → ¬ f i = f (n + 1) := fun i hi e => hex ⟨i, hi, e⟩
      obtain ⟨i, j, h1, h2, h3⟩ := php n (fun i => if f i = n then f (n + 1) else f i) (fun i hi => by
        have a1 := h i (by omega)
        have a2 := h (n + 1) (Nat.le_refl _)
        have a3 := hne i hi
        show (if f i = n then f (n + 1) else f i) < n
        split <;> omega)
      have b1 := hne i (by omega)
      have b2 := hne j h2
      have h3 : (if f i = n then f (n + 1) else f i) = (if f j = n then f (n + 1) else f j) := h3
      refine ⟨i, j, h1, by omega, ?_⟩
      split at h3
      · split at h3
        · omega
        · exact absurd h3.symm b2
      · split at h3
        · exact absurd h3 b1
        · exact h3
abbrev hasB (x k : Int32) : Prop := f_and (f_shr x k) 1 = 1
set_option maxRecDepth 100000 in
theorem c_X12_hasE {l : Launch} {x k : Int32} : MetP l 0 yX12_has cX12_has 2 (some .boolean) 0 0 [.inl x, .inl k] [] (fun r h' => r = some (.inl (bI (hasB x k))) ∧ h' = []) := by
  refine m_X12_has (Nat.le_of_ble_eq_true rfl) ?_
  refine And.intro (fun (h : hasB x k) => ?_) (fun (h : ¬ hasB x k) => ?_)
  · exact And.intro (Or.inr rfl) (by rw [bI_t h]; exact ⟨rfl, rfl⟩)
  · exact And.intro (Or.inl rfl) (by rw [bI_f h]; exact ⟨rfl, rfl⟩)
theorem has_n {S e : Nat} (hS : S < 64) (he : e < 6) : hasB (nI S) (nI e) ↔ S.testBit e = true := by
  have q : ∀ S, S < 64 → ∀ e, e < 6 → (hasB (nI S) (nI e) ↔ S.testBit e = true) := by decide +kernel
  exact q S hS e he
theorem or_n {S e : Nat} (hS : S < 64) (he : e < 6) : f_or (nI S) (f_shl 1 (nI e)) = nI (S ||| 2 ^ e) ∧ S ||| 2 ^ e < 64 := by
  have q : ∀ S, S < 64 → ∀ e, e < 6 → (f_or (nI S) (f_shl 1 (nI e)) = nI (S ||| 2 ^ e) ∧ S ||| 2 ^ e < 64) := by decide +kernel
  exact q S hS e he
theorem dif_n {S G : Nat} (hS : S < 64) (hG : G < 64) : f_and (nI S) (f_xor (nI G) (-1)) = nI (S &&& (63 ^^^ G)) := by
  have q : ∀ S, S < 64 → ∀ G, G < 64 → f_and (nI S) (f_xor (nI G) (-1)) = nI (S &&& (63 ^^^ G)) := by decide +kernel
  exact q S hS G hG
theorem tb_or {S e e' : Nat} : (S ||| 2 ^ e).testBit e' = (S.testBit e' || decide (e = e')) := by
  rw [Nat.testBit_or, Nat.testBit_two_pow]
theorem tb_dif {S G e : Nat} (hG : G.testBit e = true) (he : e < 6) : (S &&& (63 ^^^ G)).testBit e = false := by
  rw [Nat.testBit_and, Nat.testBit_xor, hG]
  have q : ∀ e, e < 6 → (63 : Nat).testBit e = true := by decide
  rw [q e he]
  simp
theorem tb_ex {S n : Nat} (hn : n ≤ 6) (hS : S < 2 ^ n) (h0 : ¬ S = 0) : ∃ e, e < n ∧ S.testBit e = true := by
  have q : ∀ n, n ≤ 6 → ∀ S, S < 2 ^ n → ¬ S = 0 → ∃ e, e < n ∧ S.testBit e = true := by decide +kernel
  exact q n hn S hS h0
/-- a row names each one once -/
def rowOk (tp : Nat → Int32) (n c : Nat) : Prop := ∃ o : Nat → Nat, (∀ i, i < n → o i < n ∧ f_and (tp (n * c + i)) 255 = nI (o i)) ∧ ∀ i j, i < j → j < n → ¬ o i = o j
theorem row_all {tp : Nat → Int32} {n c : Nat} (h : rowOk tp n c) : ∀ e, e < n → ∃ i, i < n ∧ f_and (tp (n * c + i)) 255 = nI e := by
  obtain ⟨o, h1, h2⟩ := h
  intro e he
  obtain ⟨i, j, a, b, q⟩ := php n (fun i => if i = n then e else o i) (fun i hi => by
    show (if i = n then e else o i) < n
    split
    · exact he
    · exact (h1 i (by omega)).1)
  have q : (if i = n then e else o i) = (if j = n then e else o j) := q
  rw [if_neg (by omega)] at q
  split at q
  · exact ⟨i, by omega, by rw [(h1 i (by omega)).2, q]⟩
  · exact absurd q (h2 i j a (by omega))
theorem mul_lt {n c k : Nat} (hn : n ≤ 6) (hc : c < n) (hk : k < n) : n * c + k < 36 := by
  have q : ∀ n, n ≤ 6 → ∀ c, c < n → ∀ k, k < n → n * c + k < 36 := by decide +kernel
  exact q n hn c hc k hk
theorem idx_n {n c k : Nat} : f_add (f_mul (nI n) (nI c)) (nI k) = nI (n * c + k) := by
  show nI n * nI c + nI k = _
  rw [nI_mul, nI_add]
theorem g_X12_octet {l : Launch} {M_now M_aside M_kept M_mintAt M_mintOf M_wholeOf M_isWall M_wasWall M_said M_waitsAt M_saidLetter M_saidFrom M_saidHalf M_saidTo M_codes M_clauseOf M_codeFrom M_codeHalf M_codeTo M_stack M_facts M_newStamps M_roundFrom M_roundAt M_roundTimes M_usesNow M_wasAt M_someOf M_fewestFor M_getsOf : List (Option Nat)} {M_stampMany M_taped M_place0 M_length0 M_fault M_number0 M_open M_codeMany M_waiting M_saidMany M_clauses M_newMany M_rounds M_stampFrom M_stampTimes M_lines M_spot0 M_pullAcross M_pullAlong M_stepsNow M_fallenNow M_isKept : Int32} {M_tape : Nat → Int32}  {K : Int32} {k : Nat} (eK : K = nI k) (hk : k < 260) : MetP l 0 yX12_octet cX12_octet 2 (some .int) 0 0 [.inr (some (.inl 0)), .inl K] [.inr (11, [.inr (some (.inr M_now)), .inr (some (.inr M_aside)), .inr (some (.inr M_kept)), .inr (some (.inr M_mintAt)), .inr (some (.inr M_mintOf)), .inr (some (.inr M_wholeOf)), .inr (some (.inr M_isWall)), .inr (some (.inr M_wasWall)), .inl M_stampMany, .inr (some (.inl 1)), .inl M_taped, .inl M_place0, .inl M_length0, .inl M_fault, .inl M_number0, .inl M_open, .inl M_codeMany, .inl M_waiting, .inl M_saidMany, .inl M_clauses, .inr (some (.inr M_said)), .inr (some (.inr M_waitsAt)), .inr (some (.inr M_saidLetter)), .inr (some (.inr M_saidFrom)), .inr (some (.inr M_saidHalf)), .inr (some (.inr M_saidTo)), .inr (some (.inr M_codes)), .inr (some (.inr M_clauseOf)), .inr (some (.inr M_codeFrom)), .inr (some (.inr M_codeHalf)), .inr (some (.inr M_codeTo)), .inr (some (.inr M_stack)), .inr (some (.inr M_facts)), .inr (some (.inr M_newStamps)), .inr (some (.inr M_roundFrom)), .inr (some (.inr M_roundAt)), .inr (some (.inr M_roundTimes)), .inl M_newMany, .inl M_rounds, .inl M_stampFrom, .inl M_stampTimes, .inl M_lines, .inl M_spot0, .inl M_pullAcross, .inl M_pullAlong, .inl M_stepsNow, .inl M_fallenNow, .inr (some (.inr M_usesNow)), .inr (some (.inr M_wasAt)), .inr (some (.inr M_someOf)), .inr (some (.inr M_fewestFor)), .inr (some (.inr M_getsOf)), .inl M_isKept]), .inl (1, 260, M_tape)] (fun r h' => r = some (.inl (f_and (M_tape k) 255)) ∧ h' = [.inr (11, [.inr (some (.inr M_now)), .inr (some (.inr M_aside)), .inr (some (.inr M_kept)), .inr (some (.inr M_mintAt)), .inr (some (.inr M_mintOf)), .inr (some (.inr M_wholeOf)), .inr (some (.inr M_isWall)), .inr (some (.inr M_wasWall)), .inl M_stampMany, .inr (some (.inl 1)), .inl M_taped, .inl M_place0, .inl M_length0, .inl M_fault, .inl M_number0, .inl M_open, .inl M_codeMany, .inl M_waiting, .inl M_saidMany, .inl M_clauses, .inr (some (.inr M_said)), .inr (some (.inr M_waitsAt)), .inr (some (.inr M_saidLetter)), .inr (some (.inr M_saidFrom)), .inr (some (.inr M_saidHalf)), .inr (some (.inr M_saidTo)), .inr (some (.inr M_codes)), .inr (some (.inr M_clauseOf)), .inr (some (.inr M_codeFrom)), .inr (some (.inr M_codeHalf)), .inr (some (.inr M_codeTo)), .inr (some (.inr M_stack)), .inr (some (.inr M_facts)), .inr (some (.inr M_newStamps)), .inr (some (.inr M_roundFrom)), .inr (some (.inr M_roundAt)), .inr (some (.inr M_roundTimes)), .inl M_newMany, .inl M_rounds, .inl M_stampFrom, .inl M_stampTimes, .inl M_lines, .inl M_spot0, .inl M_pullAcross, .inl M_pullAlong, .inl M_stepsNow, .inl M_fallenNow, .inr (some (.inr M_usesNow)), .inr (some (.inr M_wasAt)), .inr (some (.inr M_someOf)), .inr (some (.inr M_fewestFor)), .inr (some (.inr M_getsOf)), .inl M_isKept]), .inl (1, 260, M_tape)]) := by
  subst eK
  exact c_X12_octet hk
set_option maxRecDepth 100000 in
theorem c_X12_areRows {l : Launch} {M_now M_aside M_kept M_mintAt M_mintOf M_wholeOf M_isWall M_wasWall M_said M_waitsAt M_saidLetter M_saidFrom M_saidHalf M_saidTo M_codes M_clauseOf M_codeFrom M_codeHalf M_codeTo M_stack M_facts M_newStamps M_roundFrom M_roundAt M_roundTimes M_usesNow M_wasAt M_someOf M_fewestFor M_getsOf : List (Option Nat)} {M_stampMany M_taped M_place0 M_length0 M_fault M_number0 M_open M_codeMany M_waiting M_saidMany M_clauses M_newMany M_rounds M_stampFrom M_stampTimes M_lines M_spot0 M_pullAcross M_pullAlong M_stepsNow M_fallenNow M_isKept : Int32} {M_tape : Nat → Int32}  {n : Nat} (hn : n ≤ 6) : MetP l 1 yX12_areRows cX12_areRows 6 (some .boolean) 0 0 [.inr (some (.inl 0)), .inl (nI n)] [.inr (11, [.inr (some (.inr M_now)), .inr (some (.inr M_aside)), .inr (some (.inr M_kept)), .inr (some (.inr M_mintAt)), .inr (some (.inr M_mintOf)), .inr (some (.inr M_wholeOf)), .inr (some (.inr M_isWall)), .inr (some (.inr M_wasWall)), .inl M_stampMany, .inr (some (.inl 1)), .inl M_taped, .inl M_place0, .inl M_length0, .inl M_fault, .inl M_number0, .inl M_open, .inl M_codeMany, .inl M_waiting, .inl M_saidMany, .inl M_clauses, .inr (some (.inr M_said)), .inr (some (.inr M_waitsAt)), .inr (some (.inr M_saidLetter)), .inr (some (.inr M_saidFrom)), .inr (some (.inr M_saidHalf)), .inr (some (.inr M_saidTo)), .inr (some (.inr M_codes)), .inr (some (.inr M_clauseOf)), .inr (some (.inr M_codeFrom)), .inr (some (.inr M_codeHalf)), .inr (some (.inr M_codeTo)), .inr (some (.inr M_stack)), .inr (some (.inr M_facts)), .inr (some (.inr M_newStamps)), .inr (some (.inr M_roundFrom)), .inr (some (.inr M_roundAt)), .inr (some (.inr M_roundTimes)), .inl M_newMany, .inl M_rounds, .inl M_stampFrom, .inl M_stampTimes, .inl M_lines, .inl M_spot0, .inl M_pullAcross, .inl M_pullAlong, .inl M_stepsNow, .inl M_fallenNow, .inr (some (.inr M_usesNow)), .inr (some (.inr M_wasAt)), .inr (some (.inr M_someOf)), .inr (some (.inr M_fewestFor)), .inr (some (.inr M_getsOf)), .inl M_isKept]), .inl (1, 260, M_tape)] (fun r h' => ∃ b : Int32, (b = 0 ∨ b = 1) ∧ (b = 1 → ∀ c, c < n → rowOk M_tape n c) ∧ r = some (.inl b) ∧ h' = [.inr (11, [.inr (some (.inr M_now)), .inr (some (.inr M_aside)), .inr (some (.inr M_kept)), .inr (some (.inr M_mintAt)), .inr (some (.inr M_mintOf)), .inr (some (.inr M_wholeOf)), .inr (some (.inr M_isWall)), .inr (some (.inr M_wasWall)), .inl M_stampMany, .inr (some (.inl 1)), .inl M_taped, .inl M_place0, .inl M_length0, .inl M_fault, .inl M_number0, .inl M_open, .inl M_codeMany, .inl M_waiting, .inl M_saidMany, .inl M_clauses, .inr (some (.inr M_said)), .inr (some (.inr M_waitsAt)), .inr (some (.inr M_saidLetter)), .inr (some (.inr M_saidFrom)), .inr (some (.inr M_saidHalf)), .inr (some (.inr M_saidTo)), .inr (some (.inr M_codes)), .inr (some (.inr M_clauseOf)), .inr (some (.inr M_codeFrom)), .inr (some (.inr M_codeHalf)), .inr (some (.inr M_codeTo)), .inr (some (.inr M_stack)), .inr (some (.inr M_facts)), .inr (some (.inr M_newStamps)), .inr (some (.inr M_roundFrom)), .inr (some (.inr M_roundAt)), .inr (some (.inr M_roundTimes)), .inl M_newMany, .inl M_rounds, .inl M_stampFrom, .inl M_stampTimes, .inl M_lines, .inl M_spot0, .inl M_pullAcross, .inl M_pullAlong, .inl M_stepsNow, .inl M_fallenNow, .inr (some (.inr M_usesNow)), .inr (some (.inr M_wasAt)), .inr (some (.inr M_someOf)), .inr (some (.inr M_fewestFor)), .inr (some (.inr M_getsOf)), .inl M_isKept]), .inl (1, 260, M_tape)]) := by
  refine m_X12_areRows (fun μ L st h => ∃ (c : Nat) (z3 z4 z5 : Option PV), μ = 100 * (n - c) + 50 ∧ c ≤ n ∧ (∀ j, j < c → rowOk M_tape n j) ∧ L = [some (.inr (some (.inl 0))), some (.inl (nI n)), some (.inl (nI c)), z3, z4, z5] ∧ st = [] ∧ h = [.inr (11, [.inr (some (.inr M_now)), .inr (some (.inr M_aside)), .inr (some (.inr M_kept)), .inr (some (.inr M_mintAt)), .inr (some (.inr M_mintOf)), .inr (some (.inr M_wholeOf)), .inr (some (.inr M_isWall)), .inr (some (.inr M_wasWall)), .inl M_stampMany, .inr (some (.inl 1)), .inl M_taped, .inl M_place0, .inl M_length0, .inl M_fault, .inl M_number0, .inl M_open, .inl M_codeMany, .inl M_waiting, .inl M_saidMany, .inl M_clauses, .inr (some (.inr M_said)), .inr (some (.inr M_waitsAt)), .inr (some (.inr M_saidLetter)), .inr (some (.inr M_saidFrom)), .inr (some (.inr M_saidHalf)), .inr (some (.inr M_saidTo)), .inr (some (.inr M_codes)), .inr (some (.inr M_clauseOf)), .inr (some (.inr M_codeFrom)), .inr (some (.inr M_codeHalf)), .inr (some (.inr M_codeTo)), .inr (some (.inr M_stack)), .inr (some (.inr M_facts)), .inr (some (.inr M_newStamps)), .inr (some (.inr M_roundFrom)), .inr (some (.inr M_roundAt)), .inr (some (.inr M_roundTimes)), .inl M_newMany, .inl M_rounds, .inl M_stampFrom, .inl M_stampTimes, .inl M_lines, .inl M_spot0, .inl M_pullAcross, .inl M_pullAlong, .inl M_stepsNow, .inl M_fallenNow, .inr (some (.inr M_usesNow)), .inr (some (.inr M_wasAt)), .inr (some (.inr M_someOf)), .inr (some (.inr M_fewestFor)), .inr (some (.inr M_getsOf)), .inl M_isKept]), .inl (1, 260, M_tape)]) (fun μ L st h => ∃ (c k S : Nat) (o : Nat → Nat) (z5 : Option PV), μ = 100 * (n - c) + (n - k) ∧ c < n ∧ k ≤ n ∧ S < 64 ∧ (∀ j, j < c → rowOk M_tape n j) ∧ (∀ i, i < k → o i < n ∧ f_and (M_tape (n * c + i)) 255 = nI (o i) ∧ S.testBit (o i) = true) ∧ (∀ i j, i < j → j < k → ¬ o i = o j) ∧ L = [some (.inr (some (.inl 0))), some (.inl (nI n)), some (.inl (nI c)), some (.inl (nI S)), some (.inl (nI k)), z5] ∧ st = [] ∧ h = [.inr (11, [.inr (some (.inr M_now)), .inr (some (.inr M_aside)), .inr (some (.inr M_kept)), .inr (some (.inr M_mintAt)), .inr (some (.inr M_mintOf)), .inr (some (.inr M_wholeOf)), .inr (some (.inr M_isWall)), .inr (some (.inr M_wasWall)), .inl M_stampMany, .inr (some (.inl 1)), .inl M_taped, .inl M_place0, .inl M_length0, .inl M_fault, .inl M_number0, .inl M_open, .inl M_codeMany, .inl M_waiting, .inl M_saidMany, .inl M_clauses, .inr (some (.inr M_said)), .inr (some (.inr M_waitsAt)), .inr (some (.inr M_saidLetter)), .inr (some (.inr M_saidFrom)), .inr (some (.inr M_saidHalf)), .inr (some (.inr M_saidTo)), .inr (some (.inr M_codes)), .inr (some (.inr M_clauseOf)), .inr (some (.inr M_codeFrom)), .inr (some (.inr M_codeHalf)), .inr (some (.inr M_codeTo)), .inr (some (.inr M_stack)), .inr (some (.inr M_facts)), .inr (some (.inr M_newStamps)), .inr (some (.inr M_roundFrom)), .inr (some (.inr M_roundAt)), .inr (some (.inr M_roundTimes)), .inl M_newMany, .inl M_rounds, .inl M_stampFrom, .inl M_stampTimes, .inl M_lines, .inl M_spot0, .inl M_pullAcross, .inl M_pullAlong, .inl M_stepsNow, .inl M_fallenNow, .inr (some (.inr M_usesNow)), .inr (some (.inr M_wasAt)), .inr (some (.inr M_someOf)), .inr (some (.inr M_fewestFor)), .inr (some (.inr M_getsOf)), .inl M_isKept]), .inl (1, 260, M_tape)]) (Nat.le_of_ble_eq_true rfl) ?_ ?_ ?_
  · exact ⟨_, 0, _, _, _, rfl, by omega, fun j hj => absurd hj (Nat.not_lt_zero _), rfl, rfl, rfl⟩
  · rintro μ L st h ⟨c, z3, z4, z5, hμ, h1, h2, rfl, rfl, rfl⟩
    refine And.intro (fun q1 => ?_) (fun q1 => ?_)
    · have q1 := (nI_leI (by omega) (by omega)).mp q1
      exact And.intro (Or.inr rfl) ⟨1, Or.inr rfl, fun _ j hj => h2 j (by omega), rfl, rfl⟩
    · have q1 : c < n := Nat.lt_of_not_le fun z => q1 ((nI_leI (by omega) (by omega)).mpr z)
      exact ⟨100 * (n - c) + n, by omega, c, 0, 0, fun _ => 0, z5, rfl, q1, by omega, by omega, h2, fun i hi => absurd hi (Nat.not_lt_zero _), fun i j _ hj => absurd hj (Nat.not_lt_zero _), rfl, rfl, rfl⟩
  · rintro μ L st h ⟨c, k, S, o, z5, hμ, h1, h2, h3, h4, h5, h6, rfl, rfl, rfl⟩
    refine And.intro (fun q1 => ?_) (fun q1 => ?_)
    · have q1 := (nI_leI (by omega) (by omega)).mp q1
      refine ⟨100 * (n - (c + 1)) + 50, by omega, c + 1, some (.inl (nI S)), some (.inl (nI k)), z5, rfl, by omega, fun j hj => ?_, ?_, rfl, rfl⟩
      · rcases (by omega : j < c ∨ j = c) with q | rfl
        · exact h4 j q
        · exact ⟨o, fun i hi => ⟨(h5 i (by omega)).1, (h5 i (by omega)).2.1⟩, fun i j' a b => h6 i j' a (by omega)⟩
      · rw [← nI_1 c]
    · have q1 : k < n := Nat.lt_of_not_le fun z => q1 ((nI_leI (by omega) (by omega)).mpr z)
      have hlt := mul_lt hn h1 q1
      refine call0 (g_X12_octet idx_n (by omega)) rfl rfl ?_
      rintro r h' ⟨rfl, rfl⟩
      have no : ∃ b : Int32, (b = 0 ∨ b = 1) ∧ (b = 1 → ∀ c, c < n → rowOk M_tape n c) ∧ some (Sum.inl 0 : PV) = some (.inl b) ∧ ([.inr (11, [.inr (some (.inr M_now)), .inr (some (.inr M_aside)), .inr (some (.inr M_kept)), .inr (some (.inr M_mintAt)), .inr (some (.inr M_mintOf)), .inr (some (.inr M_wholeOf)), .inr (some (.inr M_isWall)), .inr (some (.inr M_wasWall)), .inl M_stampMany, .inr (some (.inl 1)), .inl M_taped, .inl M_place0, .inl M_length0, .inl M_fault, .inl M_number0, .inl M_open, .inl M_codeMany, .inl M_waiting, .inl M_saidMany, .inl M_clauses, .inr (some (.inr M_said)), .inr (some (.inr M_waitsAt)), .inr (some (.inr M_saidLetter)), .inr (some (.inr M_saidFrom)), .inr (some (.inr M_saidHalf)), .inr (some (.inr M_saidTo)), .inr (some (.inr M_codes)), .inr (some (.inr M_clauseOf)), .inr (some (.inr M_codeFrom)), .inr (some (.inr M_codeHalf)), .inr (some (.inr M_codeTo)), .inr (some (.inr M_stack)), .inr (some (.inr M_facts)), .inr (some (.inr M_newStamps)), .inr (some (.inr M_roundFrom)), .inr (some (.inr M_roundAt)), .inr (some (.inr M_roundTimes)), .inl M_newMany, .inl M_rounds, .inl M_stampFrom, .inl M_stampTimes, .inl M_lines, .inl M_spot0, .inl M_pullAcross, .inl M_pullAlong, .inl M_stepsNow, .inl M_fallenNow, .inr (some (.inr M_usesNow)), .inr (some (.inr M_wasAt)), .inr (some (.inr M_someOf)), .inr (some (.inr M_fewestFor)), .inr (some (.inr M_getsOf)), .inl M_isKept]), .inl (1, 260, M_tape)] : PH) = [.inr (11, [.inr (some (.inr M_now)), .inr (some (.inr M_aside)), .inr (some (.inr M_kept)), .inr (some (.inr M_mintAt)), .inr (some (.inr M_mintOf)), .inr (some (.inr M_wholeOf)), .inr (some (.inr M_isWall)), .inr (some (.inr M_wasWall)), .inl M_stampMany, .inr (some (.inl 1)), .inl M_taped, .inl M_place0, .inl M_length0, .inl M_fault, .inl M_number0, .inl M_open, .inl M_codeMany, .inl M_waiting, .inl M_saidMany, .inl M_clauses, .inr (some (.inr M_said)), .inr (some (.inr M_waitsAt)), .inr (some (.inr M_saidLetter)), .inr (some (.inr M_saidFrom)), .inr (some (.inr M_saidHalf)), .inr (some (.inr M_saidTo)), .inr (some (.inr M_codes)), .inr (some (.inr M_clauseOf)), .inr (some (.inr M_codeFrom)), .inr (some (.inr M_codeHalf)), .inr (some (.inr M_codeTo)), .inr (some (.inr M_stack)), .inr (some (.inr M_facts)), .inr (some (.inr M_newStamps)), .inr (some (.inr M_roundFrom)), .inr (some (.inr M_roundAt)), .inr (some (.inr M_roundTimes)), .inl M_newMany, .inl M_rounds, .inl M_stampFrom, .inl M_stampTimes, .inl M_lines, .inl M_spot0, .inl M_pullAcross, .inl M_pullAlong, .inl M_stepsNow, .inl M_fallenNow, .inr (some (.inr M_usesNow)), .inr (some (.inr M_wasAt)), .inr (some (.inr M_someOf)), .inr (some (.inr M_fewestFor)), .inr (some (.inr M_getsOf)), .inl M_isKept]), .inl (1, 260, M_tape)] := ⟨0, Or.inl rfl, fun z => absurd z (by decide), rfl, rfl⟩
      obtain ⟨e, he, ee⟩ := rng_n (x := f_and (M_tape (n * c + k)) 255) (k := 255) oct_rng.1 oct_rng.2
      rw [ee]
      refine And.intro (fun _ => And.intro (Or.inl rfl) no) (fun q2 => ?_)
      have q2 : e < n := Nat.lt_of_not_le fun z => q2 ((nI_leI (by omega) (by omega)).mpr z)
      refine call0 (c_X12_hasE) rfl rfl ?_
      rintro r h' ⟨rfl, rfl⟩
      refine br_b (fun w => ?_) (fun w => And.intro (Or.inl rfl) no)
      have w : ¬ S.testBit e = true := fun z => w ((has_n h3 (by omega)).mpr z)
      obtain ⟨o1, o2⟩ := or_n h3 (by omega : e < 6)
      refine ⟨100 * (n - c) + (n - (k + 1)), by omega, c, k + 1, S ||| 2 ^ e, updN o k e, some (.inl (nI e)), rfl, h1, by omega, o2, h4, fun i hi => ?_, fun i j a b => ?_, ?_, rfl, rfl⟩
      · by_cases ei : i = k
        · subst ei
          rw [updN_s]
          exact ⟨q2, ee, by rw [tb_or]; simp⟩
        · rw [updN_n ei]
          obtain ⟨a1, a2, a3⟩ := h5 i (by omega)
          exact ⟨a1, a2, by rw [tb_or, a3]; rfl⟩
      · rw [updN_n (show ¬ i = k by omega)]
        by_cases ej : j = k
        · subst ej
          rw [updN_s]
          exact fun z => w (by rw [← z]; exact (h5 i a).2.2)
        · rw [updN_n ej]
          exact h6 i j a (by omega)
      · rw [← o1, ← nI_1 k]
/-- whom c likes most of those left -/
def liked (tp : Nat → Int32) (n S c e : Nat) : Prop := e < n ∧ S.testBit e = true ∧ ∃ i, i < n ∧ f_and (tp (n * c + i)) 255 = nI e ∧ ∀ j, j < i → ∃ e', e' < n ∧ f_and (tp (n * c + j)) 255 = nI e' ∧ ¬ S.testBit e' = true
theorem liked_ex {tp : Nat → Int32} {n S c : Nat} (hn : n ≤ 6) (h : rowOk tp n c) (hS : ∃ e, e < n ∧ S.testBit e = true) : ∃ e, liked tp n S c e := by
  obtain ⟨e, he, hb⟩ := hS
  obtain ⟨i, hi, ei⟩ := row_all h e he
  obtain ⟨o, h1, _⟩ := h
  have key : ∀ k, k ≤ n → (∃ e, liked tp n S c e) ∨ ∀ j, j < k → ∃ e', e' < n ∧ f_and (tp (n * c + j)) 255 = nI e' ∧ ¬ S.testBit e' = true := by
    intro k
    induction k with
    | zero => exact fun _ => Or.inr fun j hj => absurd hj (Nat.not_lt_zero _)
    | succ k ih =>
      intro hk
      rcases ih (by omega) with q | q
      · exact Or.inl q
      · obtain ⟨a1, a2⟩ := h1 k (by omega)
        by_cases hb' : S.testBit (o k) = true
        · exact Or.inl ⟨o k, a1, hb', k, by omega, a2, q⟩
        · refine Or.inr fun j hj => ?_
          rcases (by omega : j < k ∨ j = k) with q2 | rfl
          · exact q j q2
          · exact ⟨o j, a1, a2, hb'⟩
  rcases key n (Nat.le_refl _) with q | q
  · exact q
  · obtain ⟨e', e1, e2, e3⟩ := q i hi
    rw [ei] at e2
    rw [(nI_eq (by omega) (by omega)).mp e2] at hb
    exact absurd hb e3
set_option maxRecDepth 100000 in
theorem c_X12_likesOf {l : Launch} {M_now M_aside M_kept M_mintAt M_mintOf M_wholeOf M_isWall M_wasWall M_said M_waitsAt M_saidLetter M_saidFrom M_saidHalf M_saidTo M_codes M_clauseOf M_codeFrom M_codeHalf M_codeTo M_stack M_facts M_newStamps M_roundFrom M_roundAt M_roundTimes M_usesNow M_wasAt M_someOf M_fewestFor M_getsOf : List (Option Nat)} {M_stampMany M_taped M_place0 M_length0 M_fault M_number0 M_open M_codeMany M_waiting M_saidMany M_clauses M_newMany M_rounds M_stampFrom M_stampTimes M_lines M_spot0 M_pullAcross M_pullAlong M_stepsNow M_fallenNow M_isKept : Int32} {M_tape : Nat → Int32}  {n S c e : Nat} (hn : n ≤ 6) (hc : c < n) (hS : S < 64) (hL : liked M_tape n S c e) (hall : ∀ i, i < n → ∃ e', e' < n ∧ f_and (M_tape (n * c + i)) 255 = nI e') : MetP l 1 yX12_likesOf cX12_likesOf 5 (some .int) 0 0 [.inr (some (.inl 0)), .inl (nI c), .inl (nI S), .inl (nI n)] [.inr (11, [.inr (some (.inr M_now)), .inr (some (.inr M_aside)), .inr (some (.inr M_kept)), .inr (some (.inr M_mintAt)), .inr (some (.inr M_mintOf)), .inr (some (.inr M_wholeOf)), .inr (some (.inr M_isWall)), .inr (some (.inr M_wasWall)), .inl M_stampMany, .inr (some (.inl 1)), .inl M_taped, .inl M_place0, .inl M_length0, .inl M_fault, .inl M_number0, .inl M_open, .inl M_codeMany, .inl M_waiting, .inl M_saidMany, .inl M_clauses, .inr (some (.inr M_said)), .inr (some (.inr M_waitsAt)), .inr (some (.inr M_saidLetter)), .inr (some (.inr M_saidFrom)), .inr (some (.inr M_saidHalf)), .inr (some (.inr M_saidTo)), .inr (some (.inr M_codes)), .inr (some (.inr M_clauseOf)), .inr (some (.inr M_codeFrom)), .inr (some (.inr M_codeHalf)), .inr (some (.inr M_codeTo)), .inr (some (.inr M_stack)), .inr (some (.inr M_facts)), .inr (some (.inr M_newStamps)), .inr (some (.inr M_roundFrom)), .inr (some (.inr M_roundAt)), .inr (some (.inr M_roundTimes)), .inl M_newMany, .inl M_rounds, .inl M_stampFrom, .inl M_stampTimes, .inl M_lines, .inl M_spot0, .inl M_pullAcross, .inl M_pullAlong, .inl M_stepsNow, .inl M_fallenNow, .inr (some (.inr M_usesNow)), .inr (some (.inr M_wasAt)), .inr (some (.inr M_someOf)), .inr (some (.inr M_fewestFor)), .inr (some (.inr M_getsOf)), .inl M_isKept]), .inl (1, 260, M_tape)] (fun r h' => r = some (.inl (nI e)) ∧ h' = [.inr (11, [.inr (some (.inr M_now)), .inr (some (.inr M_aside)), .inr (some (.inr M_kept)), .inr (some (.inr M_mintAt)), .inr (some (.inr M_mintOf)), .inr (some (.inr M_wholeOf)), .inr (some (.inr M_isWall)), .inr (some (.inr M_wasWall)), .inl M_stampMany, .inr (some (.inl 1)), .inl M_taped, .inl M_place0, .inl M_length0, .inl M_fault, .inl M_number0, .inl M_open, .inl M_codeMany, .inl M_waiting, .inl M_saidMany, .inl M_clauses, .inr (some (.inr M_said)), .inr (some (.inr M_waitsAt)), .inr (some (.inr M_saidLetter)), .inr (some (.inr M_saidFrom)), .inr (some (.inr M_saidHalf)), .inr (some (.inr M_saidTo)), .inr (some (.inr M_codes)), .inr (some (.inr M_clauseOf)), .inr (some (.inr M_codeFrom)), .inr (some (.inr M_codeHalf)), .inr (some (.inr M_codeTo)), .inr (some (.inr M_stack)), .inr (some (.inr M_facts)), .inr (some (.inr M_newStamps)), .inr (some (.inr M_roundFrom)), .inr (some (.inr M_roundAt)), .inr (some (.inr M_roundTimes)), .inl M_newMany, .inl M_rounds, .inl M_stampFrom, .inl M_stampTimes, .inl M_lines, .inl M_spot0, .inl M_pullAcross, .inl M_pullAlong, .inl M_stepsNow, .inl M_fallenNow, .inr (some (.inr M_usesNow)), .inr (some (.inr M_wasAt)), .inr (some (.inr M_someOf)), .inr (some (.inr M_fewestFor)), .inr (some (.inr M_getsOf)), .inl M_isKept]), .inl (1, 260, M_tape)]) := by
  obtain ⟨he, hb, i, hi, ei, hj⟩ := hL
  refine m_X12_likesOf (fun μ L st h => ∃ k : Nat, μ = n - k ∧ k ≤ i ∧ L = [some (.inr (some (.inl 0))), some (.inl (nI c)), some (.inl (nI S)), some (.inl (nI n)), some (.inl (nI k))] ∧ st = [] ∧ h = [.inr (11, [.inr (some (.inr M_now)), .inr (some (.inr M_aside)), .inr (some (.inr M_kept)), .inr (some (.inr M_mintAt)), .inr (some (.inr M_mintOf)), .inr (some (.inr M_wholeOf)), .inr (some (.inr M_isWall)), .inr (some (.inr M_wasWall)), .inl M_stampMany, .inr (some (.inl 1)), .inl M_taped, .inl M_place0, .inl M_length0, .inl M_fault, .inl M_number0, .inl M_open, .inl M_codeMany, .inl M_waiting, .inl M_saidMany, .inl M_clauses, .inr (some (.inr M_said)), .inr (some (.inr M_waitsAt)), .inr (some (.inr M_saidLetter)), .inr (some (.inr M_saidFrom)), .inr (some (.inr M_saidHalf)), .inr (some (.inr M_saidTo)), .inr (some (.inr M_codes)), .inr (some (.inr M_clauseOf)), .inr (some (.inr M_codeFrom)), .inr (some (.inr M_codeHalf)), .inr (some (.inr M_codeTo)), .inr (some (.inr M_stack)), .inr (some (.inr M_facts)), .inr (some (.inr M_newStamps)), .inr (some (.inr M_roundFrom)), .inr (some (.inr M_roundAt)), .inr (some (.inr M_roundTimes)), .inl M_newMany, .inl M_rounds, .inl M_stampFrom, .inl M_stampTimes, .inl M_lines, .inl M_spot0, .inl M_pullAcross, .inl M_pullAlong, .inl M_stepsNow, .inl M_fallenNow, .inr (some (.inr M_usesNow)), .inr (some (.inr M_wasAt)), .inr (some (.inr M_someOf)), .inr (some (.inr M_fewestFor)), .inr (some (.inr M_getsOf)), .inl M_isKept]), .inl (1, 260, M_tape)]) (Nat.le_of_ble_eq_true rfl) ?_ ?_
  · exact ⟨_, 0, rfl, by omega, rfl, rfl, rfl⟩
  · rintro μ L st h ⟨k, hμ, h1, rfl, rfl, rfl⟩
    have hlt := mul_lt hn hc (show k < n by omega)
    refine call0 (g_X12_octet idx_n (by omega)) rfl rfl ?_
    rintro r h' ⟨rfl, rfl⟩
    rcases (by omega : k < i ∨ k = i) with q | rfl
    · obtain ⟨e', e1, e2, e3⟩ := hj k q
      rw [e2]
      refine call0 (c_X12_hasE) rfl rfl ?_
      rintro r h' ⟨rfl, rfl⟩
      refine br_b (fun _ => ?_) (fun w => absurd ((has_n hS (by omega)).mp w) e3)
      refine ⟨n - (k + 1), by omega, k + 1, rfl, by omega, ?_, rfl, rfl⟩
      rw [← nI_1 k]
      rfl
    · rw [ei]
      refine call0 (c_X12_hasE) rfl rfl ?_
      rintro r h' ⟨rfl, rfl⟩
      refine br_b (fun w => absurd ((has_n hS (by omega)).mpr hb) w) (fun _ => ?_)
      refine call0 (g_X12_octet idx_n (by omega)) rfl rfl ?_
      rintro r h' ⟨rfl, rfl⟩
      rw [ei]
      exact ⟨rfl, rfl⟩
theorem p64 {n S : Nat} (hn : n ≤ 6) (hS : S < 2 ^ n) : S < 64 := by
  have q : ∀ n, n ≤ 6 → 2 ^ n ≤ 64 := by decide +kernel
  have := q n hn
  omega
def itG (G : Nat → Nat) (c : Nat) : Nat → Nat
  | 0 => c
  | k + 1 => G (itG G c k)
theorem itG_eq {G : Nat → Nat} {c i j : Nat} (h : itG G c i = itG G c j) : ∀ m, itG G c (i + m) = itG G c (j + m)
  | 0 => h
  | m + 1 => by
    show G (itG G c (i + m)) = G (itG G c (j + m))
    rw [itG_eq h m]
set_option maxRecDepth 100000 in
theorem c_X12_changesRing {l : Launch} {M_now M_aside M_kept M_mintAt M_mintOf M_wholeOf M_isWall M_wasWall M_said M_waitsAt M_saidLetter M_saidFrom M_saidHalf M_saidTo M_codes M_clauseOf M_codeFrom M_codeHalf M_codeTo M_stack M_facts M_newStamps M_roundFrom M_roundAt M_roundTimes M_usesNow M_wasAt M_someOf M_fewestFor : List (Option Nat)} {M_stampMany M_taped M_place0 M_length0 M_fault M_number0 M_open M_codeMany M_waiting M_saidMany M_clauses M_newMany M_rounds M_stampFrom M_stampTimes M_lines M_spot0 M_pullAcross M_pullAlong M_stepsNow M_fallenNow M_isKept : Int32} {M_tape M_getsOf : Nat → Int32}  {n S : Nat} (h1 : 1 ≤ n) (hn : n ≤ 6) (hS : S < 2 ^ n) (h0 : ¬ S = 0) (hR : ∀ c, c < n → rowOk M_tape n c) : MetP l 2 yX12_changesRing cX12_changesRing 6 (some .int) 0 0 [.inr (some (.inl 0)), .inl (nI S), .inl (nI n)] [.inr (11, [.inr (some (.inr M_now)), .inr (some (.inr M_aside)), .inr (some (.inr M_kept)), .inr (some (.inr M_mintAt)), .inr (some (.inr M_mintOf)), .inr (some (.inr M_wholeOf)), .inr (some (.inr M_isWall)), .inr (some (.inr M_wasWall)), .inl M_stampMany, .inr (some (.inl 1)), .inl M_taped, .inl M_place0, .inl M_length0, .inl M_fault, .inl M_number0, .inl M_open, .inl M_codeMany, .inl M_waiting, .inl M_saidMany, .inl M_clauses, .inr (some (.inr M_said)), .inr (some (.inr M_waitsAt)), .inr (some (.inr M_saidLetter)), .inr (some (.inr M_saidFrom)), .inr (some (.inr M_saidHalf)), .inr (some (.inr M_saidTo)), .inr (some (.inr M_codes)), .inr (some (.inr M_clauseOf)), .inr (some (.inr M_codeFrom)), .inr (some (.inr M_codeHalf)), .inr (some (.inr M_codeTo)), .inr (some (.inr M_stack)), .inr (some (.inr M_facts)), .inr (some (.inr M_newStamps)), .inr (some (.inr M_roundFrom)), .inr (some (.inr M_roundAt)), .inr (some (.inr M_roundTimes)), .inl M_newMany, .inl M_rounds, .inl M_stampFrom, .inl M_stampTimes, .inl M_lines, .inl M_spot0, .inl M_pullAcross, .inl M_pullAlong, .inl M_stepsNow, .inl M_fallenNow, .inr (some (.inr M_usesNow)), .inr (some (.inr M_wasAt)), .inr (some (.inr M_someOf)), .inr (some (.inr M_fewestFor)), .inr (some (.inl 2)), .inl M_isKept]), .inl (1, 260, M_tape), .inl (0, 6, M_getsOf)] (fun r h' => ∃ (S' : Nat) (gt : Nat → Int32), S' < S ∧ r = some (.inl (nI S')) ∧ h' = [.inr (11, [.inr (some (.inr M_now)), .inr (some (.inr M_aside)), .inr (some (.inr M_kept)), .inr (some (.inr M_mintAt)), .inr (some (.inr M_mintOf)), .inr (some (.inr M_wholeOf)), .inr (some (.inr M_isWall)), .inr (some (.inr M_wasWall)), .inl M_stampMany, .inr (some (.inl 1)), .inl M_taped, .inl M_place0, .inl M_length0, .inl M_fault, .inl M_number0, .inl M_open, .inl M_codeMany, .inl M_waiting, .inl M_saidMany, .inl M_clauses, .inr (some (.inr M_said)), .inr (some (.inr M_waitsAt)), .inr (some (.inr M_saidLetter)), .inr (some (.inr M_saidFrom)), .inr (some (.inr M_saidHalf)), .inr (some (.inr M_saidTo)), .inr (some (.inr M_codes)), .inr (some (.inr M_clauseOf)), .inr (some (.inr M_codeFrom)), .inr (some (.inr M_codeHalf)), .inr (some (.inr M_codeTo)), .inr (some (.inr M_stack)), .inr (some (.inr M_facts)), .inr (some (.inr M_newStamps)), .inr (some (.inr M_roundFrom)), .inr (some (.inr M_roundAt)), .inr (some (.inr M_roundTimes)), .inl M_newMany, .inl M_rounds, .inl M_stampFrom, .inl M_stampTimes, .inl M_lines, .inl M_spot0, .inl M_pullAcross, .inl M_pullAlong, .inl M_stepsNow, .inl M_fallenNow, .inr (some (.inr M_usesNow)), .inr (some (.inr M_wasAt)), .inr (some (.inr M_someOf)), .inr (some (.inr M_fewestFor)), .inr (some (.inl 2)), .inl M_isKept]), .inl (1, 260, M_tape), .inl (0, 6, gt)]) := by
  have hS6 : S < 64 := p64 hn hS
  obtain ⟨e0, he0, hb0⟩ := tb_ex hn hS h0
  have hex : ∀ c, ∃ e, c < n → liked M_tape n S c e := fun c => by
    by_cases hc : c < n
    · obtain ⟨e, q⟩ := liked_ex hn (hR c hc) ⟨e0, he0, hb0⟩
      exact ⟨e, fun _ => q⟩
    · exact ⟨0, fun z => absurd z hc⟩
  obtain ⟨G, hG⟩ : ∃ G : Nat → Nat, ∀ c, c < n → liked M_tape n S c (G c) := ⟨fun c => Classical.choose (hex c), fun c => Classical.choose_spec (hex c)⟩
  have hall : ∀ c, c < n → ∀ i, i < n → ∃ e', e' < n ∧ f_and (M_tape (n * c + i)) 255 = nI e' := fun c hc i hi => (hR c hc).elim fun o ho => ⟨o i, (ho.1 i hi).1, (ho.1 i hi).2⟩
  have itl : ∀ {c0 : Nat}, c0 < n → ∀ k, itG G c0 k < n := fun {c0} hc k => by
    induction k with
    | zero => exact hc
    | succ k ih => exact (hG _ ih).1
  refine m_X12_changesRing (fun μ L st h => ∃ (c : Nat) (z4 z5 : Option PV), μ = 10000 + (10 - c) ∧ c ≤ e0 ∧ L = [some (.inr (some (.inl 0))), some (.inl (nI S)), some (.inl (nI n)), some (.inl (nI c)), z4, z5] ∧ st = [] ∧ h = [.inr (11, [.inr (some (.inr M_now)), .inr (some (.inr M_aside)), .inr (some (.inr M_kept)), .inr (some (.inr M_mintAt)), .inr (some (.inr M_mintOf)), .inr (some (.inr M_wholeOf)), .inr (some (.inr M_isWall)), .inr (some (.inr M_wasWall)), .inl M_stampMany, .inr (some (.inl 1)), .inl M_taped, .inl M_place0, .inl M_length0, .inl M_fault, .inl M_number0, .inl M_open, .inl M_codeMany, .inl M_waiting, .inl M_saidMany, .inl M_clauses, .inr (some (.inr M_said)), .inr (some (.inr M_waitsAt)), .inr (some (.inr M_saidLetter)), .inr (some (.inr M_saidFrom)), .inr (some (.inr M_saidHalf)), .inr (some (.inr M_saidTo)), .inr (some (.inr M_codes)), .inr (some (.inr M_clauseOf)), .inr (some (.inr M_codeFrom)), .inr (some (.inr M_codeHalf)), .inr (some (.inr M_codeTo)), .inr (some (.inr M_stack)), .inr (some (.inr M_facts)), .inr (some (.inr M_newStamps)), .inr (some (.inr M_roundFrom)), .inr (some (.inr M_roundAt)), .inr (some (.inr M_roundTimes)), .inl M_newMany, .inl M_rounds, .inl M_stampFrom, .inl M_stampTimes, .inl M_lines, .inl M_spot0, .inl M_pullAcross, .inl M_pullAlong, .inl M_stepsNow, .inl M_fallenNow, .inr (some (.inr M_usesNow)), .inr (some (.inr M_wasAt)), .inr (some (.inr M_someOf)), .inr (some (.inr M_fewestFor)), .inr (some (.inl 2)), .inl M_isKept]), .inl (1, 260, M_tape), .inl (0, 6, M_getsOf)]) (fun μ L st h => ∃ (c0 k : Nat) (z5 : Option PV), μ = 1000 + (n - k) ∧ c0 < n ∧ k ≤ n ∧ L = [some (.inr (some (.inl 0))), some (.inl (nI S)), some (.inl (nI n)), some (.inl (nI (itG G c0 k))), some (.inl (nI k)), z5] ∧ st = [] ∧ h = [.inr (11, [.inr (some (.inr M_now)), .inr (some (.inr M_aside)), .inr (some (.inr M_kept)), .inr (some (.inr M_mintAt)), .inr (some (.inr M_mintOf)), .inr (some (.inr M_wholeOf)), .inr (some (.inr M_isWall)), .inr (some (.inr M_wasWall)), .inl M_stampMany, .inr (some (.inl 1)), .inl M_taped, .inl M_place0, .inl M_length0, .inl M_fault, .inl M_number0, .inl M_open, .inl M_codeMany, .inl M_waiting, .inl M_saidMany, .inl M_clauses, .inr (some (.inr M_said)), .inr (some (.inr M_waitsAt)), .inr (some (.inr M_saidLetter)), .inr (some (.inr M_saidFrom)), .inr (some (.inr M_saidHalf)), .inr (some (.inr M_saidTo)), .inr (some (.inr M_codes)), .inr (some (.inr M_clauseOf)), .inr (some (.inr M_codeFrom)), .inr (some (.inr M_codeHalf)), .inr (some (.inr M_codeTo)), .inr (some (.inr M_stack)), .inr (some (.inr M_facts)), .inr (some (.inr M_newStamps)), .inr (some (.inr M_roundFrom)), .inr (some (.inr M_roundAt)), .inr (some (.inr M_roundTimes)), .inl M_newMany, .inl M_rounds, .inl M_stampFrom, .inl M_stampTimes, .inl M_lines, .inl M_spot0, .inl M_pullAcross, .inl M_pullAlong, .inl M_stepsNow, .inl M_fallenNow, .inr (some (.inr M_usesNow)), .inr (some (.inr M_wasAt)), .inr (some (.inr M_someOf)), .inr (some (.inr M_fewestFor)), .inr (some (.inl 2)), .inl M_isKept]), .inl (1, 260, M_tape), .inl (0, 6, M_getsOf)]) (fun μ L st h => ∃ (c0 j d g : Nat) (gt : Nat → Int32), μ = d - j ∧ c0 < n ∧ j ≤ d ∧ d ≤ n ∧ 1 ≤ d ∧ itG G c0 (n + d) = itG G c0 n ∧ g < 64 ∧ (∀ i, 1 ≤ i → i ≤ j → g.testBit (itG G c0 (n + i)) = true) ∧ L = [some (.inr (some (.inl 0))), some (.inl (nI S)), some (.inl (nI n)), some (.inl (nI (itG G c0 (n + j)))), some (.inl (nI (itG G c0 n))), some (.inl (nI g))] ∧ st = [] ∧ h = [.inr (11, [.inr (some (.inr M_now)), .inr (some (.inr M_aside)), .inr (some (.inr M_kept)), .inr (some (.inr M_mintAt)), .inr (some (.inr M_mintOf)), .inr (some (.inr M_wholeOf)), .inr (some (.inr M_isWall)), .inr (some (.inr M_wasWall)), .inl M_stampMany, .inr (some (.inl 1)), .inl M_taped, .inl M_place0, .inl M_length0, .inl M_fault, .inl M_number0, .inl M_open, .inl M_codeMany, .inl M_waiting, .inl M_saidMany, .inl M_clauses, .inr (some (.inr M_said)), .inr (some (.inr M_waitsAt)), .inr (some (.inr M_saidLetter)), .inr (some (.inr M_saidFrom)), .inr (some (.inr M_saidHalf)), .inr (some (.inr M_saidTo)), .inr (some (.inr M_codes)), .inr (some (.inr M_clauseOf)), .inr (some (.inr M_codeFrom)), .inr (some (.inr M_codeHalf)), .inr (some (.inr M_codeTo)), .inr (some (.inr M_stack)), .inr (some (.inr M_facts)), .inr (some (.inr M_newStamps)), .inr (some (.inr M_roundFrom)), .inr (some (.inr M_roundAt)), .inr (some (.inr M_roundTimes)), .inl M_newMany, .inl M_rounds, .inl M_stampFrom, .inl M_stampTimes, .inl M_lines, .inl M_spot0, .inl M_pullAcross, .inl M_pullAlong, .inl M_stepsNow, .inl M_fallenNow, .inr (some (.inr M_usesNow)), .inr (some (.inr M_wasAt)), .inr (some (.inr M_someOf)), .inr (some (.inr M_fewestFor)), .inr (some (.inl 2)), .inl M_isKept]), .inl (1, 260, M_tape), .inl (0, 6, gt)]) (Nat.le_of_ble_eq_true rfl) ?_ ?_ ?_ ?_
  · exact ⟨_, 0, _, _, rfl, by omega, rfl, rfl, rfl⟩
  · rintro μ L st h ⟨c, z4, z5, hμ, g1, rfl, rfl, rfl⟩
    refine call0 (c_X12_hasE) rfl rfl ?_
    rintro r h' ⟨rfl, rfl⟩
    refine br_b (fun w => ?_) (fun w => ?_)
    · have hne : ¬ c = e0 := fun z => w (by rw [z]; exact (has_n hS6 (by omega)).mpr hb0)
      refine ⟨10000 + (10 - (c + 1)), by omega, c + 1, z4, z5, rfl, by omega, ?_, rfl, rfl⟩
      rw [← nI_1 c]
      rfl
    · exact ⟨1000 + n, by omega, c, 0, z5, rfl, by omega, by omega, rfl, rfl, rfl⟩
  · rintro μ L st h ⟨c0, k, z5, hμ, g1, g2, rfl, rfl, rfl⟩
    refine And.intro (fun q1 => ?_) (fun q1 => ?_)
    · have q1 := (nI_leI (by omega) (by omega)).mp q1
      have ek : k = n := by omega
      subst ek
      obtain ⟨i, j, a, b, q⟩ := php k (itG G c0) (fun i _ => itl g1 i)
      have q2 := itG_eq q (k - i)
      rw [show i + (k - i) = k by omega, show j + (k - i) = k + (j - i) by omega] at q2
      exact ⟨j - i, by omega, c0, 0, j - i, 0, M_getsOf, rfl, g1, by omega, by omega, by omega, q2.symm, by omega, fun i _ _ => by omega, rfl, rfl, rfl⟩
    · have q1 : k < n := Nat.lt_of_not_le fun z => q1 ((nI_leI (by omega) (by omega)).mpr z)
      have hc := itl g1 k
      refine call0 (c_X12_likesOf hn hc hS6 (hG _ hc) (hall _ hc)) rfl rfl ?_
      rintro r h' ⟨rfl, rfl⟩
      refine ⟨1000 + (n - (k + 1)), by omega, c0, k + 1, z5, rfl, g1, by omega, ?_, rfl, rfl⟩
      rw [← nI_1 k]
      rfl
  · rintro μ L st h ⟨c0, j, d, g, gt, hμ, g1, g2, g3, g4, g5, g6, g7, rfl, rfl, rfl⟩
    have hf := itl g1 n
    have hc := itl g1 (n + j)
    refine call0 (c_X12_hasE) rfl rfl ?_
    rintro r h' ⟨rfl, rfl⟩
    refine br_b (fun w => ?_) (fun w => ?_)
    · have w : ¬ g.testBit (itG G c0 n) = true := fun z => w ((has_n g6 (by omega)).mpr z)
      have hj : j < d := by
        rcases (by omega : j < d ∨ j = d) with q | rfl
        · exact q
        · exact absurd (by rw [← g5]; exact g7 j g4 (Nat.le_refl _)) w
      refine call0 (c_X12_likesOf hn hc hS6 (hG _ hc) (hall _ hc)) rfl rfl ?_
      rintro r h' ⟨rfl, rfl⟩
      have i6 : vp_in (nI (itG G c0 (n + j))) 6 := vp_in_nI (by omega) (by omega)
      refine And.intro i6 (And.intro i6 ?_)
      have hc2 := itl g1 (n + (j + 1))
      obtain ⟨o1, o2⟩ := or_n g6 (by omega : itG G c0 (n + (j + 1)) < 6)
      have eu : upd gt (nI (itG G c0 (n + j))).toNatClampNeg (f_nar 0 (nI (G (itG G c0 (n + j))))) (nI (itG G c0 (n + j))).toNatClampNeg = nI (itG G c0 (n + (j + 1))) := upd_sI
      rw [eu]
      refine ⟨d - (j + 1), by omega, c0, j + 1, d, g ||| 2 ^ itG G c0 (n + (j + 1)), _, rfl, g1, by omega, g3, g4, g5, o2, fun i i1 i2 => ?_, ?_, rfl, rfl⟩
      · rw [tb_or]
        rcases (by omega : i ≤ j ∨ i = j + 1) with q | rfl
        · rw [g7 i i1 q]; rfl
        · simp
      · rw [← o1]
    · have w := (has_n g6 (by omega)).mp w
      have inS : S.testBit (itG G c0 n) = true := by
        obtain ⟨m, rfl⟩ : ∃ m, n = m + 1 := ⟨n - 1, by omega⟩
        exact (hG _ (itl g1 m)).2.1
      refine ⟨S &&& (63 ^^^ g), gt, ?_, ?_, rfl⟩
      · have le : S &&& (63 ^^^ g) ≤ S := Nat.and_le_left
        have ne : ¬ S &&& (63 ^^^ g) = S := fun z => by
          have q := tb_dif (S := S) w (by omega)
          rw [z, inS] at q
          cases q
        omega
      · have e := dif_n hS6 g6
        rw [← e]
theorem full_n {n : Nat} (hn : n ≤ 6) : f_sub (f_shl 1 (nI n)) 1 = nI (2 ^ n - 1) := by
  have q : ∀ n, n ≤ 6 → f_sub (f_shl 1 (nI n)) 1 = nI (2 ^ n - 1) := by decide +kernel
  exact q n hn
set_option maxRecDepth 100000 in
theorem c_X12_exchange {l : Launch} {M_now M_aside M_kept M_mintAt M_mintOf M_wholeOf M_isWall M_wasWall M_said M_waitsAt M_saidLetter M_saidFrom M_saidHalf M_saidTo M_codes M_clauseOf M_codeFrom M_codeHalf M_codeTo M_stack M_facts M_newStamps M_roundFrom M_roundAt M_roundTimes M_usesNow M_wasAt M_someOf M_fewestFor : List (Option Nat)} {M_stampMany M_taped M_place0 M_length0 M_fault M_number0 M_open M_codeMany M_waiting M_saidMany M_clauses M_newMany M_rounds M_stampFrom M_stampTimes M_lines M_spot0 M_pullAcross M_pullAlong M_stepsNow M_fallenNow M_isKept : Int32} {M_tape M_getsOf : Nat → Int32}  {a b : Int32} {Y : Prop} (hY : Y → (2 ≤ a ∧ a ≤ 6) ∧ (0 ≤ b ∧ b ≤ f_sub a 1) ∧ f_mul a a ≤ M_taped) : MetP l 3 yX12_exchange cX12_exchange 4 (some .int) 0 0 [.inr (some (.inl 0)), .inl a, .inl b] [.inr (11, [.inr (some (.inr M_now)), .inr (some (.inr M_aside)), .inr (some (.inr M_kept)), .inr (some (.inr M_mintAt)), .inr (some (.inr M_mintOf)), .inr (some (.inr M_wholeOf)), .inr (some (.inr M_isWall)), .inr (some (.inr M_wasWall)), .inl M_stampMany, .inr (some (.inl 1)), .inl M_taped, .inl M_place0, .inl M_length0, .inl M_fault, .inl M_number0, .inl M_open, .inl M_codeMany, .inl M_waiting, .inl M_saidMany, .inl M_clauses, .inr (some (.inr M_said)), .inr (some (.inr M_waitsAt)), .inr (some (.inr M_saidLetter)), .inr (some (.inr M_saidFrom)), .inr (some (.inr M_saidHalf)), .inr (some (.inr M_saidTo)), .inr (some (.inr M_codes)), .inr (some (.inr M_clauseOf)), .inr (some (.inr M_codeFrom)), .inr (some (.inr M_codeHalf)), .inr (some (.inr M_codeTo)), .inr (some (.inr M_stack)), .inr (some (.inr M_facts)), .inr (some (.inr M_newStamps)), .inr (some (.inr M_roundFrom)), .inr (some (.inr M_roundAt)), .inr (some (.inr M_roundTimes)), .inl M_newMany, .inl M_rounds, .inl M_stampFrom, .inl M_stampTimes, .inl M_lines, .inl M_spot0, .inl M_pullAcross, .inl M_pullAlong, .inl M_stepsNow, .inl M_fallenNow, .inr (some (.inr M_usesNow)), .inr (some (.inr M_wasAt)), .inr (some (.inr M_someOf)), .inr (some (.inr M_fewestFor)), .inr (some (.inl 2)), .inl M_isKept]), .inl (1, 260, M_tape), .inl (0, 6, M_getsOf)] (fun r h' => ∃ (y tp : Int32) (gt : Nat → Int32), r = some (.inl y) ∧ ((tp = M_taped ∧ ¬ Y) ∨ tp = 0) ∧ h' = [.inr (11, [.inr (some (.inr M_now)), .inr (some (.inr M_aside)), .inr (some (.inr M_kept)), .inr (some (.inr M_mintAt)), .inr (some (.inr M_mintOf)), .inr (some (.inr M_wholeOf)), .inr (some (.inr M_isWall)), .inr (some (.inr M_wasWall)), .inl M_stampMany, .inr (some (.inl 1)), .inl tp, .inl M_place0, .inl M_length0, .inl M_fault, .inl M_number0, .inl M_open, .inl M_codeMany, .inl M_waiting, .inl M_saidMany, .inl M_clauses, .inr (some (.inr M_said)), .inr (some (.inr M_waitsAt)), .inr (some (.inr M_saidLetter)), .inr (some (.inr M_saidFrom)), .inr (some (.inr M_saidHalf)), .inr (some (.inr M_saidTo)), .inr (some (.inr M_codes)), .inr (some (.inr M_clauseOf)), .inr (some (.inr M_codeFrom)), .inr (some (.inr M_codeHalf)), .inr (some (.inr M_codeTo)), .inr (some (.inr M_stack)), .inr (some (.inr M_facts)), .inr (some (.inr M_newStamps)), .inr (some (.inr M_roundFrom)), .inr (some (.inr M_roundAt)), .inr (some (.inr M_roundTimes)), .inl M_newMany, .inl M_rounds, .inl M_stampFrom, .inl M_stampTimes, .inl M_lines, .inl M_spot0, .inl M_pullAcross, .inl M_pullAlong, .inl M_stepsNow, .inl M_fallenNow, .inr (some (.inr M_usesNow)), .inr (some (.inr M_wasAt)), .inr (some (.inr M_someOf)), .inr (some (.inr M_fewestFor)), .inr (some (.inl 2)), .inl M_isKept]), .inl (1, 260, M_tape), .inl (0, 6, gt)]) := by
  refine m_X12_exchange (fun μ L st h => ∃ (n w S : Nat) (gt : Nat → Int32), μ = S ∧ 1 ≤ n ∧ n ≤ 6 ∧ w < n ∧ S < 2 ^ n ∧ (∀ c, c < n → rowOk M_tape n c) ∧ L = [some (.inr (some (.inl 0))), some (.inl (nI n)), some (.inl (nI w)), some (.inl (nI S))] ∧ st = [] ∧ h = [.inr (11, [.inr (some (.inr M_now)), .inr (some (.inr M_aside)), .inr (some (.inr M_kept)), .inr (some (.inr M_mintAt)), .inr (some (.inr M_mintOf)), .inr (some (.inr M_wholeOf)), .inr (some (.inr M_isWall)), .inr (some (.inr M_wasWall)), .inl M_stampMany, .inr (some (.inl 1)), .inl 0, .inl M_place0, .inl M_length0, .inl M_fault, .inl M_number0, .inl M_open, .inl M_codeMany, .inl M_waiting, .inl M_saidMany, .inl M_clauses, .inr (some (.inr M_said)), .inr (some (.inr M_waitsAt)), .inr (some (.inr M_saidLetter)), .inr (some (.inr M_saidFrom)), .inr (some (.inr M_saidHalf)), .inr (some (.inr M_saidTo)), .inr (some (.inr M_codes)), .inr (some (.inr M_clauseOf)), .inr (some (.inr M_codeFrom)), .inr (some (.inr M_codeHalf)), .inr (some (.inr M_codeTo)), .inr (some (.inr M_stack)), .inr (some (.inr M_facts)), .inr (some (.inr M_newStamps)), .inr (some (.inr M_roundFrom)), .inr (some (.inr M_roundAt)), .inr (some (.inr M_roundTimes)), .inl M_newMany, .inl M_rounds, .inl M_stampFrom, .inl M_stampTimes, .inl M_lines, .inl M_spot0, .inl M_pullAcross, .inl M_pullAlong, .inl M_stepsNow, .inl M_fallenNow, .inr (some (.inr M_usesNow)), .inr (some (.inr M_wasAt)), .inr (some (.inr M_someOf)), .inr (some (.inr M_fewestFor)), .inr (some (.inl 2)), .inl M_isKept]), .inl (1, 260, M_tape), .inl (0, 6, gt)]) (Nat.le_of_ble_eq_true rfl) ?_ ?_
  · have no : ¬ Y → ∃ (y tp : Int32) (gt : Nat → Int32), some (Sum.inl (-1) : PV) = some (.inl y) ∧ ((tp = M_taped ∧ ¬ Y) ∨ tp = 0) ∧ ([.inr (11, [.inr (some (.inr M_now)), .inr (some (.inr M_aside)), .inr (some (.inr M_kept)), .inr (some (.inr M_mintAt)), .inr (some (.inr M_mintOf)), .inr (some (.inr M_wholeOf)), .inr (some (.inr M_isWall)), .inr (some (.inr M_wasWall)), .inl M_stampMany, .inr (some (.inl 1)), .inl M_taped, .inl M_place0, .inl M_length0, .inl M_fault, .inl M_number0, .inl M_open, .inl M_codeMany, .inl M_waiting, .inl M_saidMany, .inl M_clauses, .inr (some (.inr M_said)), .inr (some (.inr M_waitsAt)), .inr (some (.inr M_saidLetter)), .inr (some (.inr M_saidFrom)), .inr (some (.inr M_saidHalf)), .inr (some (.inr M_saidTo)), .inr (some (.inr M_codes)), .inr (some (.inr M_clauseOf)), .inr (some (.inr M_codeFrom)), .inr (some (.inr M_codeHalf)), .inr (some (.inr M_codeTo)), .inr (some (.inr M_stack)), .inr (some (.inr M_facts)), .inr (some (.inr M_newStamps)), .inr (some (.inr M_roundFrom)), .inr (some (.inr M_roundAt)), .inr (some (.inr M_roundTimes)), .inl M_newMany, .inl M_rounds, .inl M_stampFrom, .inl M_stampTimes, .inl M_lines, .inl M_spot0, .inl M_pullAcross, .inl M_pullAlong, .inl M_stepsNow, .inl M_fallenNow, .inr (some (.inr M_usesNow)), .inr (some (.inr M_wasAt)), .inr (some (.inr M_someOf)), .inr (some (.inr M_fewestFor)), .inr (some (.inl 2)), .inl M_isKept]), .inl (1, 260, M_tape), .inl (0, 6, M_getsOf)] : PH) = [.inr (11, [.inr (some (.inr M_now)), .inr (some (.inr M_aside)), .inr (some (.inr M_kept)), .inr (some (.inr M_mintAt)), .inr (some (.inr M_mintOf)), .inr (some (.inr M_wholeOf)), .inr (some (.inr M_isWall)), .inr (some (.inr M_wasWall)), .inl M_stampMany, .inr (some (.inl 1)), .inl tp, .inl M_place0, .inl M_length0, .inl M_fault, .inl M_number0, .inl M_open, .inl M_codeMany, .inl M_waiting, .inl M_saidMany, .inl M_clauses, .inr (some (.inr M_said)), .inr (some (.inr M_waitsAt)), .inr (some (.inr M_saidLetter)), .inr (some (.inr M_saidFrom)), .inr (some (.inr M_saidHalf)), .inr (some (.inr M_saidTo)), .inr (some (.inr M_codes)), .inr (some (.inr M_clauseOf)), .inr (some (.inr M_codeFrom)), .inr (some (.inr M_codeHalf)), .inr (some (.inr M_codeTo)), .inr (some (.inr M_stack)), .inr (some (.inr M_facts)), .inr (some (.inr M_newStamps)), .inr (some (.inr M_roundFrom)), .inr (some (.inr M_roundAt)), .inr (some (.inr M_roundTimes)), .inl M_newMany, .inl M_rounds, .inl M_stampFrom, .inl M_stampTimes, .inl M_lines, .inl M_spot0, .inl M_pullAcross, .inl M_pullAlong, .inl M_stepsNow, .inl M_fallenNow, .inr (some (.inr M_usesNow)), .inr (some (.inr M_wasAt)), .inr (some (.inr M_someOf)), .inr (some (.inr M_fewestFor)), .inr (some (.inl 2)), .inl M_isKept]), .inl (1, 260, M_tape), .inl (0, 6, gt)] := fun ny => ⟨-1, M_taped, M_getsOf, rfl, Or.inl ⟨rfl, ny⟩, rfl⟩
    refine call0 (c_in) rfl rfl ?_
    rintro r h' ⟨rfl, rfl⟩
    refine br_b (fun z => no (fun y => z (hY y).1)) (fun h1 => ?_)
    obtain ⟨n, n2, hn, rfl⟩ := in_n (a := 2) (b := 6) h1 rfl rfl (by omega) (by omega)
    refine call0 (c_in) rfl rfl ?_
    rintro r h' ⟨rfl, rfl⟩
    refine br_b (fun z => no (fun y => z (hY y).2.1)) (fun h2 => ?_)
    obtain ⟨w, _, hw, rfl⟩ := in_n (a := 0) (b := n - 1) h2 rfl (nI_sub (a := n) (b := 1) (by omega)) (by omega) (by omega)
    refine And.intro (fun _ => ?_) (fun z => no (fun y => z (hY y).2.2))
    refine call0 (c_X12_areRows hn) rfl rfl ?_
    rintro r h' ⟨bb, hb, hrow, rfl, rfl⟩
    rcases hb with rfl | rfl
    · exact And.intro (fun _ => ⟨-2, 0, M_getsOf, rfl, Or.inr rfl, rfl⟩) (fun z => absurd rfl z)
    · refine And.intro (fun z => absurd z (show ¬ (1 : Int32) = 0 by decide)) (fun _ => ?_)
      have hp : 0 < 2 ^ n := Nat.pow_pos (by omega)
      refine ⟨_, n, w, 2 ^ n - 1, M_getsOf, rfl, by omega, hn, by omega, by omega, hrow rfl, ?_, rfl, rfl⟩
      rw [← full_n hn]
      rfl
  · rintro μ L st h ⟨n, w, S, gt, hμ, g1, g2, g3, g4, g5, rfl, rfl, rfl⟩
    have hS6 : S < 64 := p64 g2 g4
    refine And.intro (fun _ => ?_) (fun q1 => ?_)
    · exact And.intro (vp_in_nI (by omega) (by omega)) ⟨_, 0, gt, rfl, Or.inr rfl, rfl⟩
    · have q1 : ¬ S = 0 := fun z => q1 (by rw [z]; exact nI_0)
      refine call0 (c_X12_changesRing g1 g2 g4 q1 g5) rfl rfl ?_
      rintro r h' ⟨S', gt', k1, rfl, rfl⟩
      exact ⟨S', by omega, n, w, S', gt', rfl, g1, g2, g3, by omega, g5, rfl, rfl, rfl⟩

