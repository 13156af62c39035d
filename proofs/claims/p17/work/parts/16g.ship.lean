/-! ===== sums of some bytes; ships ===== -/
theorem bt_n {S e : Nat} (he : e < 32) : bt (nI S) e = S.testBit e := by
  show (BitVec.ofNat 32 S).getLsbD e = S.testBit e
  rw [BitVec.getLsbD_ofNat, decide_eq_true he, Bool.true_and]
theorem bt_1 : ∀ i, i < 32 → bt 1 i = decide (i = 0) := by decide +kernel
theorem bit_n {S e : Nat} (he : e < 31) : f_and (f_shr (nI S) (nI e)) 1 = nI (if S.testBit e = true then 1 else 0) := by
  apply b_ext
  intro i hi
  show bt (nI S >>> (nI e &&& 31) &&& 1) i = bt (nI (if S.testBit e = true then 1 else 0)) i
  rw [b_and, b_sshr e (by omega) _ hi, bt_1 i hi, bt_n hi]
  by_cases q : i = 0
  · subst q
    rw [if_pos (by omega), Nat.add_zero, bt_n (by omega), decide_eq_true rfl, Bool.and_true]
    cases S.testBit e
    · rfl
    · rfl
  · rw [decide_eq_false q, Bool.and_false]
    cases S.testBit e
    · show false = (0 : Nat).testBit i
      rw [Nat.zero_testBit]
    · show false = (1 : Nat).testBit i
      have k : ∀ i, i < 32 → ¬ i = 0 → (1 : Nat).testBit i = false := by decide +kernel
      exact (k i hi q).symm
theorem hasB_n {S e : Nat} (he : e < 31) : hasB (nI S) (nI e) ↔ S.testBit e = true := by
  unfold hasB
  rw [bit_n he]
  cases S.testBit e
  · exact ⟨fun z => absurd z (by decide), fun z => absurd z (by decide)⟩
  · exact ⟨fun _ => rfl, fun _ => rfl⟩
theorem pw_n : ∀ n, n < 13 → f_shl 1 (nI n) = nI (2 ^ n) := by decide +kernel
theorem pw_le : ∀ n, n < 13 → 2 ^ n ≤ 4096 ∧ 1 ≤ 2 ^ n := by decide
def wS (o : Nat → Nat) (S : Nat) : Nat → Nat
  | 0 => 0
  | k + 1 => wS o S k + (if S.testBit k = true then o k else 0)
theorem wS_le {o : Nat → Nat} {S : Nat} : ∀ {k : Nat}, (∀ i, i < k → o i ≤ 255) → wS o S k ≤ 255 * k
  | 0, _ => Nat.le_refl _
  | k + 1, h => by
    have a := wS_le (o := o) (S := S) (k := k) (fun i hi => h i (by omega))
    have b := h k (by omega)
    unfold wS
    split <;> omega
theorem wS_mono {o : Nat → Nat} {S T : Nat} : ∀ {k : Nat}, (∀ i, i < k → S.testBit i = true → T.testBit i = true) → wS o S k ≤ wS o T k
  | 0, _ => Nat.le_refl _
  | k + 1, h => by
    have a := wS_mono (o := o) (S := S) (T := T) (k := k) (fun i hi => h i (by omega))
    have b := h k (by omega)
    unfold wS
    by_cases q : S.testBit k = true
    · rw [if_pos q, if_pos (b q)]; omega
    · rw [if_neg q]; omega
set_option maxRecDepth 100000 in
theorem c_X8_weightOf {l : Launch} {Rid_bits Rid_grains : Int32} {Rid_fewest Rid_got Tape_bytes : Nat → Int32}  {o : Nat → Nat} {S n s : Nat} (hn : n ≤ 12) (hs : s ≤ 260) (hns : n ≤ s) (hb : ∀ i, i < n → o i ≤ 255 ∧ Tape_bytes i = nI (o i)) : MetP l 2 yX8_weightOf cX8_weightOf 5 (some .int) 0 0 [.inr (some (.inl 0)), .inl (nI S), .inl (nI n)] [.inr (7, [.inr (some (.inl 3)), .inr (some (.inl 1)), .inr (some (.inl 2)), .inl Rid_bits, .inl Rid_grains]), .inl (0, 601, Rid_fewest), .inl (0, 6, Rid_got), .inr (9, [.inr (some (.inl 4)), .inl ((nI s))]), .inl (0, 260, Tape_bytes)] (fun r h' => r = some (.inl (nI (wS o S n))) ∧ h' = [.inr (7, [.inr (some (.inl 3)), .inr (some (.inl 1)), .inr (some (.inl 2)), .inl Rid_bits, .inl Rid_grains]), .inl (0, 601, Rid_fewest), .inl (0, 6, Rid_got), .inr (9, [.inr (some (.inl 4)), .inl ((nI s))]), .inl (0, 260, Tape_bytes)]) := by
  refine m_X8_weightOf (fun μ L st h => ∃ i : Nat, μ = n - i ∧ i ≤ n ∧ L = [some (.inr (some (.inl 0))), some (.inl (nI S)), some (.inl (nI n)), some (.inl (nI (wS o S i))), some (.inl (nI i))] ∧ st = [] ∧ h = [.inr (7, [.inr (some (.inl 3)), .inr (some (.inl 1)), .inr (some (.inl 2)), .inl Rid_bits, .inl Rid_grains]), .inl (0, 601, Rid_fewest), .inl (0, 6, Rid_got), .inr (9, [.inr (some (.inl 4)), .inl ((nI s))]), .inl (0, 260, Tape_bytes)]) (Nat.le_of_ble_eq_true rfl) ?_ ?_
  · exact ⟨_, 0, rfl, by omega, rfl, rfl, rfl⟩
  · rintro μ L st h ⟨i, hμ, h1, rfl, rfl, rfl⟩
    refine And.intro (fun q1 => ?_) (fun q1 => ?_)
    · have q1 := (nI_leI (by omega) (by omega)).mp q1
      obtain rfl : i = n := by omega
      exact ⟨rfl, rfl⟩
    · have q1 : i < n := Nat.lt_of_not_le fun z => q1 ((nI_leI (by omega) (by omega)).mpr z)
      obtain ⟨o1, o2⟩ := hb i q1
      refine call0 (c_X10_at (s := s) (k := i) hs (by omega)) rfl rfl ?_
      rintro r h' ⟨rfl, rfl⟩
      have em : f_add (nI (wS o S i)) (f_mul (f_and (f_shr (nI S) (nI i)) 1) (Tape_bytes i)) = nI (wS o S (i + 1)) := by
        rw [bit_n (by omega), o2]
        show nI _ + nI _ * nI _ = _
        rw [nI_mul, nI_add]
        show nI (wS o S i + (if S.testBit i = true then 1 else 0) * o i) = nI (wS o S i + (if S.testBit i = true then o i else 0))
        cases S.testBit i
        · rw [if_neg (by decide), if_neg (by decide), Nat.zero_mul]
        · rw [if_pos rfl, if_pos rfl, Nat.one_mul]
      exact ⟨n - (i + 1), by omega, i + 1, rfl, by omega, by rw [← em, ← nI_1 i] <;> rfl, rfl, rfl⟩
set_option maxRecDepth 100000 in
theorem c_X12_sumOf {l : Launch} {M_now M_aside M_kept M_mintAt M_mintOf M_wholeOf M_isWall M_wasWall M_said M_waitsAt M_saidLetter M_saidFrom M_saidHalf M_saidTo M_codes M_clauseOf M_codeFrom M_codeHalf M_codeTo M_stack M_facts M_newStamps M_roundFrom M_roundAt M_roundTimes M_usesNow M_wasAt M_someOf M_fewestFor M_getsOf : List (Option Nat)} {M_stampMany M_taped M_place0 M_length0 M_fault M_number0 M_open M_codeMany M_waiting M_saidMany M_clauses M_newMany M_rounds M_stampFrom M_stampTimes M_lines M_spot0 M_pullAcross M_pullAlong M_stepsNow M_fallenNow M_isKept : Int32} {M_tape : Nat → Int32}  {o : Nat → Nat} {S n : Nat} (hn : n ≤ 12) (hb : ∀ i, i < n → o i ≤ 255 ∧ f_and (M_tape i) 255 = nI (o i)) : MetP l 1 yX12_sumOf cX12_sumOf 5 (some .int) 0 0 [.inr (some (.inl 0)), .inl (nI S), .inl (nI n)] [.inr (11, [.inr (some (.inr M_now)), .inr (some (.inr M_aside)), .inr (some (.inr M_kept)), .inr (some (.inr M_mintAt)), .inr (some (.inr M_mintOf)), .inr (some (.inr M_wholeOf)), .inr (some (.inr M_isWall)), .inr (some (.inr M_wasWall)), .inl M_stampMany, .inr (some (.inl 1)), .inl M_taped, .inl M_place0, .inl M_length0, .inl M_fault, .inl M_number0, .inl M_open, .inl M_codeMany, .inl M_waiting, .inl M_saidMany, .inl M_clauses, .inr (some (.inr M_said)), .inr (some (.inr M_waitsAt)), .inr (some (.inr M_saidLetter)), .inr (some (.inr M_saidFrom)), .inr (some (.inr M_saidHalf)), .inr (some (.inr M_saidTo)), .inr (some (.inr M_codes)), .inr (some (.inr M_clauseOf)), .inr (some (.inr M_codeFrom)), .inr (some (.inr M_codeHalf)), .inr (some (.inr M_codeTo)), .inr (some (.inr M_stack)), .inr (some (.inr M_facts)), .inr (some (.inr M_newStamps)), .inr (some (.inr M_roundFrom)), .inr (some (.inr M_roundAt)), .inr (some (.inr M_roundTimes)), .inl M_newMany, .inl M_rounds, .inl M_stampFrom, .inl M_stampTimes, .inl M_lines, .inl M_spot0, .inl M_pullAcross, .inl M_pullAlong, .inl M_stepsNow, .inl M_fallenNow, .inr (some (.inr M_usesNow)), .inr (some (.inr M_wasAt)), .inr (some (.inr M_someOf)), .inr (some (.inr M_fewestFor)), .inr (some (.inr M_getsOf)), .inl M_isKept]), .inl (1, 260, M_tape)] (fun r h' => r = some (.inl (nI (wS o S n))) ∧ h' = [.inr (11, [.inr (some (.inr M_now)), .inr (some (.inr M_aside)), .inr (some (.inr M_kept)), .inr (some (.inr M_mintAt)), .inr (some (.inr M_mintOf)), .inr (some (.inr M_wholeOf)), .inr (some (.inr M_isWall)), .inr (some (.inr M_wasWall)), .inl M_stampMany, .inr (some (.inl 1)), .inl M_taped, .inl M_place0, .inl M_length0, .inl M_fault, .inl M_number0, .inl M_open, .inl M_codeMany, .inl M_waiting, .inl M_saidMany, .inl M_clauses, .inr (some (.inr M_said)), .inr (some (.inr M_waitsAt)), .inr (some (.inr M_saidLetter)), .inr (some (.inr M_saidFrom)), .inr (some (.inr M_saidHalf)), .inr (some (.inr M_saidTo)), .inr (some (.inr M_codes)), .inr (some (.inr M_clauseOf)), .inr (some (.inr M_codeFrom)), .inr (some (.inr M_codeHalf)), .inr (some (.inr M_codeTo)), .inr (some (.inr M_stack)), .inr (some (.inr M_facts)), .inr (some (.inr M_newStamps)), .inr (some (.inr M_roundFrom)), .inr (some (.inr M_roundAt)), .inr (some (.inr M_roundTimes)), .inl M_newMany, .inl M_rounds, .inl M_stampFrom, .inl M_stampTimes, .inl M_lines, .inl M_spot0, .inl M_pullAcross, .inl M_pullAlong, .inl M_stepsNow, .inl M_fallenNow, .inr (some (.inr M_usesNow)), .inr (some (.inr M_wasAt)), .inr (some (.inr M_someOf)), .inr (some (.inr M_fewestFor)), .inr (some (.inr M_getsOf)), .inl M_isKept]), .inl (1, 260, M_tape)]) := by
  refine m_X12_sumOf (fun μ L st h => ∃ i : Nat, μ = n - i ∧ i ≤ n ∧ L = [some (.inr (some (.inl 0))), some (.inl (nI S)), some (.inl (nI n)), some (.inl (nI (wS o S i))), some (.inl (nI i))] ∧ st = [] ∧ h = [.inr (11, [.inr (some (.inr M_now)), .inr (some (.inr M_aside)), .inr (some (.inr M_kept)), .inr (some (.inr M_mintAt)), .inr (some (.inr M_mintOf)), .inr (some (.inr M_wholeOf)), .inr (some (.inr M_isWall)), .inr (some (.inr M_wasWall)), .inl M_stampMany, .inr (some (.inl 1)), .inl M_taped, .inl M_place0, .inl M_length0, .inl M_fault, .inl M_number0, .inl M_open, .inl M_codeMany, .inl M_waiting, .inl M_saidMany, .inl M_clauses, .inr (some (.inr M_said)), .inr (some (.inr M_waitsAt)), .inr (some (.inr M_saidLetter)), .inr (some (.inr M_saidFrom)), .inr (some (.inr M_saidHalf)), .inr (some (.inr M_saidTo)), .inr (some (.inr M_codes)), .inr (some (.inr M_clauseOf)), .inr (some (.inr M_codeFrom)), .inr (some (.inr M_codeHalf)), .inr (some (.inr M_codeTo)), .inr (some (.inr M_stack)), .inr (some (.inr M_facts)), .inr (some (.inr M_newStamps)), .inr (some (.inr M_roundFrom)), .inr (some (.inr M_roundAt)), .inr (some (.inr M_roundTimes)), .inl M_newMany, .inl M_rounds, .inl M_stampFrom, .inl M_stampTimes, .inl M_lines, .inl M_spot0, .inl M_pullAcross, .inl M_pullAlong, .inl M_stepsNow, .inl M_fallenNow, .inr (some (.inr M_usesNow)), .inr (some (.inr M_wasAt)), .inr (some (.inr M_someOf)), .inr (some (.inr M_fewestFor)), .inr (some (.inr M_getsOf)), .inl M_isKept]), .inl (1, 260, M_tape)]) (Nat.le_of_ble_eq_true rfl) ?_ ?_
  · exact ⟨_, 0, rfl, by omega, rfl, rfl, rfl⟩
  · rintro μ L st h ⟨i, hμ, h1, rfl, rfl, rfl⟩
    refine And.intro (fun q1 => ?_) (fun q1 => ?_)
    · have q1 := (nI_leI (by omega) (by omega)).mp q1
      obtain rfl : i = n := by omega
      exact ⟨rfl, rfl⟩
    · have q1 : i < n := Nat.lt_of_not_le fun z => q1 ((nI_leI (by omega) (by omega)).mpr z)
      obtain ⟨o1, o2⟩ := hb i q1
      refine call0 (c_X12_hasE) rfl rfl ?_
      rintro r h' ⟨rfl, rfl⟩
      refine br_b (fun w => ?_) (fun w => ?_)
      · have em : wS o S (i + 1) = wS o S i := by
          show wS o S i + (if S.testBit i = true then o i else 0) = _
          rw [if_neg (fun z => w ((hasB_n (by omega)).mpr z))]
          rfl
        exact ⟨n - (i + 1), by omega, i + 1, rfl, by omega, by rw [em, ← nI_1 i] <;> rfl, rfl, rfl⟩
      · refine call0 (c_X12_octet (k := i) (by omega)) rfl rfl ?_
        rintro r h' ⟨rfl, rfl⟩
        have em : f_add (nI (wS o S i)) (f_and (M_tape i) 255) = nI (wS o S (i + 1)) := by
          rw [o2]
          show nI _ + nI _ = nI (wS o S i + (if S.testBit i = true then o i else 0))
          rw [nI_add, if_pos ((hasB_n (by omega)).mp w)]
        exact ⟨n - (i + 1), by omega, i + 1, rfl, by omega, by rw [← em, ← nI_1 i] <;> rfl, rfl, rfl⟩
/-- how far two numbers lie apart -/
def abN (x y : Nat) : Nat := if x ≤ y then y - x else x - y
theorem sub_i {a b : Nat} (ha : a < 100000) (hb : b < 100000) : (f_sub (nI a) (nI b)).toInt = (a : Int) - b := by
  unfold f_sub
  rw [Int32.toInt_sub, nI_toInt (by omega), nI_toInt (by omega)]
  exact bm (by omega) (by omega)
theorem abs_n {a b : Nat} (ha : a < 100000) (hb : b < 100000) : f_abs (f_sub (nI a) (nI b)) = nI (abN a b) := by
  have e := sub_i ha hb
  unfold f_abs abN
  have z0 : (0 : Int32).toInt = 0 := rfl
  by_cases q : a ≤ b
  · rw [if_pos q]
    by_cases r : a = b
    · subst r
      rw [if_pos (Int32.le_iff_toInt_le.mpr (by omega))]
      exact i32eq.mpr (by rw [nI_toInt (by omega)]; omega)
    · rw [if_neg (fun z => by have := Int32.le_iff_toInt_le.mp z; omega)]
      apply Int32.toInt_inj.mp
      rw [Int32.toInt_sub, e, z0, bm (by omega) (by omega), nI_toInt (by omega)]
      omega
  · rw [if_neg q, if_pos (Int32.le_iff_toInt_le.mpr (by omega))]
    exact i32eq.mpr (by rw [nI_toInt (by omega)]; omega)
set_option maxRecDepth 100000 in
theorem c_X12_sizeE {l : Launch} {a b : Nat} (ha : a < 100000) (hb : b < 100000) : MetP l 0 yX12_size cX12_size 1 (some .int) 0 0 [.inl (f_sub (nI a) (nI b))] [] (fun r h' => r = some (.inl (nI (abN a b))) ∧ h' = []) := by
  have e := sub_i ha hb
  have z0 : (0 : Int32).toInt = 0 := rfl
  refine m_X12_size (Nat.le_of_ble_eq_true rfl) ?_
  refine And.intro (fun (w : (0 : Int32) ≤ f_sub (nI a) (nI b)) => ?_) (fun (w : ¬ (0 : Int32) ≤ f_sub (nI a) (nI b)) => ?_)
  · have w := Int32.le_iff_toInt_le.mp w
    have em : f_sub (nI a) (nI b) = nI (abN a b) := i32eq.mpr (by
      rw [nI_toInt (by unfold abN; split <;> omega)]
      unfold abN
      split <;> omega)
    rw [em]
    exact ⟨rfl, rfl⟩
  · have w : (f_sub (nI a) (nI b)).toInt < 0 := by
      by_cases z : (f_sub (nI a) (nI b)).toInt < 0
      · exact z
      · exact absurd (Int32.le_iff_toInt_le.mpr (by omega)) w
    have em : f_neg (f_sub (nI a) (nI b)) = nI (abN a b) := i32eq.mpr (by
      unfold f_neg
      rw [Int32.toInt_neg, nI_toInt (by unfold abN; split <;> omega), e, bm (by omega) (by omega)]
      unfold abN
      split <;> omega)
    exact ⟨congrArg (fun x : Int32 => some (Sum.inl x : PV)) em, rfl⟩
theorem g_X12_sizeE {l : Launch} {K : Int32} {a b : Nat} (eK : K = f_sub (nI a) (nI b)) (ha : a < 100000) (hb : b < 100000) : MetP l 0 yX12_size cX12_size 1 (some .int) 0 0 [.inl K] [] (fun r h' => r = some (.inl (nI (abN a b))) ∧ h' = []) := by
  subst eK
  exact c_X12_sizeE ha hb
theorem g_X8_weightOf {l : Launch} {Rid_bits Rid_grains : Int32} {Rid_fewest Rid_got Tape_bytes : Nat → Int32}  {K : Int32} {o : Nat → Nat} {S n s : Nat} (eK : K = nI S) (hn : n ≤ 12) (hs : s ≤ 260) (hns : n ≤ s) (hb : ∀ i, i < n → o i ≤ 255 ∧ Tape_bytes i = nI (o i)) : MetP l 2 yX8_weightOf cX8_weightOf 5 (some .int) 0 0 [.inr (some (.inl 0)), .inl K, .inl (nI n)] [.inr (7, [.inr (some (.inl 3)), .inr (some (.inl 1)), .inr (some (.inl 2)), .inl Rid_bits, .inl Rid_grains]), .inl (0, 601, Rid_fewest), .inl (0, 6, Rid_got), .inr (9, [.inr (some (.inl 4)), .inl ((nI s))]), .inl (0, 260, Tape_bytes)] (fun r h' => r = some (.inl (nI (wS o S n))) ∧ h' = [.inr (7, [.inr (some (.inl 3)), .inr (some (.inl 1)), .inr (some (.inl 2)), .inl Rid_bits, .inl Rid_grains]), .inl (0, 601, Rid_fewest), .inl (0, 6, Rid_got), .inr (9, [.inr (some (.inl 4)), .inl ((nI s))]), .inl (0, 260, Tape_bytes)]) := by
  subst eK
  exact c_X8_weightOf hn hs hns hb
theorem g_X12_sumOf {l : Launch} {M_now M_aside M_kept M_mintAt M_mintOf M_wholeOf M_isWall M_wasWall M_said M_waitsAt M_saidLetter M_saidFrom M_saidHalf M_saidTo M_codes M_clauseOf M_codeFrom M_codeHalf M_codeTo M_stack M_facts M_newStamps M_roundFrom M_roundAt M_roundTimes M_usesNow M_wasAt M_someOf M_fewestFor M_getsOf : List (Option Nat)} {M_stampMany M_taped M_place0 M_length0 M_fault M_number0 M_open M_codeMany M_waiting M_saidMany M_clauses M_newMany M_rounds M_stampFrom M_stampTimes M_lines M_spot0 M_pullAcross M_pullAlong M_stepsNow M_fallenNow M_isKept : Int32} {M_tape : Nat → Int32}  {K : Int32} {o : Nat → Nat} {S n : Nat} (eK : K = nI S) (hn : n ≤ 12) (hb : ∀ i, i < n → o i ≤ 255 ∧ f_and (M_tape i) 255 = nI (o i)) : MetP l 1 yX12_sumOf cX12_sumOf 5 (some .int) 0 0 [.inr (some (.inl 0)), .inl K, .inl (nI n)] [.inr (11, [.inr (some (.inr M_now)), .inr (some (.inr M_aside)), .inr (some (.inr M_kept)), .inr (some (.inr M_mintAt)), .inr (some (.inr M_mintOf)), .inr (some (.inr M_wholeOf)), .inr (some (.inr M_isWall)), .inr (some (.inr M_wasWall)), .inl M_stampMany, .inr (some (.inl 1)), .inl M_taped, .inl M_place0, .inl M_length0, .inl M_fault, .inl M_number0, .inl M_open, .inl M_codeMany, .inl M_waiting, .inl M_saidMany, .inl M_clauses, .inr (some (.inr M_said)), .inr (some (.inr M_waitsAt)), .inr (some (.inr M_saidLetter)), .inr (some (.inr M_saidFrom)), .inr (some (.inr M_saidHalf)), .inr (some (.inr M_saidTo)), .inr (some (.inr M_codes)), .inr (some (.inr M_clauseOf)), .inr (some (.inr M_codeFrom)), .inr (some (.inr M_codeHalf)), .inr (some (.inr M_codeTo)), .inr (some (.inr M_stack)), .inr (some (.inr M_facts)), .inr (some (.inr M_newStamps)), .inr (some (.inr M_roundFrom)), .inr (some (.inr M_roundAt)), .inr (some (.inr M_roundTimes)), .inl M_newMany, .inl M_rounds, .inl M_stampFrom, .inl M_stampTimes, .inl M_lines, .inl M_spot0, .inl M_pullAcross, .inl M_pullAlong, .inl M_stepsNow, .inl M_fallenNow, .inr (some (.inr M_usesNow)), .inr (some (.inr M_wasAt)), .inr (some (.inr M_someOf)), .inr (some (.inr M_fewestFor)), .inr (some (.inr M_getsOf)), .inl M_isKept]), .inl (1, 260, M_tape)] (fun r h' => r = some (.inl (nI (wS o S n))) ∧ h' = [.inr (11, [.inr (some (.inr M_now)), .inr (some (.inr M_aside)), .inr (some (.inr M_kept)), .inr (some (.inr M_mintAt)), .inr (some (.inr M_mintOf)), .inr (some (.inr M_wholeOf)), .inr (some (.inr M_isWall)), .inr (some (.inr M_wasWall)), .inl M_stampMany, .inr (some (.inl 1)), .inl M_taped, .inl M_place0, .inl M_length0, .inl M_fault, .inl M_number0, .inl M_open, .inl M_codeMany, .inl M_waiting, .inl M_saidMany, .inl M_clauses, .inr (some (.inr M_said)), .inr (some (.inr M_waitsAt)), .inr (some (.inr M_saidLetter)), .inr (some (.inr M_saidFrom)), .inr (some (.inr M_saidHalf)), .inr (some (.inr M_saidTo)), .inr (some (.inr M_codes)), .inr (some (.inr M_clauseOf)), .inr (some (.inr M_codeFrom)), .inr (some (.inr M_codeHalf)), .inr (some (.inr M_codeTo)), .inr (some (.inr M_stack)), .inr (some (.inr M_facts)), .inr (some (.inr M_newStamps)), .inr (some (.inr M_roundFrom)), .inr (some (.inr M_roundAt)), .inr (some (.inr M_roundTimes)), .inl M_newMany, .inl M_rounds, .inl M_stampFrom, .inl M_stampTimes, .inl M_lines, .inl M_spot0, .inl M_pullAcross, .inl M_pullAlong, .inl M_stepsNow, .inl M_fallenNow, .inr (some (.inr M_usesNow)), .inr (some (.inr M_wasAt)), .inr (some (.inr M_someOf)), .inr (some (.inr M_fewestFor)), .inr (some (.inr M_getsOf)), .inl M_isKept]), .inl (1, 260, M_tape)]) := by
  subst eK
  exact c_X12_sumOf hn hb
def lS (o : Nat → Nat) (n S : Nat) : Nat := abN (2 * wS o S n) (wS o (2 ^ n - 1) n)
/-- the best of the first j + 1 odd sets -/
def shF (f : Nat → Nat) : Nat → Nat × Nat
  | 0 => (f 1, 1)
  | j + 1 => if f (2 * j + 3) < (shF f j).1 then (f (2 * j + 3), 2 * j + 3) else shF f j
theorem shF_2 {f : Nat → Nat} : ∀ j, (shF f j).2 ≤ 2 * j + 1
  | 0 => Nat.le_refl _
  | j + 1 => by
    have h := shF_2 (f := f) j
    unfold shF
    split
    · show 2 * j + 3 ≤ _; omega
    · omega
theorem shF_1 {f : Nat → Nat} {B : Nat} (h : ∀ S, f S ≤ B) : ∀ j, (shF f j).1 ≤ B
  | 0 => h 1
  | j + 1 => by
    have q := shF_1 h j
    unfold shF
    split
    · exact h _
    · exact q
theorem lS_le {o : Nat → Nat} {n S : Nat} (hn : n ≤ 12) (ho : ∀ i, i < n → o i ≤ 255) : lS o n S ≤ 6120 := by
  have a := wS_le (o := o) (S := S) ho
  have b := wS_le (o := o) (S := 2 ^ n - 1) ho
  unfold lS abN
  split <;> omega
def shV (o : Nat → Nat) (n w : Nat) : Int32 := if w = 0 then nI (shF (lS o n) (2 ^ (n - 1) - 1)).1 else nI (shF (lS o n) (2 ^ (n - 1) - 1)).2
theorem pw_h : ∀ n, n < 13 → 1 ≤ n → 2 ^ n = 2 * 2 ^ (n - 1) ∧ 1 ≤ 2 ^ (n - 1) ∧ 2 ^ (n - 1) ≤ 2048 := by decide
set_option maxRecDepth 100000 in
theorem c_X12_ship {l : Launch} {M_now M_aside M_kept M_mintAt M_mintOf M_wholeOf M_isWall M_wasWall M_said M_waitsAt M_saidLetter M_saidFrom M_saidHalf M_saidTo M_codes M_clauseOf M_codeFrom M_codeHalf M_codeTo M_stack M_facts M_newStamps M_roundFrom M_roundAt M_roundTimes M_usesNow M_wasAt M_someOf M_fewestFor M_getsOf : List (Option Nat)} {M_stampMany M_place0 M_length0 M_fault M_number0 M_open M_codeMany M_waiting M_saidMany M_clauses M_newMany M_rounds M_stampFrom M_stampTimes M_lines M_spot0 M_pullAcross M_pullAlong M_stepsNow M_fallenNow M_isKept : Int32} {M_tape : Nat → Int32}  {o : Nat → Nat} {n s w : Nat} (hn1 : 1 ≤ n) (hn : n ≤ 10) (hw : w ≤ 1) (hs : s ≤ 260) (hns : n ≤ s) (hb : ∀ i, i < n → o i ≤ 255 ∧ f_and (M_tape i) 255 = nI (o i)) : MetP l 2 yX12_ship cX12_ship 8 (some .int) 0 0 [.inr (some (.inl 0)), .inl (nI n), .inl (nI w)] [.inr (11, [.inr (some (.inr M_now)), .inr (some (.inr M_aside)), .inr (some (.inr M_kept)), .inr (some (.inr M_mintAt)), .inr (some (.inr M_mintOf)), .inr (some (.inr M_wholeOf)), .inr (some (.inr M_isWall)), .inr (some (.inr M_wasWall)), .inl M_stampMany, .inr (some (.inl 1)), .inl ((nI s)), .inl M_place0, .inl M_length0, .inl M_fault, .inl M_number0, .inl M_open, .inl M_codeMany, .inl M_waiting, .inl M_saidMany, .inl M_clauses, .inr (some (.inr M_said)), .inr (some (.inr M_waitsAt)), .inr (some (.inr M_saidLetter)), .inr (some (.inr M_saidFrom)), .inr (some (.inr M_saidHalf)), .inr (some (.inr M_saidTo)), .inr (some (.inr M_codes)), .inr (some (.inr M_clauseOf)), .inr (some (.inr M_codeFrom)), .inr (some (.inr M_codeHalf)), .inr (some (.inr M_codeTo)), .inr (some (.inr M_stack)), .inr (some (.inr M_facts)), .inr (some (.inr M_newStamps)), .inr (some (.inr M_roundFrom)), .inr (some (.inr M_roundAt)), .inr (some (.inr M_roundTimes)), .inl M_newMany, .inl M_rounds, .inl M_stampFrom, .inl M_stampTimes, .inl M_lines, .inl M_spot0, .inl M_pullAcross, .inl M_pullAlong, .inl M_stepsNow, .inl M_fallenNow, .inr (some (.inr M_usesNow)), .inr (some (.inr M_wasAt)), .inr (some (.inr M_someOf)), .inr (some (.inr M_fewestFor)), .inr (some (.inr M_getsOf)), .inl M_isKept]), .inl (1, 260, M_tape)] (fun r h' => r = some (.inl (shV o n w)) ∧ h' = [.inr (11, [.inr (some (.inr M_now)), .inr (some (.inr M_aside)), .inr (some (.inr M_kept)), .inr (some (.inr M_mintAt)), .inr (some (.inr M_mintOf)), .inr (some (.inr M_wholeOf)), .inr (some (.inr M_isWall)), .inr (some (.inr M_wasWall)), .inl M_stampMany, .inr (some (.inl 1)), .inl 0, .inl M_place0, .inl M_length0, .inl M_fault, .inl M_number0, .inl M_open, .inl M_codeMany, .inl M_waiting, .inl M_saidMany, .inl M_clauses, .inr (some (.inr M_said)), .inr (some (.inr M_waitsAt)), .inr (some (.inr M_saidLetter)), .inr (some (.inr M_saidFrom)), .inr (some (.inr M_saidHalf)), .inr (some (.inr M_saidTo)), .inr (some (.inr M_codes)), .inr (some (.inr M_clauseOf)), .inr (some (.inr M_codeFrom)), .inr (some (.inr M_codeHalf)), .inr (some (.inr M_codeTo)), .inr (some (.inr M_stack)), .inr (some (.inr M_facts)), .inr (some (.inr M_newStamps)), .inr (some (.inr M_roundFrom)), .inr (some (.inr M_roundAt)), .inr (some (.inr M_roundTimes)), .inl M_newMany, .inl M_rounds, .inl M_stampFrom, .inl M_stampTimes, .inl M_lines, .inl M_spot0, .inl M_pullAcross, .inl M_pullAlong, .inl M_stepsNow, .inl M_fallenNow, .inr (some (.inr M_usesNow)), .inr (some (.inr M_wasAt)), .inr (some (.inr M_someOf)), .inr (some (.inr M_fewestFor)), .inr (some (.inr M_getsOf)), .inl M_isKept]), .inl (1, 260, M_tape)]) := by
  obtain ⟨N, eN⟩ : ∃ N, N = 2 ^ (n - 1) := ⟨_, rfl⟩
  have pw := pw_h n (by omega) hn1
  have ho : ∀ i, i < n → o i ≤ 255 := fun i hi => (hb i hi).1
  have lle : ∀ S, lS o n S ≤ 6120 := fun S => lS_le (by omega) ho
  refine m_X12_ship (fun μ L st h => ∃ (j a b : Nat) (z : Option PV), μ = N - j ∧ j ≤ N ∧ ((j = 0 ∧ a = 1000000 ∧ b = 0) ∨ ∃ i, j = i + 1 ∧ a = (shF (lS o n) i).1 ∧ b = (shF (lS o n) i).2) ∧ L = [some (.inr (some (.inl 0))), some (.inl (nI n)), some (.inl (nI w)), some (.inl (nI (wS o (2 ^ n - 1) n))), some (.inl (nI a)), some (.inl (nI b)), some (.inl (nI (2 * j + 1))), z] ∧ st = [] ∧ h = [.inr (11, [.inr (some (.inr M_now)), .inr (some (.inr M_aside)), .inr (some (.inr M_kept)), .inr (some (.inr M_mintAt)), .inr (some (.inr M_mintOf)), .inr (some (.inr M_wholeOf)), .inr (some (.inr M_isWall)), .inr (some (.inr M_wasWall)), .inl M_stampMany, .inr (some (.inl 1)), .inl 0, .inl M_place0, .inl M_length0, .inl M_fault, .inl M_number0, .inl M_open, .inl M_codeMany, .inl M_waiting, .inl M_saidMany, .inl M_clauses, .inr (some (.inr M_said)), .inr (some (.inr M_waitsAt)), .inr (some (.inr M_saidLetter)), .inr (some (.inr M_saidFrom)), .inr (some (.inr M_saidHalf)), .inr (some (.inr M_saidTo)), .inr (some (.inr M_codes)), .inr (some (.inr M_clauseOf)), .inr (some (.inr M_codeFrom)), .inr (some (.inr M_codeHalf)), .inr (some (.inr M_codeTo)), .inr (some (.inr M_stack)), .inr (some (.inr M_facts)), .inr (some (.inr M_newStamps)), .inr (some (.inr M_roundFrom)), .inr (some (.inr M_roundAt)), .inr (some (.inr M_roundTimes)), .inl M_newMany, .inl M_rounds, .inl M_stampFrom, .inl M_stampTimes, .inl M_lines, .inl M_spot0, .inl M_pullAcross, .inl M_pullAlong, .inl M_stepsNow, .inl M_fallenNow, .inr (some (.inr M_usesNow)), .inr (some (.inr M_wasAt)), .inr (some (.inr M_someOf)), .inr (some (.inr M_fewestFor)), .inr (some (.inr M_getsOf)), .inl M_isKept]), .inl (1, 260, M_tape)]) (Nat.le_of_ble_eq_true rfl) ?_ ?_
  · refine call0 (c_in) rfl rfl ?_
    rintro r h' ⟨rfl, rfl⟩
    refine br_b (fun z => absurd ((nI_bt (a := 1) (b := 10) (by omega) (by omega) (by omega)).mpr ⟨hn1, hn⟩) z) (fun _ => ?_)
    refine call0 (c_in) rfl rfl ?_
    rintro r h' ⟨rfl, rfl⟩
    refine br_b (fun z => absurd ((nI_bt (a := 0) (b := 1) (by omega) (by omega) (by omega)).mpr ⟨by omega, hw⟩) z) (fun _ => ?_)
    refine And.intro (fun _ => ?_) (fun z => absurd ((nI_leI (by omega) (by omega)).mpr hns) z)
    have e1 : f_sub (f_shl 1 (nI n)) 1 = nI (2 ^ n - 1) := by
      rw [pw_n n (by omega)]
      exact fsub_n (b := 1) (by omega)
    refine call0 (g_X12_sumOf (o := o) (S := 2 ^ n - 1) (n := n) e1 (by omega) hb) rfl rfl ?_
    rintro r h' ⟨rfl, rfl⟩
    exact ⟨_, 0, 1000000, 0, _, rfl, by omega, Or.inl ⟨rfl, rfl, rfl⟩, rfl, rfl, rfl⟩
  · rintro μ L st h ⟨j, a, b, z, hμ, h1, h2, rfl, rfl, rfl⟩
    refine And.intro (fun (q1 : f_shl 1 (nI n) ≤ nI (2 * j + 1)) => ?_) (fun (q1 : ¬ f_shl 1 (nI n) ≤ nI (2 * j + 1)) => ?_) <;> rw [pw_n n (by omega)] at q1
    · have q1 := (nI_leI (by omega) (by omega)).mp q1
      rcases h2 with ⟨rfl, _, _⟩ | ⟨i, rfl, rfl, rfl⟩
      · omega
      · have ei : i = 2 ^ (n - 1) - 1 := by omega
        rcases (by omega : w = 0 ∨ w = 1) with rfl | rfl
        · refine And.intro (fun _ => ?_) (fun z => absurd rfl z)
          unfold shV
          rw [if_pos rfl, ← ei]
          exact ⟨rfl, rfl⟩
        · refine And.intro (fun z => absurd z (by show ¬ ((_ : Int32) = _); decide)) (fun _ => ?_)
          unfold shV
          rw [if_neg (by decide), ← ei]
          exact ⟨rfl, rfl⟩
    · have q1 : 2 * j + 1 < 2 ^ n := Nat.lt_of_not_le fun z => q1 ((nI_leI (by omega) (by omega)).mpr z)
      refine call0 (c_X12_sumOf (o := o) (S := 2 * j + 1) (n := n) (by omega) hb) rfl rfl ?_
      rintro r h' ⟨rfl, rfl⟩
      have e2 : f_mul 2 (nI (wS o (2 * j + 1) n)) = nI (2 * wS o (2 * j + 1) n) := nI_mul 2 _
      have w1 := wS_le (o := o) (S := 2 * j + 1) ho
      have w2 := wS_le (o := o) (S := 2 ^ n - 1) ho
      refine call0 (g_X12_sizeE (a := wS o (2 ^ n - 1) n) (b := 2 * wS o (2 * j + 1) n) (congrArg (f_sub (nI (wS o (2 ^ n - 1) n))) e2) (by omega) (by omega)) rfl rfl ?_
      rintro r h' ⟨rfl, rfl⟩
      have el : abN (wS o (2 ^ n - 1) n) (2 * wS o (2 * j + 1) n) = lS o n (2 * j + 1) := by
        unfold lS abN
        split <;> split <;> omega
      rw [el]
      have l1 := lle (2 * j + 1)
      have en : ∀ m : Nat, f_add (nI (2 * j + 1)) 2 = nI (2 * (j + 1) + 1) := fun _ => nI_add (2 * j + 1) 2
      rcases h2 with ⟨rfl, rfl, rfl⟩ | ⟨i, rfl, rfl, rfl⟩
      · refine And.intro (fun _ => ?_) (fun q => absurd ((nI_ltI (by omega) (by omega)).mpr (by omega)) q)
        exact ⟨N - 1, by omega, 1, (shF (lS o n) 0).1, (shF (lS o n) 0).2, _, rfl, by omega, Or.inr ⟨0, rfl, rfl, rfl⟩, rfl, rfl, rfl⟩
      · have l2 := shF_1 lle i
        refine And.intro (fun q => ?_) (fun q => ?_)
        · have q : lS o n (2 * (i + 1) + 1) < (shF (lS o n) i).1 := (nI_ltI (by omega) (by omega)).mp q
          have q : lS o n (2 * i + 3) < (shF (lS o n) i).1 := q
          have es : shF (lS o n) (i + 1) = (lS o n (2 * i + 3), 2 * i + 3) := by
            show (if lS o n (2 * i + 3) < (shF (lS o n) i).1 then (lS o n (2 * i + 3), 2 * i + 3) else shF (lS o n) i) = _
            rw [if_pos q]
          exact ⟨N - (i + 1 + 1), by omega, i + 1 + 1, (shF (lS o n) (i + 1)).1, (shF (lS o n) (i + 1)).2, _, rfl, by omega, Or.inr ⟨i + 1, rfl, rfl, rfl⟩, by rw [es, ← en 0] <;> rfl, rfl, rfl⟩
        · have q : ¬ lS o n (2 * i + 3) < (shF (lS o n) i).1 := fun z => q ((nI_ltI (by omega) (by omega)).mpr z)
          have es : shF (lS o n) (i + 1) = shF (lS o n) i := by
            show (if lS o n (2 * i + 3) < (shF (lS o n) i).1 then (lS o n (2 * i + 3), 2 * i + 3) else shF (lS o n) i) = _
            rw [if_neg q]
          exact ⟨N - (i + 1 + 1), by omega, i + 1 + 1, (shF (lS o n) (i + 1)).1, (shF (lS o n) (i + 1)).2, _, rfl, by omega, Or.inr ⟨i + 1, rfl, rfl, rfl⟩, by rw [es, ← en 0] <;> rfl, rfl, rfl⟩
set_option maxRecDepth 100000 in
theorem c_X8_loadShip {l : Launch} {Rid_bits Rid_grains : Int32} {Rid_fewest Rid_got Tape_bytes : Nat → Int32}  {o : Nat → Nat} {n s : Nat} (hn1 : 1 ≤ n) (hn : n ≤ 10) (hs : s ≤ 260) (hns : n ≤ s) (hb : ∀ i, i < n → o i ≤ 255 ∧ Tape_bytes i = nI (o i)) : MetP l 3 yX8_loadShip cX8_loadShip 5 none 0 0 [.inr (some (.inl 0)), .inl (nI n)] [.inr (7, [.inr (some (.inl 3)), .inr (some (.inl 1)), .inr (some (.inl 2)), .inl Rid_bits, .inl Rid_grains]), .inl (0, 601, Rid_fewest), .inl (0, 6, Rid_got), .inr (9, [.inr (some (.inl 4)), .inl ((nI s))]), .inl (0, 260, Tape_bytes)] (fun r h' => r = none ∧ h' = [.inr (7, [.inr (some (.inl 3)), .inr (some (.inl 1)), .inr (some (.inl 2)), .inl ((nI (shF (lS o n) (2 ^ (n - 1) - 1)).2)), .inl ((nI (shF (lS o n) (2 ^ (n - 1) - 1)).1))]), .inl (0, 601, Rid_fewest), .inl (0, 6, Rid_got), .inr (9, [.inr (some (.inl 4)), .inl ((nI s))]), .inl (0, 260, Tape_bytes)]) := by
  obtain ⟨N, eN⟩ : ∃ N, N = 2 ^ (n - 1) := ⟨_, rfl⟩
  have pw := pw_h n (by omega) hn1
  have ho : ∀ i, i < n → o i ≤ 255 := fun i hi => (hb i hi).1
  have lle : ∀ S, lS o n S ≤ 6120 := fun S => lS_le (by omega) ho
  have w2 := wS_le (o := o) (S := 2 ^ n - 1) ho
  have e1 : f_sub (f_shl 1 (nI n)) 1 = nI (2 ^ n - 1) := by
    rw [pw_n n (by omega)]
    exact fsub_n (b := 1) (by omega)
  refine m_X8_loadShip (fun μ L st h => ∃ (j a b : Nat) (z : Option PV), μ = N - j ∧ j ≤ N ∧ ((j = 0 ∧ a = wS o (2 ^ n - 1) n ∧ b = 2 ^ n - 1) ∨ ∃ i, j = i + 1 ∧ a = (shF (lS o n) i).1 ∧ b = (shF (lS o n) i).2) ∧ L = [some (.inr (some (.inl 0))), some (.inl (nI n)), some (.inl (nI (wS o (2 ^ n - 1) n))), some (.inl (nI (2 * j + 1))), z] ∧ st = [] ∧ h = [.inr (7, [.inr (some (.inl 3)), .inr (some (.inl 1)), .inr (some (.inl 2)), .inl ((nI b)), .inl ((nI a))]), .inl (0, 601, Rid_fewest), .inl (0, 6, Rid_got), .inr (9, [.inr (some (.inl 4)), .inl ((nI s))]), .inl (0, 260, Tape_bytes)]) (Nat.le_of_ble_eq_true rfl) ?_ ?_
  · refine call0 (g_X8_weightOf (o := o) (S := 2 ^ n - 1) (n := n) (s := s) e1 (by omega) hs hns hb) rfl rfl ?_
    rintro r h' ⟨rfl, rfl⟩
    exact ⟨_, 0, wS o (2 ^ n - 1) n, 2 ^ n - 1, _, rfl, by omega, Or.inl ⟨rfl, rfl, rfl⟩, rfl, rfl, by rw [← e1] <;> rfl⟩
  · rintro μ L st h ⟨j, a, b, z, hμ, h1, h2, rfl, rfl, rfl⟩
    refine And.intro (fun (q1 : f_shl 1 (nI n) ≤ nI (2 * j + 1)) => ?_) (fun (q1 : ¬ f_shl 1 (nI n) ≤ nI (2 * j + 1)) => ?_) <;> rw [pw_n n (by omega)] at q1
    · have q1 := (nI_leI (by omega) (by omega)).mp q1
      rcases h2 with ⟨rfl, _, _⟩ | ⟨i, rfl, rfl, rfl⟩
      · omega
      · have ei : i = 2 ^ (n - 1) - 1 := by omega
        rw [← ei]
        exact ⟨rfl, rfl⟩
    · have q1 : 2 * j + 1 < 2 ^ n := Nat.lt_of_not_le fun z => q1 ((nI_leI (by omega) (by omega)).mpr z)
      refine call0 (c_X8_weightOf (o := o) (S := 2 * j + 1) (n := n) (s := s) (by omega) hs hns hb) rfl rfl ?_
      rintro r h' ⟨rfl, rfl⟩
      refine And.intro rfl ?_
      have w1 := wS_le (o := o) (S := 2 * j + 1) ho
      have e2 : f_abs (f_sub (f_mul 2 (nI (wS o (2 * j + 1) n))) (nI (wS o (2 ^ n - 1) n))) = nI (lS o n (2 * j + 1)) := by
        rw [show f_mul 2 (nI (wS o (2 * j + 1) n)) = nI (2 * wS o (2 * j + 1) n) from nI_mul 2 _]
        exact abs_n (by omega) (by omega)
      rw [e2]
      have l1 := lle (2 * j + 1)
      have en : f_add (nI (2 * j + 1)) 2 = nI (2 * (j + 1) + 1) := nI_add (2 * j + 1) 2
      rcases h2 with ⟨rfl, rfl, rfl⟩ | ⟨i, rfl, rfl, rfl⟩
      · have wm : wS o 1 n ≤ wS o (2 ^ n - 1) n := wS_mono (fun i hi _ => by rw [Nat.testBit_two_pow_sub_one]; exact decide_eq_true hi)
        have lm : lS o n 1 ≤ wS o (2 ^ n - 1) n := by
          show abN (2 * wS o 1 n) (wS o (2 ^ n - 1) n) ≤ _
          unfold abN
          split <;> omega
        refine And.intro (fun _ => ?_) (fun q => ?_)
        · exact ⟨N - 1, by omega, 1, (shF (lS o n) 0).1, (shF (lS o n) 0).2, _, rfl, by omega, Or.inr ⟨0, rfl, rfl, rfl⟩, rfl, rfl, rfl⟩
        · have q : ¬ lS o n 1 < wS o (2 ^ n - 1) n := fun z => q ((nI_ltI (by omega) (by omega)).mpr z)
          have qe : lS o n 1 = wS o (2 ^ n - 1) n := by omega
          refine And.intro (fun _ => ?_) (fun r => absurd ((nI_eq (by omega) (by omega)).mpr qe) r)
          refine And.intro (fun r => ?_) (fun _ => ?_)
          · have r := (nI_leI (by omega) (by omega)).mp r
            have e3 : 2 ^ n - 1 = 1 := by omega
            exact ⟨N - 1, by omega, 1, (shF (lS o n) 0).1, (shF (lS o n) 0).2, _, rfl, by omega, Or.inr ⟨0, rfl, rfl, rfl⟩, rfl, rfl, by rw [e3, show (shF (lS o n) 0).1 = wS o (2 ^ n - 1) n from qe, e3]; rfl⟩
          · exact ⟨N - 1, by omega, 1, (shF (lS o n) 0).1, (shF (lS o n) 0).2, _, rfl, by omega, Or.inr ⟨0, rfl, rfl, rfl⟩, rfl, rfl, rfl⟩
      · have l2 := shF_1 lle i
        have l3 := shF_2 (f := lS o n) i
        have no : ¬ lS o n (2 * i + 3) < (shF (lS o n) i).1 → ∃ μ', μ' < μ ∧ ∃ (j' a' b' : Nat) (z' : Option PV), μ' = N - j' ∧ j' ≤ N ∧ ((j' = 0 ∧ a' = wS o (2 ^ n - 1) n ∧ b' = 2 ^ n - 1) ∨ ∃ i, j' = i + 1 ∧ a' = (shF (lS o n) i).1 ∧ b' = (shF (lS o n) i).2) ∧ ([some (.inr (some (.inl 0))), some (.inl (nI n)), some (.inl (nI (wS o (2 ^ n - 1) n))), some (.inl (f_add (nI (2 * (i + 1) + 1)) 2)), some (.inl (nI (lS o n (2 * (i + 1) + 1))))] : PL) = [some (.inr (some (.inl 0))), some (.inl (nI n)), some (.inl (nI (wS o (2 ^ n - 1) n))), some (.inl (nI (2 * j' + 1))), z'] ∧ ([] : List PV) = [] ∧ ([.inr (7, [.inr (some (.inl 3)), .inr (some (.inl 1)), .inr (some (.inl 2)), .inl ((nI (shF (lS o n) i).2)), .inl ((nI (shF (lS o n) i).1))]), .inl (0, 601, Rid_fewest), .inl (0, 6, Rid_got), .inr (9, [.inr (some (.inl 4)), .inl ((nI s))]), .inl (0, 260, Tape_bytes)] : PH) = [.inr (7, [.inr (some (.inl 3)), .inr (some (.inl 1)), .inr (some (.inl 2)), .inl ((nI b')), .inl ((nI a'))]), .inl (0, 601, Rid_fewest), .inl (0, 6, Rid_got), .inr (9, [.inr (some (.inl 4)), .inl ((nI s))]), .inl (0, 260, Tape_bytes)] := fun q => by
          have es : shF (lS o n) (i + 1) = shF (lS o n) i := by
            show (if lS o n (2 * i + 3) < (shF (lS o n) i).1 then (lS o n (2 * i + 3), 2 * i + 3) else shF (lS o n) i) = _
            rw [if_neg q]
          exact ⟨N - (i + 1 + 1), by omega, i + 1 + 1, (shF (lS o n) (i + 1)).1, (shF (lS o n) (i + 1)).2, _, rfl, by omega, Or.inr ⟨i + 1, rfl, rfl, rfl⟩, by rw [en], rfl, by rw [es]⟩
        refine And.intro (fun q => ?_) (fun q => ?_)
        · have q : lS o n (2 * (i + 1) + 1) < (shF (lS o n) i).1 := (nI_ltI (by omega) (by omega)).mp q
          have q : lS o n (2 * i + 3) < (shF (lS o n) i).1 := q
          have es : shF (lS o n) (i + 1) = (lS o n (2 * i + 3), 2 * i + 3) := by
            show (if lS o n (2 * i + 3) < (shF (lS o n) i).1 then (lS o n (2 * i + 3), 2 * i + 3) else shF (lS o n) i) = _
            rw [if_pos q]
          exact ⟨N - (i + 1 + 1), by omega, i + 1 + 1, (shF (lS o n) (i + 1)).1, (shF (lS o n) (i + 1)).2, _, rfl, by omega, Or.inr ⟨i + 1, rfl, rfl, rfl⟩, by rw [← en]; rfl, rfl, by rw [es]; rfl⟩
        · have q : ¬ lS o n (2 * i + 3) < (shF (lS o n) i).1 := fun z => q ((nI_ltI (by omega) (by omega)).mpr z)
          refine And.intro (fun _ => ?_) (fun _ => no q)
          exact And.intro (fun _ => no q) (fun r => absurd ((nI_leI (by omega) (by omega)).mpr (by omega)) r)
set_option maxRecDepth 100000 in
theorem c_X8_grains {l : Launch} {Rid_tape : List (Option Nat)} {Rid_bits Rid_grains : Int32} {Rid_fewest Rid_got : Nat → Int32}  : MetP l 0 yX8_grains cX8_grains 1 (some .int) 0 0 [.inr (some (.inl 0))] [.inr (7, [.inr (some (.inr Rid_tape)), .inr (some (.inl 1)), .inr (some (.inl 2)), .inl Rid_bits, .inl Rid_grains]), .inl (0, 601, Rid_fewest), .inl (0, 6, Rid_got)] (fun r h' => r = some (.inl Rid_grains) ∧ h' = [.inr (7, [.inr (some (.inr Rid_tape)), .inr (some (.inl 1)), .inr (some (.inl 2)), .inl Rid_bits, .inl Rid_grains]), .inl (0, 601, Rid_fewest), .inl (0, 6, Rid_got)]) := by
  refine m_X8_grains (Nat.le_of_ble_eq_true rfl) ?_
  exact ⟨rfl, rfl⟩
set_option maxRecDepth 100000 in
theorem c_X8_bits {l : Launch} {Rid_tape : List (Option Nat)} {Rid_bits Rid_grains : Int32} {Rid_fewest Rid_got : Nat → Int32}  : MetP l 0 yX8_bits cX8_bits 1 (some .int) 0 0 [.inr (some (.inl 0))] [.inr (7, [.inr (some (.inr Rid_tape)), .inr (some (.inl 1)), .inr (some (.inl 2)), .inl Rid_bits, .inl Rid_grains]), .inl (0, 601, Rid_fewest), .inl (0, 6, Rid_got)] (fun r h' => r = some (.inl Rid_bits) ∧ h' = [.inr (7, [.inr (some (.inr Rid_tape)), .inr (some (.inl 1)), .inr (some (.inl 2)), .inl Rid_bits, .inl Rid_grains]), .inl (0, 601, Rid_fewest), .inl (0, 6, Rid_got)]) := by
  refine m_X8_bits (Nat.le_of_ble_eq_true rfl) ?_
  exact ⟨rfl, rfl⟩
set_option maxRecDepth 100000 in
theorem c_X11_ship {l : Launch} {HS_republic HS_now HS_kept HS_trial HS_clerk HS_crew HS_sheetReader HS_postReader HS_lawReader HS_seen HS_rules HS_spareRules : List (Option Nat)} {HS_wasKept Rid_bits Rid_grains : Int32} {Tape_bytes Rid_fewest Rid_got : Nat → Int32}  {o : Nat → Nat} {n s w : Nat} (hn1 : 1 ≤ n) (hn : n ≤ 10) (hw : w ≤ 1) (hs : s ≤ 260) (hns : n ≤ s) (hb : ∀ i, i < n → o i ≤ 255 ∧ Tape_bytes i = nI (o i)) : MetP l 4 yX11_ship cX11_ship 3 (some .int) 0 0 [.inr (some (.inl 0)), .inl (nI n), .inl (nI w)] [.inr (10, [.inr (some (.inl 1)), .inr (some (.inr HS_republic)), .inr (some (.inr HS_now)), .inr (some (.inr HS_kept)), .inr (some (.inr HS_trial)), .inr (some (.inr HS_clerk)), .inr (some (.inr HS_crew)), .inr (some (.inl 3)), .inr (some (.inr HS_sheetReader)), .inr (some (.inr HS_postReader)), .inr (some (.inr HS_lawReader)), .inr (some (.inr HS_seen)), .inr (some (.inr HS_rules)), .inr (some (.inr HS_spareRules)), .inl HS_wasKept]), .inr (9, [.inr (some (.inl 2)), .inl ((nI s))]), .inl (0, 260, Tape_bytes), .inr (7, [.inr (some (.inl 1)), .inr (some (.inl 4)), .inr (some (.inl 5)), .inl Rid_bits, .inl Rid_grains]), .inl (0, 601, Rid_fewest), .inl (0, 6, Rid_got)] (fun r h' => ∃ b g : Int32, r = some (.inl (shV o n w)) ∧ h' = [.inr (10, [.inr (some (.inl 1)), .inr (some (.inr HS_republic)), .inr (some (.inr HS_now)), .inr (some (.inr HS_kept)), .inr (some (.inr HS_trial)), .inr (some (.inr HS_clerk)), .inr (some (.inr HS_crew)), .inr (some (.inl 3)), .inr (some (.inr HS_sheetReader)), .inr (some (.inr HS_postReader)), .inr (some (.inr HS_lawReader)), .inr (some (.inr HS_seen)), .inr (some (.inr HS_rules)), .inr (some (.inr HS_spareRules)), .inl HS_wasKept]), .inr (9, [.inr (some (.inl 2)), .inl 0]), .inl (0, 260, Tape_bytes), .inr (7, [.inr (some (.inl 1)), .inr (some (.inl 4)), .inr (some (.inl 5)), .inl b, .inl g]), .inl (0, 601, Rid_fewest), .inl (0, 6, Rid_got)]) := by
  refine m_X11_ship (Nat.le_of_ble_eq_true rfl) ?_
  refine call0 (c_within) rfl rfl ?_
  rintro r h' ⟨rfl, rfl⟩
  refine br_b (fun z => absurd ((nI_bt (a := 0) (b := 1) (by omega) (by omega) (by omega)).mpr ⟨by omega, hw⟩) z) (fun _ => ?_)
  refine call0 (c_canGive) rfl rfl ?_
  rintro r h' ⟨rfl, rfl⟩
  refine br_b (fun z => absurd ⟨(nI_bt (a := 1) (b := 10) (by omega) (by omega) (by omega)).mpr ⟨hn1, hn⟩, (nI_leI (by omega) (by omega)).mpr hns⟩ z) (fun _ => ?_)
  refine call0 (c_X8_loadShip (o := o) (n := n) (s := s) hn1 hn hs hns hb) rfl rfl ?_
  rintro r h' ⟨rfl, rfl⟩
  refine call0 (c_X10_empty) rfl rfl ?_
  rintro r h' ⟨rfl, rfl⟩
  rcases (by omega : w = 0 ∨ w = 1) with rfl | rfl
  · refine And.intro (fun _ => ?_) (fun z => absurd rfl z)
    refine call0 (c_X8_grains) rfl rfl ?_
    rintro r h' ⟨rfl, rfl⟩
    unfold shV
    rw [if_pos rfl]
    exact ⟨_, _, rfl, rfl⟩
  · refine And.intro (fun z => absurd z (by show ¬ ((_ : Int32) = _); decide)) (fun _ => ?_)
    refine call0 (c_X8_bits) rfl rfl ?_
    rintro r h' ⟨rfl, rfl⟩
    unfold shV
    rw [if_neg (by decide)]
    exact ⟨_, _, rfl, rfl⟩

