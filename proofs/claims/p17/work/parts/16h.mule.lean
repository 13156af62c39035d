/-! ===== mules ===== -/
def pcN (S : Nat) : Nat → Nat
  | 0 => 0
  | k + 1 => pcN S k + (if S.testBit k = true then 1 else 0)
theorem pcN_le {S : Nat} : ∀ k, pcN S k ≤ k
  | 0 => Nat.le_refl _
  | k + 1 => by
    have h := pcN_le (S := S) k
    unfold pcN
    split <;> omega
def pcV (x : Int32) : Int32 :=
  let a := f_sub x (f_and (f_ushr x 1) 1431655765)
  let b := f_add (f_and a 858993459) (f_and (f_ushr a 2) 858993459)
  let c := f_and (f_add b (f_ushr b 4)) 252645135
  let d := f_add c (f_ushr c 8)
  let e := f_add d (f_ushr d 16)
  f_and e 63
theorem pcV_n {S : Nat} (h : S < 4096) : pcV (nI S) = nI (pcN S 12) := by
  have q : ∀ a, a < 64 → ∀ b, b < 64 → pcV (nI (64 * a + b)) = nI (pcN (64 * a + b) 12) := by decide +kernel
  have e : S = 64 * (S / 64) + S % 64 := by omega
  rw [e]
  exact q (S / 64) (by omega) (S % 64) (by omega)
set_option maxRecDepth 100000 in
theorem c_bitCount {l : Launch} {S : Nat} (h : S < 4096) : MetP l 0 yJ6_bitCount_0f7a4 cJ6_bitCount_0f7a4 1 (some .int) 0 0 [.inl (nI S)] [] (fun r h' => r = some (.inl (nI (pcN S 12))) ∧ h' = []) := by
  refine m_J6_bitCount_0f7a4 (Nat.le_of_ble_eq_true rfl) ?_
  rw [← pcV_n h]
  exact ⟨rfl, rfl⟩
theorem e_X12_bits {l : Launch} {S : Nat} : MetP l 0 yX12_bits cX12_bits 3 (some .int) 0 0 [.inl (nI S)] [] (fun r h' => r = some (.inl (nI (pcN S 12))) ∧ h' = []) := by
  refine m_X12_bits (fun μ L st h => ∃ i : Nat, μ = 12 - i ∧ i ≤ 12 ∧ L = [some (.inl (nI S)), some (.inl (nI (pcN S i))), some (.inl (nI i))] ∧ st = [] ∧ h = []) (Nat.le_of_ble_eq_true rfl) ?_ ?_
  · exact ⟨_, 0, rfl, by omega, rfl, rfl, rfl⟩
  · rintro μ L st h ⟨i, hμ, h1, rfl, rfl, rfl⟩
    refine And.intro (fun q1 => ?_) (fun q1 => ?_)
    · have q1 := (nI_leI (a := 12) (by omega) (by omega)).mp q1
      obtain rfl : i = 12 := by omega
      exact ⟨rfl, rfl⟩
    · have q1 : i < 12 := Nat.lt_of_not_le fun z => q1 ((nI_leI (a := 12) (by omega) (by omega)).mpr z)
      have em : f_add (nI (pcN S i)) (f_and (f_shr (nI S) (nI i)) 1) = nI (pcN S (i + 1)) := by
        rw [bit_n (by omega)]
        exact nI_add _ _
      exact ⟨12 - (i + 1), by omega, i + 1, rfl, by omega, by rw [← em, ← nI_1 i] <;> rfl, rfl, rfl⟩
/-- the best of the first j sets: none, or a set and its grains -/
def muF (f : Nat → Nat) (m : Nat) : Nat → Option (Nat × Nat)
  | 0 => none
  | j + 1 => if f j < m then muF f m j else match muF f m j with
    | none => some (j, f j)
    | some (b, g) => if pcN j 12 < pcN b 12 ∨ (pcN j 12 = pcN b 12 ∧ f j < g) then some (j, f j) else some (b, g)
theorem muF_lt {f : Nat → Nat} {m : Nat} : ∀ {j b g : Nat}, muF f m j = some (b, g) → b < j ∧ g = f b
  | 0, b, g, h => by cases h
  | j + 1, b, g, h => by
    unfold muF at h
    split at h
    · have := muF_lt h
      exact ⟨by omega, this.2⟩
    · split at h
      · cases h
        exact ⟨by omega, rfl⟩
      · rename_i b' g' e
        split at h
        · cases h
          exact ⟨by omega, rfl⟩
        · cases h
          have := muF_lt e
          exact ⟨by omega, this.2⟩
def muV (o : Nat → Nat) (n m w : Nat) : Int32 := match muF (fun S => wS o S n) m (2 ^ n) with
  | none => -2
  | some (b, g) => if w = 0 then nI (pcN b 12) else if w = 1 then nI b else nI g
set_option maxRecDepth 100000 in
theorem c_X12_mule {l : Launch} {M_now M_aside M_kept M_mintAt M_mintOf M_wholeOf M_isWall M_wasWall M_said M_waitsAt M_saidLetter M_saidFrom M_saidHalf M_saidTo M_codes M_clauseOf M_codeFrom M_codeHalf M_codeTo M_stack M_facts M_newStamps M_roundFrom M_roundAt M_roundTimes M_usesNow M_wasAt M_someOf M_fewestFor M_getsOf : List (Option Nat)} {M_stampMany M_place0 M_length0 M_fault M_number0 M_open M_codeMany M_waiting M_saidMany M_clauses M_newMany M_rounds M_stampFrom M_stampTimes M_lines M_spot0 M_pullAcross M_pullAlong M_stepsNow M_fallenNow M_isKept : Int32} {M_tape : Nat → Int32}  {o : Nat → Nat} {n s m w : Nat} (hn1 : 1 ≤ n) (hn : n ≤ 12) (hm : m ≤ 3060) (hw : w ≤ 2) (hs : s ≤ 260) (hns : n ≤ s) (hb : ∀ i, i < n → o i ≤ 255 ∧ f_and (M_tape i) 255 = nI (o i)) : MetP l 2 yX12_mule cX12_mule 8 (some .int) 0 0 [.inr (some (.inl 0)), .inl (nI n), .inl (nI m), .inl (nI w)] [.inr (11, [.inr (some (.inr M_now)), .inr (some (.inr M_aside)), .inr (some (.inr M_kept)), .inr (some (.inr M_mintAt)), .inr (some (.inr M_mintOf)), .inr (some (.inr M_wholeOf)), .inr (some (.inr M_isWall)), .inr (some (.inr M_wasWall)), .inl M_stampMany, .inr (some (.inl 1)), .inl ((nI s)), .inl M_place0, .inl M_length0, .inl M_fault, .inl M_number0, .inl M_open, .inl M_codeMany, .inl M_waiting, .inl M_saidMany, .inl M_clauses, .inr (some (.inr M_said)), .inr (some (.inr M_waitsAt)), .inr (some (.inr M_saidLetter)), .inr (some (.inr M_saidFrom)), .inr (some (.inr M_saidHalf)), .inr (some (.inr M_saidTo)), .inr (some (.inr M_codes)), .inr (some (.inr M_clauseOf)), .inr (some (.inr M_codeFrom)), .inr (some (.inr M_codeHalf)), .inr (some (.inr M_codeTo)), .inr (some (.inr M_stack)), .inr (some (.inr M_facts)), .inr (some (.inr M_newStamps)), .inr (some (.inr M_roundFrom)), .inr (some (.inr M_roundAt)), .inr (some (.inr M_roundTimes)), .inl M_newMany, .inl M_rounds, .inl M_stampFrom, .inl M_stampTimes, .inl M_lines, .inl M_spot0, .inl M_pullAcross, .inl M_pullAlong, .inl M_stepsNow, .inl M_fallenNow, .inr (some (.inr M_usesNow)), .inr (some (.inr M_wasAt)), .inr (some (.inr M_someOf)), .inr (some (.inr M_fewestFor)), .inr (some (.inr M_getsOf)), .inl M_isKept]), .inl (1, 260, M_tape)] (fun r h' => r = some (.inl (muV o n m w)) ∧ h' = [.inr (11, [.inr (some (.inr M_now)), .inr (some (.inr M_aside)), .inr (some (.inr M_kept)), .inr (some (.inr M_mintAt)), .inr (some (.inr M_mintOf)), .inr (some (.inr M_wholeOf)), .inr (some (.inr M_isWall)), .inr (some (.inr M_wasWall)), .inl M_stampMany, .inr (some (.inl 1)), .inl 0, .inl M_place0, .inl M_length0, .inl M_fault, .inl M_number0, .inl M_open, .inl M_codeMany, .inl M_waiting, .inl M_saidMany, .inl M_clauses, .inr (some (.inr M_said)), .inr (some (.inr M_waitsAt)), .inr (some (.inr M_saidLetter)), .inr (some (.inr M_saidFrom)), .inr (some (.inr M_saidHalf)), .inr (some (.inr M_saidTo)), .inr (some (.inr M_codes)), .inr (some (.inr M_clauseOf)), .inr (some (.inr M_codeFrom)), .inr (some (.inr M_codeHalf)), .inr (some (.inr M_codeTo)), .inr (some (.inr M_stack)), .inr (some (.inr M_facts)), .inr (some (.inr M_newStamps)), .inr (some (.inr M_roundFrom)), .inr (some (.inr M_roundAt)), .inr (some (.inr M_roundTimes)), .inl M_newMany, .inl M_rounds, .inl M_stampFrom, .inl M_stampTimes, .inl M_lines, .inl M_spot0, .inl M_pullAcross, .inl M_pullAlong, .inl M_stepsNow, .inl M_fallenNow, .inr (some (.inr M_usesNow)), .inr (some (.inr M_wasAt)), .inr (some (.inr M_someOf)), .inr (some (.inr M_fewestFor)), .inr (some (.inr M_getsOf)), .inl M_isKept]), .inl (1, 260, M_tape)]) := by
  have pw := pw_le n (by omega)
  have ho : ∀ i, i < n → o i ≤ 255 := fun i hi => (hb i hi).1
  have wle : ∀ S, wS o S n ≤ 3060 := fun S => by have := wS_le (o := o) (S := S) ho; omega
  refine m_X12_mule (fun μ L st h => ∃ (j : Nat) (x y : Int32) (z : Option PV), μ = 2 ^ n - j ∧ j ≤ 2 ^ n ∧ ((muF (fun S => wS o S n) m j = none ∧ x = -2) ∨ ∃ b g, muF (fun S => wS o S n) m j = some (b, g) ∧ x = nI b ∧ y = nI g) ∧ L = [some (.inr (some (.inl 0))), some (.inl (nI n)), some (.inl (nI m)), some (.inl (nI w)), some (.inl x), some (.inl y), some (.inl (nI j)), z] ∧ st = [] ∧ h = [.inr (11, [.inr (some (.inr M_now)), .inr (some (.inr M_aside)), .inr (some (.inr M_kept)), .inr (some (.inr M_mintAt)), .inr (some (.inr M_mintOf)), .inr (some (.inr M_wholeOf)), .inr (some (.inr M_isWall)), .inr (some (.inr M_wasWall)), .inl M_stampMany, .inr (some (.inl 1)), .inl 0, .inl M_place0, .inl M_length0, .inl M_fault, .inl M_number0, .inl M_open, .inl M_codeMany, .inl M_waiting, .inl M_saidMany, .inl M_clauses, .inr (some (.inr M_said)), .inr (some (.inr M_waitsAt)), .inr (some (.inr M_saidLetter)), .inr (some (.inr M_saidFrom)), .inr (some (.inr M_saidHalf)), .inr (some (.inr M_saidTo)), .inr (some (.inr M_codes)), .inr (some (.inr M_clauseOf)), .inr (some (.inr M_codeFrom)), .inr (some (.inr M_codeHalf)), .inr (some (.inr M_codeTo)), .inr (some (.inr M_stack)), .inr (some (.inr M_facts)), .inr (some (.inr M_newStamps)), .inr (some (.inr M_roundFrom)), .inr (some (.inr M_roundAt)), .inr (some (.inr M_roundTimes)), .inl M_newMany, .inl M_rounds, .inl M_stampFrom, .inl M_stampTimes, .inl M_lines, .inl M_spot0, .inl M_pullAcross, .inl M_pullAlong, .inl M_stepsNow, .inl M_fallenNow, .inr (some (.inr M_usesNow)), .inr (some (.inr M_wasAt)), .inr (some (.inr M_someOf)), .inr (some (.inr M_fewestFor)), .inr (some (.inr M_getsOf)), .inl M_isKept]), .inl (1, 260, M_tape)]) (Nat.le_of_ble_eq_true rfl) ?_ ?_
  · refine call0 (c_in) rfl rfl ?_
    rintro r h' ⟨rfl, rfl⟩
    refine br_b (fun z => absurd ((nI_bt (a := 1) (b := 12) (by omega) (by omega) (by omega)).mpr ⟨hn1, hn⟩) z) (fun _ => ?_)
    refine call0 (c_in) rfl rfl ?_
    rintro r h' ⟨rfl, rfl⟩
    refine br_b (fun z => absurd ⟨(nI_leI (a := 0) (by omega) (by omega)).mpr (by omega), (nI_leI (b := 3060) (by omega) (by omega)).mpr hm⟩ z) (fun _ => ?_)
    refine call0 (c_in) rfl rfl ?_
    rintro r h' ⟨rfl, rfl⟩
    refine br_b (fun z => absurd ((nI_bt (a := 0) (b := 2) (by omega) (by omega) (by omega)).mpr ⟨by omega, hw⟩) z) (fun _ => ?_)
    refine And.intro (fun _ => ?_) (fun z => absurd ((nI_leI (by omega) (by omega)).mpr hns) z)
    exact ⟨_, 0, -2, 0, _, rfl, by omega, Or.inl ⟨rfl, rfl⟩, rfl, rfl, rfl⟩
  · rintro μ L st h ⟨j, x, y, z, hμ, h1, h2, rfl, rfl, rfl⟩
    have n2 : ∀ b, b < 4096 → ¬ nI b = -2 := fun b hb z => by
      have := congrArg Int32.toInt z
      rw [nI_toInt (by omega)] at this
      have e : (-2 : Int32).toInt = -2 := rfl
      omega
    refine And.intro (fun (q1 : f_shl 1 (nI n) ≤ nI j) => ?_) (fun (q1 : ¬ f_shl 1 (nI n) ≤ nI j) => ?_) <;> rw [pw_n n (by omega)] at q1
    · have q1 := (nI_leI (by omega) (by omega)).mp q1
      obtain rfl : j = 2 ^ n := by omega
      rcases h2 with ⟨h2, rfl⟩ | ⟨b, g, h2, rfl, rfl⟩
      · refine And.intro (fun _ => ?_) (fun z => absurd rfl z)
        unfold muV
        rw [h2]
        exact ⟨rfl, rfl⟩
      · have hb4 := muF_lt h2
        refine And.intro (fun z => absurd z (n2 b (by omega))) (fun _ => ?_)
        rcases (by omega : w = 0 ∨ w = 1 ∨ w = 2) with rfl | rfl | rfl
        · refine And.intro (fun _ => ?_) (fun z => absurd rfl z)
          refine call0 (e_X12_bits (S := b)) rfl rfl ?_
          rintro r h' ⟨rfl, rfl⟩
          unfold muV
          rw [h2]
          exact ⟨rfl, rfl⟩
        · refine And.intro (fun z => absurd z (by show ¬ ((_ : Int32) = _); decide)) (fun _ => ?_)
          refine And.intro (fun _ => ?_) (fun z => absurd rfl z)
          unfold muV
          rw [h2]
          exact ⟨rfl, rfl⟩
        · refine And.intro (fun z => absurd z (by show ¬ ((_ : Int32) = _); decide)) (fun _ => ?_)
          refine And.intro (fun z => absurd z (by show ¬ ((_ : Int32) = _); decide)) (fun _ => ?_)
          unfold muV
          rw [h2]
          exact ⟨rfl, rfl⟩
    · have q1 : j < 2 ^ n := Nat.lt_of_not_le fun z => q1 ((nI_leI (by omega) (by omega)).mpr z)
      have wj := wle j
      refine call0 (c_X12_sumOf (o := o) (S := j) (n := n) (by omega) hb) rfl rfl ?_
      rintro r h' ⟨rfl, rfl⟩
      -- how it goes on
      have go : ∀ {x' y' : Int32} {z' : Option PV}, ((muF (fun S => wS o S n) m (j + 1) = none ∧ x' = -2) ∨ ∃ b g, muF (fun S => wS o S n) m (j + 1) = some (b, g) ∧ x' = nI b ∧ y' = nI g) → ∃ μ', μ' < μ ∧ ∃ (j2 : Nat) (x2 y2 : Int32) (z2 : Option PV), μ' = 2 ^ n - j2 ∧ j2 ≤ 2 ^ n ∧ ((muF (fun S => wS o S n) m j2 = none ∧ x2 = -2) ∨ ∃ b g, muF (fun S => wS o S n) m j2 = some (b, g) ∧ x2 = nI b ∧ y2 = nI g) ∧ ([some (.inr (some (.inl 0))), some (.inl (nI n)), some (.inl (nI m)), some (.inl (nI w)), some (.inl x'), some (.inl y'), some (.inl (f_add (nI j) 1)), z'] : PL) = [some (.inr (some (.inl 0))), some (.inl (nI n)), some (.inl (nI m)), some (.inl (nI w)), some (.inl x2), some (.inl y2), some (.inl (nI j2)), z2] ∧ ([] : List PV) = [] ∧ ([.inr (11, [.inr (some (.inr M_now)), .inr (some (.inr M_aside)), .inr (some (.inr M_kept)), .inr (some (.inr M_mintAt)), .inr (some (.inr M_mintOf)), .inr (some (.inr M_wholeOf)), .inr (some (.inr M_isWall)), .inr (some (.inr M_wasWall)), .inl M_stampMany, .inr (some (.inl 1)), .inl 0, .inl M_place0, .inl M_length0, .inl M_fault, .inl M_number0, .inl M_open, .inl M_codeMany, .inl M_waiting, .inl M_saidMany, .inl M_clauses, .inr (some (.inr M_said)), .inr (some (.inr M_waitsAt)), .inr (some (.inr M_saidLetter)), .inr (some (.inr M_saidFrom)), .inr (some (.inr M_saidHalf)), .inr (some (.inr M_saidTo)), .inr (some (.inr M_codes)), .inr (some (.inr M_clauseOf)), .inr (some (.inr M_codeFrom)), .inr (some (.inr M_codeHalf)), .inr (some (.inr M_codeTo)), .inr (some (.inr M_stack)), .inr (some (.inr M_facts)), .inr (some (.inr M_newStamps)), .inr (some (.inr M_roundFrom)), .inr (some (.inr M_roundAt)), .inr (some (.inr M_roundTimes)), .inl M_newMany, .inl M_rounds, .inl M_stampFrom, .inl M_stampTimes, .inl M_lines, .inl M_spot0, .inl M_pullAcross, .inl M_pullAlong, .inl M_stepsNow, .inl M_fallenNow, .inr (some (.inr M_usesNow)), .inr (some (.inr M_wasAt)), .inr (some (.inr M_someOf)), .inr (some (.inr M_fewestFor)), .inr (some (.inr M_getsOf)), .inl M_isKept]), .inl (1, 260, M_tape)] : PH) = [.inr (11, [.inr (some (.inr M_now)), .inr (some (.inr M_aside)), .inr (some (.inr M_kept)), .inr (some (.inr M_mintAt)), .inr (some (.inr M_mintOf)), .inr (some (.inr M_wholeOf)), .inr (some (.inr M_isWall)), .inr (some (.inr M_wasWall)), .inl M_stampMany, .inr (some (.inl 1)), .inl 0, .inl M_place0, .inl M_length0, .inl M_fault, .inl M_number0, .inl M_open, .inl M_codeMany, .inl M_waiting, .inl M_saidMany, .inl M_clauses, .inr (some (.inr M_said)), .inr (some (.inr M_waitsAt)), .inr (some (.inr M_saidLetter)), .inr (some (.inr M_saidFrom)), .inr (some (.inr M_saidHalf)), .inr (some (.inr M_saidTo)), .inr (some (.inr M_codes)), .inr (some (.inr M_clauseOf)), .inr (some (.inr M_codeFrom)), .inr (some (.inr M_codeHalf)), .inr (some (.inr M_codeTo)), .inr (some (.inr M_stack)), .inr (some (.inr M_facts)), .inr (some (.inr M_newStamps)), .inr (some (.inr M_roundFrom)), .inr (some (.inr M_roundAt)), .inr (some (.inr M_roundTimes)), .inl M_newMany, .inl M_rounds, .inl M_stampFrom, .inl M_stampTimes, .inl M_lines, .inl M_spot0, .inl M_pullAcross, .inl M_pullAlong, .inl M_stepsNow, .inl M_fallenNow, .inr (some (.inr M_usesNow)), .inr (some (.inr M_wasAt)), .inr (some (.inr M_someOf)), .inr (some (.inr M_fewestFor)), .inr (some (.inr M_getsOf)), .inl M_isKept]), .inl (1, 260, M_tape)] := fun {x' y' z'} hq => ⟨2 ^ n - (j + 1), by omega, j + 1, x', y', z', rfl, by omega, hq, by rw [← nI_1 j] <;> rfl, rfl, rfl⟩
      have um : muF (fun S => wS o S n) m (j + 1) = (if wS o j n < m then muF (fun S => wS o S n) m j else match muF (fun S => wS o S n) m j with
        | none => some (j, wS o j n)
        | some (b, g) => if pcN j 12 < pcN b 12 ∨ (pcN j 12 = pcN b 12 ∧ wS o j n < g) then some (j, wS o j n) else some (b, g)) := rfl
      refine And.intro (fun q => ?_) (fun q => ?_)
      · have q := (nI_ltI (by omega) (by omega)).mp q
        refine go ?_
        rw [um, if_pos q]
        exact h2
      · have q : ¬ wS o j n < m := fun z => q ((nI_ltI (by omega) (by omega)).mpr z)
        rw [if_neg q] at um
        rcases h2 with ⟨h2, rfl⟩ | ⟨b, g, h2, rfl, rfl⟩
        · rw [h2] at um
          refine And.intro (fun _ => ?_) (fun z => absurd rfl z)
          exact go (Or.inr ⟨j, wS o j n, um, rfl, rfl⟩)
        · rw [h2] at um
          have um : muF (fun S => wS o S n) m (j + 1) = (if pcN j 12 < pcN b 12 ∨ (pcN j 12 = pcN b 12 ∧ wS o j n < g) then some (j, wS o j n) else some (b, g)) := um
          obtain ⟨b1, b2⟩ := muF_lt h2
          have b2 : g = wS o b n := b2
          have g1 := wle b
          have p1 := pcN_le (S := j) 12
          have p2 := pcN_le (S := b) 12
          refine And.intro (fun z => absurd z (n2 b (by omega))) (fun _ => ?_)
          refine call0 (e_X12_bits (S := j)) rfl rfl ?_
          rintro r h' ⟨rfl, rfl⟩
          refine call0 (e_X12_bits (S := b)) rfl rfl ?_
          rintro r h' ⟨rfl, rfl⟩
          refine And.intro (fun r => ?_) (fun r => ?_)
          · have r := (nI_ltI (by omega) (by omega)).mp r
            rw [if_neg (by omega)] at um
            exact go (Or.inr ⟨b, g, um, rfl, rfl⟩)
          · have r : ¬ pcN b 12 < pcN j 12 := fun z => r ((nI_ltI (by omega) (by omega)).mpr z)
            refine call0 (e_X12_bits (S := j)) rfl rfl ?_
            rintro r h' ⟨rfl, rfl⟩
            refine call0 (e_X12_bits (S := b)) rfl rfl ?_
            rintro r h' ⟨rfl, rfl⟩
            refine And.intro (fun t => ?_) (fun t => ?_)
            · have t := (nI_eq (by omega) (by omega)).mp t
              refine And.intro (fun v => ?_) (fun v => ?_)
              · have v := (nI_ltI (by omega) (by omega)).mp v
                rw [if_pos (Or.inr ⟨t, v⟩)] at um
                exact go (Or.inr ⟨j, wS o j n, um, rfl, rfl⟩)
              · have v : ¬ wS o j n < g := fun z => v ((nI_ltI (by omega) (by omega)).mpr z)
                rw [if_neg (by omega)] at um
                exact go (Or.inr ⟨b, g, um, rfl, rfl⟩)
            · have t : ¬ pcN j 12 = pcN b 12 := fun z => t ((nI_eq (by omega) (by omega)).mpr z)
              rw [if_pos (by omega)] at um
              exact go (Or.inr ⟨j, wS o j n, um, rfl, rfl⟩)
set_option maxRecDepth 100000 in
theorem c_X8_isBetterLoad {l : Launch} {Rid_tape : List (Option Nat)} {Rid_fewest Rid_got : Nat → Int32}  {j t b g : Nat} (hj : j < 4096) (hb : b < 4096) (ht : t < 10000) (hg : g < 10000) : MetP l 1 yX8_isBetterLoad cX8_isBetterLoad 4 (some .boolean) 0 0 [.inr (some (.inl 0)), .inl (nI j), .inl (nI t)] [.inr (7, [.inr (some (.inr Rid_tape)), .inr (some (.inl 1)), .inr (some (.inl 2)), .inl ((nI b)), .inl ((nI g))]), .inl (0, 601, Rid_fewest), .inl (0, 6, Rid_got)] (fun r h' => r = some (.inl (bI (pcN j 12 < pcN b 12 ∨ (pcN j 12 = pcN b 12 ∧ t < g)))) ∧ h' = [.inr (7, [.inr (some (.inr Rid_tape)), .inr (some (.inl 1)), .inr (some (.inl 2)), .inl ((nI b)), .inl ((nI g))]), .inl (0, 601, Rid_fewest), .inl (0, 6, Rid_got)]) := by
  have p1 := pcN_le (S := j) 12
  have p2 := pcN_le (S := b) 12
  have e := sub_i (a := pcN b 12) (b := pcN j 12) (by omega) (by omega)
  have z0 : (0 : Int32).toInt = 0 := rfl
  refine m_X8_isBetterLoad (Nat.le_of_ble_eq_true rfl) ?_
  refine call0 (c_bitCount hb) rfl rfl ?_
  rintro r h' ⟨rfl, rfl⟩
  refine call0 (c_bitCount hj) rfl rfl ?_
  rintro r h' ⟨rfl, rfl⟩
  refine And.intro (fun (q : (0 : Int32) < f_sub (nI (pcN b 12)) (nI (pcN j 12))) => ?_) (fun (q : ¬ (0 : Int32) < f_sub (nI (pcN b 12)) (nI (pcN j 12))) => ?_)
  · have q := Int32.lt_iff_toInt_lt.mp q
    exact And.intro (Or.inr rfl) (by rw [bI_t (Or.inl (by omega))]; exact ⟨rfl, rfl⟩)
  · have q : ¬ pcN j 12 < pcN b 12 := fun z => q (Int32.lt_iff_toInt_lt.mpr (by omega))
    refine And.intro (fun (r : f_sub (nI (pcN b 12)) (nI (pcN j 12)) = 0) => ?_) (fun (r : ¬ f_sub (nI (pcN b 12)) (nI (pcN j 12)) = 0) => ?_)
    · have r := congrArg Int32.toInt r
      refine And.intro (fun v => ?_) (fun v => ?_)
      · have v := (nI_leI (by omega) (by omega)).mp v
        exact And.intro (Or.inl rfl) (by rw [bI_f (by omega)]; exact ⟨rfl, rfl⟩)
      · have v : t < g := Nat.lt_of_not_le fun z => v ((nI_leI (by omega) (by omega)).mpr z)
        exact And.intro (Or.inr rfl) (by rw [bI_t (Or.inr ⟨by omega, v⟩)]; exact ⟨rfl, rfl⟩)
    · have r : ¬ pcN j 12 = pcN b 12 := fun z => r (i32eq.mpr (by omega))
      exact And.intro (Or.inl rfl) (by rw [bI_f (by omega)]; exact ⟨rfl, rfl⟩)
theorem n1_n {b : Nat} (hb : b < 4096) : ¬ nI b = -1 := fun z => by
  have := congrArg Int32.toInt z
  rw [nI_toInt (by omega)] at this
  have e : (-1 : Int32).toInt = -1 := rfl
  omega
set_option maxRecDepth 100000 in
theorem c_X8_loadMule {l : Launch} {Rid_bits Rid_grains : Int32} {Rid_fewest Rid_got Tape_bytes : Nat → Int32}  {o : Nat → Nat} {n s m : Nat} (hn1 : 1 ≤ n) (hn : n ≤ 12) (hm : m ≤ 3060) (hs : s ≤ 260) (hns : n ≤ s) (hb : ∀ i, i < n → o i ≤ 255 ∧ Tape_bytes i = nI (o i)) : MetP l 3 yX8_loadMule cX8_loadMule 5 (some .boolean) 0 0 [.inr (some (.inl 0)), .inl (nI n), .inl (nI m)] [.inr (7, [.inr (some (.inl 3)), .inr (some (.inl 1)), .inr (some (.inl 2)), .inl Rid_bits, .inl Rid_grains]), .inl (0, 601, Rid_fewest), .inl (0, 6, Rid_got), .inr (9, [.inr (some (.inl 4)), .inl ((nI s))]), .inl (0, 260, Tape_bytes)] (fun r h' => ∃ x y : Int32, ((muF (fun S => wS o S n) m (2 ^ n) = none ∧ r = some (.inl 0)) ∨ ∃ b g, muF (fun S => wS o S n) m (2 ^ n) = some (b, g) ∧ r = some (.inl 1) ∧ x = nI b ∧ y = nI g) ∧ h' = [.inr (7, [.inr (some (.inl 3)), .inr (some (.inl 1)), .inr (some (.inl 2)), .inl x, .inl y]), .inl (0, 601, Rid_fewest), .inl (0, 6, Rid_got), .inr (9, [.inr (some (.inl 4)), .inl ((nI s))]), .inl (0, 260, Tape_bytes)]) := by
  have pw := pw_le n (by omega)
  have ho : ∀ i, i < n → o i ≤ 255 := fun i hi => (hb i hi).1
  have wle : ∀ S, wS o S n ≤ 3060 := fun S => by have := wS_le (o := o) (S := S) ho; omega
  refine m_X8_loadMule (fun μ L st h => ∃ (j : Nat) (x y : Int32) (z : Option PV), μ = 2 ^ n - j ∧ j ≤ 2 ^ n ∧ ((muF (fun S => wS o S n) m j = none ∧ x = -1) ∨ ∃ b g, muF (fun S => wS o S n) m j = some (b, g) ∧ x = nI b ∧ y = nI g) ∧ L = [some (.inr (some (.inl 0))), some (.inl (nI n)), some (.inl (nI m)), some (.inl (nI j)), z] ∧ st = [] ∧ h = [.inr (7, [.inr (some (.inl 3)), .inr (some (.inl 1)), .inr (some (.inl 2)), .inl x, .inl y]), .inl (0, 601, Rid_fewest), .inl (0, 6, Rid_got), .inr (9, [.inr (some (.inl 4)), .inl ((nI s))]), .inl (0, 260, Tape_bytes)]) (Nat.le_of_ble_eq_true rfl) ?_ ?_
  · exact ⟨_, 0, -1, Rid_grains, _, rfl, by omega, Or.inl ⟨rfl, rfl⟩, rfl, rfl, rfl⟩
  · rintro μ L st h ⟨j, x, y, z, hμ, h1, h2, rfl, rfl, rfl⟩
    refine And.intro (fun (q1 : f_shl 1 (nI n) ≤ nI j) => ?_) (fun (q1 : ¬ f_shl 1 (nI n) ≤ nI j) => ?_) <;> rw [pw_n n (by omega)] at q1
    · have q1 := (nI_leI (by omega) (by omega)).mp q1
      obtain rfl : j = 2 ^ n := by omega
      rcases h2 with ⟨h2, rfl⟩ | ⟨b, g, h2, rfl, rfl⟩
      · refine And.intro (fun _ => ?_) (fun z => absurd rfl z)
        exact And.intro (Or.inl rfl) ⟨_, _, Or.inl ⟨h2, rfl⟩, rfl⟩
      · have hb4 := muF_lt h2
        refine And.intro (fun z => absurd z (n1_n (by omega))) (fun _ => ?_)
        exact And.intro (Or.inr rfl) ⟨_, _, Or.inr ⟨b, g, h2, rfl, rfl, rfl⟩, rfl⟩
    · have q1 : j < 2 ^ n := Nat.lt_of_not_le fun z => q1 ((nI_leI (by omega) (by omega)).mpr z)
      have wj := wle j
      refine call0 (c_X8_weightOf (o := o) (S := j) (n := n) (s := s) (by omega) hs hns hb) rfl rfl ?_
      rintro r h' ⟨rfl, rfl⟩
      have go : ∀ {x' y' : Int32}, ((muF (fun S => wS o S n) m (j + 1) = none ∧ x' = -1) ∨ ∃ b g, muF (fun S => wS o S n) m (j + 1) = some (b, g) ∧ x' = nI b ∧ y' = nI g) → ∃ μ', μ' < μ ∧ ∃ (j2 : Nat) (x2 y2 : Int32) (z2 : Option PV), μ' = 2 ^ n - j2 ∧ j2 ≤ 2 ^ n ∧ ((muF (fun S => wS o S n) m j2 = none ∧ x2 = -1) ∨ ∃ b g, muF (fun S => wS o S n) m j2 = some (b, g) ∧ x2 = nI b ∧ y2 = nI g) ∧ ([some (.inr (some (.inl 0))), some (.inl (nI n)), some (.inl (nI m)), some (.inl (f_add (nI j) 1)), some (.inl (nI (wS o j n)))] : PL) = [some (.inr (some (.inl 0))), some (.inl (nI n)), some (.inl (nI m)), some (.inl (nI j2)), z2] ∧ ([] : List PV) = [] ∧ ([.inr (7, [.inr (some (.inl 3)), .inr (some (.inl 1)), .inr (some (.inl 2)), .inl (x'), .inl (y')]), .inl (0, 601, Rid_fewest), .inl (0, 6, Rid_got), .inr (9, [.inr (some (.inl 4)), .inl ((nI s))]), .inl (0, 260, Tape_bytes)] : PH) = [.inr (7, [.inr (some (.inl 3)), .inr (some (.inl 1)), .inr (some (.inl 2)), .inl x2, .inl y2]), .inl (0, 601, Rid_fewest), .inl (0, 6, Rid_got), .inr (9, [.inr (some (.inl 4)), .inl ((nI s))]), .inl (0, 260, Tape_bytes)] := fun {x' y'} hq => ⟨2 ^ n - (j + 1), by omega, j + 1, x', y', _, rfl, by omega, hq, by rw [← nI_1 j] <;> rfl, rfl, rfl⟩
      have um : muF (fun S => wS o S n) m (j + 1) = (if wS o j n < m then muF (fun S => wS o S n) m j else match muF (fun S => wS o S n) m j with
        | none => some (j, wS o j n)
        | some (b, g) => if pcN j 12 < pcN b 12 ∨ (pcN j 12 = pcN b 12 ∧ wS o j n < g) then some (j, wS o j n) else some (b, g)) := rfl
      refine And.intro (fun q => ?_) (fun q => ?_)
      · have q := (nI_ltI (by omega) (by omega)).mp q
        refine go ?_
        rw [um, if_pos q]
        exact h2
      · have q : ¬ wS o j n < m := fun z => q ((nI_ltI (by omega) (by omega)).mpr z)
        rw [if_neg q] at um
        rcases h2 with ⟨h2, rfl⟩ | ⟨b, g, h2, rfl, rfl⟩
        · rw [h2] at um
          refine And.intro (fun _ => ?_) (fun z => absurd rfl z)
          exact go (Or.inr ⟨j, wS o j n, um, rfl, rfl⟩)
        · rw [h2] at um
          have um : muF (fun S => wS o S n) m (j + 1) = (if pcN j 12 < pcN b 12 ∨ (pcN j 12 = pcN b 12 ∧ wS o j n < g) then some (j, wS o j n) else some (b, g)) := um
          obtain ⟨b1, b2⟩ := muF_lt h2
          have b2 : g = wS o b n := b2
          have g1 := wle b
          refine And.intro (fun z => absurd z (n1_n (by omega))) (fun _ => ?_)
          refine call0 (c_X8_isBetterLoad (j := j) (t := wS o j n) (b := b) (g := g) (by omega) (by omega) (by omega) (by omega)) rfl rfl ?_
          rintro r h' ⟨rfl, rfl⟩
          refine br_b (fun r => ?_) (fun r => ?_)
          · rw [if_neg r] at um
            exact go (Or.inr ⟨b, g, um, rfl, rfl⟩)
          · rw [if_pos r] at um
            exact go (Or.inr ⟨j, wS o j n, um, rfl, rfl⟩)
set_option maxRecDepth 100000 in
theorem c_X11_sizeOrBits {l : Launch} {b w : Nat} (hb : b < 4096) (hw : w ≤ 1) : MetP l 1 yX11_sizeOrBits cX11_sizeOrBits 2 (some .int) 0 0 [.inl (nI b), .inl (nI w)] [] (fun r h' => r = some (.inl (if w = 0 then nI (pcN b 12) else nI b)) ∧ h' = []) := by
  refine m_X11_sizeOrBits (Nat.le_of_ble_eq_true rfl) ?_
  refine And.intro (fun q => ?_) (fun _ => ?_)
  · exact absurd ((nI_ltI (b := 0) (by omega) (by omega)).mp q) (by omega)
  · rcases (by omega : w = 0 ∨ w = 1) with rfl | rfl
    · refine And.intro (fun z => absurd z (by show ¬ ((_ : Int32) = _); decide)) (fun _ => ?_)
      refine call0 (c_bitCount hb) rfl rfl ?_
      rintro r h' ⟨rfl, rfl⟩
      exact ⟨rfl, rfl⟩
    · refine And.intro (fun _ => ⟨rfl, rfl⟩) (fun z => absurd rfl z)
set_option maxRecDepth 100000 in
theorem c_X11_mule {l : Launch} {HS_republic HS_now HS_kept HS_trial HS_clerk HS_crew HS_sheetReader HS_postReader HS_lawReader HS_seen HS_rules HS_spareRules : List (Option Nat)} {HS_wasKept Rid_bits Rid_grains : Int32} {Tape_bytes Rid_fewest Rid_got : Nat → Int32}  {o : Nat → Nat} {n s m w : Nat} (hn1 : 1 ≤ n) (hn : n ≤ 12) (hm : m ≤ 3060) (hw : w ≤ 2) (hs : s ≤ 260) (hns : n ≤ s) (hb : ∀ i, i < n → o i ≤ 255 ∧ Tape_bytes i = nI (o i)) : MetP l 4 yX11_mule cX11_mule 5 (some .int) 0 0 [.inr (some (.inl 0)), .inl (nI n), .inl (nI m), .inl (nI w)] [.inr (10, [.inr (some (.inl 1)), .inr (some (.inr HS_republic)), .inr (some (.inr HS_now)), .inr (some (.inr HS_kept)), .inr (some (.inr HS_trial)), .inr (some (.inr HS_clerk)), .inr (some (.inr HS_crew)), .inr (some (.inl 3)), .inr (some (.inr HS_sheetReader)), .inr (some (.inr HS_postReader)), .inr (some (.inr HS_lawReader)), .inr (some (.inr HS_seen)), .inr (some (.inr HS_rules)), .inr (some (.inr HS_spareRules)), .inl HS_wasKept]), .inr (9, [.inr (some (.inl 2)), .inl ((nI s))]), .inl (0, 260, Tape_bytes), .inr (7, [.inr (some (.inl 1)), .inr (some (.inl 4)), .inr (some (.inl 5)), .inl Rid_bits, .inl Rid_grains]), .inl (0, 601, Rid_fewest), .inl (0, 6, Rid_got)] (fun r h' => ∃ b g : Int32, r = some (.inl (muV o n m w)) ∧ h' = [.inr (10, [.inr (some (.inl 1)), .inr (some (.inr HS_republic)), .inr (some (.inr HS_now)), .inr (some (.inr HS_kept)), .inr (some (.inr HS_trial)), .inr (some (.inr HS_clerk)), .inr (some (.inr HS_crew)), .inr (some (.inl 3)), .inr (some (.inr HS_sheetReader)), .inr (some (.inr HS_postReader)), .inr (some (.inr HS_lawReader)), .inr (some (.inr HS_seen)), .inr (some (.inr HS_rules)), .inr (some (.inr HS_spareRules)), .inl HS_wasKept]), .inr (9, [.inr (some (.inl 2)), .inl 0]), .inl (0, 260, Tape_bytes), .inr (7, [.inr (some (.inl 1)), .inr (some (.inl 4)), .inr (some (.inl 5)), .inl b, .inl g]), .inl (0, 601, Rid_fewest), .inl (0, 6, Rid_got)]) := by
  have pw := pw_le n (by omega)
  refine m_X11_mule (Nat.le_of_ble_eq_true rfl) ?_
  refine call0 (c_within) rfl rfl ?_
  rintro r h' ⟨rfl, rfl⟩
  refine br_b (fun z => absurd ((nI_bt (a := 0) (b := 2) (by omega) (by omega) (by omega)).mpr ⟨by omega, hw⟩) z) (fun _ => ?_)
  refine call0 (c_within) rfl rfl ?_
  rintro r h' ⟨rfl, rfl⟩
  refine br_b (fun z => absurd ⟨(nI_leI (a := 0) (by omega) (by omega)).mpr (by omega), (nI_leI (b := 3060) (by omega) (by omega)).mpr hm⟩ z) (fun _ => ?_)
  refine call0 (c_canGive) rfl rfl ?_
  rintro r h' ⟨rfl, rfl⟩
  refine br_b (fun z => absurd ⟨(nI_bt (a := 1) (b := 12) (by omega) (by omega) (by omega)).mpr ⟨hn1, hn⟩, (nI_leI (by omega) (by omega)).mpr hns⟩ z) (fun _ => ?_)
  refine call0 (c_X8_loadMule (o := o) (n := n) (s := s) (m := m) hn1 hn hm hs hns hb) rfl rfl ?_
  rintro r h' ⟨x, y, hp, rfl⟩
  rcases hp with ⟨h2, rfl⟩ | ⟨b, g, h2, rfl, rfl, rfl⟩
  · refine call0 (c_X10_empty) rfl rfl ?_
    rintro r h' ⟨rfl, rfl⟩
    refine And.intro (fun _ => ?_) (fun z => absurd rfl z)
    unfold muV
    rw [h2]
    exact ⟨_, _, rfl, rfl⟩
  · have hb4 := muF_lt h2
    refine call0 (c_X10_empty) rfl rfl ?_
    rintro r h' ⟨rfl, rfl⟩
    refine And.intro (fun z => absurd z (by show ¬ ((_ : Int32) = _); decide)) (fun _ => ?_)
    rcases (by omega : w = 0 ∨ w = 1 ∨ w = 2) with rfl | rfl | rfl
    · refine And.intro (fun z => absurd z (by show ¬ ((_ : Int32) = _); decide)) (fun _ => ?_)
      refine call0 (c_X8_bits) rfl rfl ?_
      rintro r h' ⟨rfl, rfl⟩
      refine call0 (c_X11_sizeOrBits (b := b) (w := 0) (by omega) (by omega)) rfl rfl ?_
      rintro r h' ⟨rfl, rfl⟩
      unfold muV
      rw [h2]
      exact ⟨_, _, rfl, rfl⟩
    · refine And.intro (fun z => absurd z (by show ¬ ((_ : Int32) = _); decide)) (fun _ => ?_)
      refine call0 (c_X8_bits) rfl rfl ?_
      rintro r h' ⟨rfl, rfl⟩
      refine call0 (c_X11_sizeOrBits (b := b) (w := 1) (by omega) (by omega)) rfl rfl ?_
      rintro r h' ⟨rfl, rfl⟩
      unfold muV
      rw [h2]
      exact ⟨_, _, rfl, rfl⟩
    · refine And.intro (fun _ => ?_) (fun z => absurd rfl z)
      refine call0 (c_X8_grains) rfl rfl ?_
      rintro r h' ⟨rfl, rfl⟩
      unfold muV
      rw [h2]
      exact ⟨_, _, rfl, rfl⟩

