/-! ===== the other side reads a post, exactly ===== -/
theorem hd_dg {tp : Nat → Int32} {b : Nat → Nat} {n p : Nat} (hb : txM tp b n) : digV (hereV tp p n) ↔ dg b n p = true := by
  rw [hereV_a hb]
  exact aV_dg (fun i hi => (hb i hi).1)
theorem hd_eq {tp : Nat → Int32} {b : Nat → Nat} {n p k : Nat} (hb : txM tp b n) (hk : k ≤ 255) : hereV tp p n = nI k ↔ hr b n p = k := by
  rw [hereV_a hb]
  exact aV_eq (fun i hi => (hb i hi).1) hk
/-- LETTERS that are told, as this side holds them -/
abbrev tdM (nw : Nat → Int32) (T : Nat) : Prop := ∀ i, i < 8 → nw i = nI (if T.testBit i = true then 1 else 0)
theorem tdM_1 {nw : Nat → Int32} {T i : Nat} (h : tdM nw T) (hi : i < 8) : nw i = 1 ↔ T.testBit i = true := by
  rw [h i hi]
  cases T.testBit i
  · exact ⟨fun z => absurd z (by decide), fun z => absurd z (by decide)⟩
  · exact ⟨fun _ => rfl, fun _ => rfl⟩
theorem tdM_up {nw : Nat → Int32} {T k : Nat} {x : Int32} (h : tdM nw T) (hk : 8 ≤ k) : tdM (upd nw k x) T := fun i hi => by
  rw [upd_nI (by omega)]
  exact h i hi
theorem tdM_lay {nw : Nat → Int32} {T t : Nat} (h : tdM nw T) : tdM (upd nw t 1) (T ||| 2 ^ t) := fun i hi => by
  rw [tb_or]
  by_cases e : i = t
  · subst e
    rw [upd_sI, decide_eq_true rfl, Bool.or_true]
    rfl
  · rw [upd_nI e, decide_eq_false (fun z => e z.symm), Bool.or_false]
    exact h i hi
theorem x_X12_readsWithin {l : Launch} {M_now M_aside M_kept M_mintAt M_mintOf M_wholeOf M_isWall M_wasWall M_said M_waitsAt M_saidLetter M_saidFrom M_saidHalf M_saidTo M_codes M_clauseOf M_codeFrom M_codeHalf M_codeTo M_stack M_facts M_newStamps M_roundFrom M_roundAt M_roundTimes M_usesNow M_wasAt M_someOf M_fewestFor M_getsOf : List (Option Nat)} {M_stampMany M_taped M_place0 M_fault M_number0 M_open M_codeMany M_waiting M_saidMany M_clauses M_newMany M_rounds M_stampFrom M_stampTimes M_lines M_spot0 M_pullAcross M_pullAlong M_stepsNow M_fallenNow M_isKept : Int32} {M_tape : Nat → Int32}  {b : Nat → Nat} {hi : Int32} {p n m k : Nat} (eP : M_place0 = nI p) (hp : p ≤ n) (hn : n ≤ 240) (hm : ∀ v, v ≤ 99 → (nI v ≤ hi ↔ v < m)) (hb : txM M_tape b n) : MetP l 2 yX12_readsWithin cX12_readsWithin 4 (some .boolean) 0 0 [.inr (some (.inl 0)), .inl hi, .inl (nI k)] [.inr (11, [.inr (some (.inr M_now)), .inr (some (.inr M_aside)), .inr (some (.inr M_kept)), .inr (some (.inr M_mintAt)), .inr (some (.inr M_mintOf)), .inr (some (.inr M_wholeOf)), .inr (some (.inr M_isWall)), .inr (some (.inr M_wasWall)), .inl M_stampMany, .inr (some (.inl 1)), .inl M_taped, .inl M_place0, .inl ((nI n)), .inl M_fault, .inl M_number0, .inl M_open, .inl M_codeMany, .inl M_waiting, .inl M_saidMany, .inl M_clauses, .inr (some (.inr M_said)), .inr (some (.inr M_waitsAt)), .inr (some (.inr M_saidLetter)), .inr (some (.inr M_saidFrom)), .inr (some (.inr M_saidHalf)), .inr (some (.inr M_saidTo)), .inr (some (.inr M_codes)), .inr (some (.inr M_clauseOf)), .inr (some (.inr M_codeFrom)), .inr (some (.inr M_codeHalf)), .inr (some (.inr M_codeTo)), .inr (some (.inr M_stack)), .inr (some (.inr M_facts)), .inr (some (.inr M_newStamps)), .inr (some (.inr M_roundFrom)), .inr (some (.inr M_roundAt)), .inr (some (.inr M_roundTimes)), .inl M_newMany, .inl M_rounds, .inl M_stampFrom, .inl M_stampTimes, .inl M_lines, .inl M_spot0, .inl M_pullAcross, .inl M_pullAlong, .inl M_stepsNow, .inl M_fallenNow, .inr (some (.inr M_usesNow)), .inr (some (.inr M_wasAt)), .inr (some (.inr M_someOf)), .inr (some (.inr M_fewestFor)), .inr (some (.inr M_getsOf)), .inl M_isKept]), .inl (1, 260, M_tape)] (fun r h' => (∃ (v q : Nat), nmR b n p m k = .inr (v, q) ∧ r = some (.inl 1) ∧ h' = [.inr (11, [.inr (some (.inr M_now)), .inr (some (.inr M_aside)), .inr (some (.inr M_kept)), .inr (some (.inr M_mintAt)), .inr (some (.inr M_mintOf)), .inr (some (.inr M_wholeOf)), .inr (some (.inr M_isWall)), .inr (some (.inr M_wasWall)), .inl M_stampMany, .inr (some (.inl 1)), .inl M_taped, .inl ((nI q)), .inl ((nI n)), .inl M_fault, .inl ((nI v)), .inl M_open, .inl M_codeMany, .inl M_waiting, .inl M_saidMany, .inl M_clauses, .inr (some (.inr M_said)), .inr (some (.inr M_waitsAt)), .inr (some (.inr M_saidLetter)), .inr (some (.inr M_saidFrom)), .inr (some (.inr M_saidHalf)), .inr (some (.inr M_saidTo)), .inr (some (.inr M_codes)), .inr (some (.inr M_clauseOf)), .inr (some (.inr M_codeFrom)), .inr (some (.inr M_codeHalf)), .inr (some (.inr M_codeTo)), .inr (some (.inr M_stack)), .inr (some (.inr M_facts)), .inr (some (.inr M_newStamps)), .inr (some (.inr M_roundFrom)), .inr (some (.inr M_roundAt)), .inr (some (.inr M_roundTimes)), .inl M_newMany, .inl M_rounds, .inl M_stampFrom, .inl M_stampTimes, .inl M_lines, .inl M_spot0, .inl M_pullAcross, .inl M_pullAlong, .inl M_stepsNow, .inl M_fallenNow, .inr (some (.inr M_usesNow)), .inr (some (.inr M_wasAt)), .inr (some (.inr M_someOf)), .inr (some (.inr M_fewestFor)), .inr (some (.inr M_getsOf)), .inl M_isKept]), .inl (1, 260, M_tape)]) ∨ (∃ (g a q : Nat) (w : Int32), nmR b n p m k = .inl (g, a) ∧ q ≤ n ∧ r = some (.inl 0) ∧ h' = [.inr (11, [.inr (some (.inr M_now)), .inr (some (.inr M_aside)), .inr (some (.inr M_kept)), .inr (some (.inr M_mintAt)), .inr (some (.inr M_mintOf)), .inr (some (.inr M_wholeOf)), .inr (some (.inr M_isWall)), .inr (some (.inr M_wasWall)), .inl M_stampMany, .inr (some (.inl 1)), .inl M_taped, .inl ((nI q)), .inl ((nI n)), .inl ((ftV g a)), .inl w, .inl M_open, .inl M_codeMany, .inl M_waiting, .inl M_saidMany, .inl M_clauses, .inr (some (.inr M_said)), .inr (some (.inr M_waitsAt)), .inr (some (.inr M_saidLetter)), .inr (some (.inr M_saidFrom)), .inr (some (.inr M_saidHalf)), .inr (some (.inr M_saidTo)), .inr (some (.inr M_codes)), .inr (some (.inr M_clauseOf)), .inr (some (.inr M_codeFrom)), .inr (some (.inr M_codeHalf)), .inr (some (.inr M_codeTo)), .inr (some (.inr M_stack)), .inr (some (.inr M_facts)), .inr (some (.inr M_newStamps)), .inr (some (.inr M_roundFrom)), .inr (some (.inr M_roundAt)), .inr (some (.inr M_roundTimes)), .inl M_newMany, .inl M_rounds, .inl M_stampFrom, .inl M_stampTimes, .inl M_lines, .inl M_spot0, .inl M_pullAcross, .inl M_pullAlong, .inl M_stepsNow, .inl M_fallenNow, .inr (some (.inr M_usesNow)), .inr (some (.inr M_wasAt)), .inr (some (.inr M_someOf)), .inr (some (.inr M_fewestFor)), .inr (some (.inr M_getsOf)), .inl M_isKept]), .inl (1, 260, M_tape)])) := by
  subst eP
  refine m_X12_readsWithin (fun μ L st h => ∃ (i v : Nat), μ = 2 - i ∧ i ≤ 2 ∧ p + i ≤ n ∧ ((i = 0 ∧ v = 0 ∧ dg b n p = true) ∨ (i = 1 ∧ dg b n p = true ∧ v = hr b n p - 48) ∨ (i = 2 ∧ dg b n p = true ∧ dg b n (p + 1) = true ∧ v = 10 * (hr b n p - 48) + (hr b n (p + 1) - 48))) ∧ L = [some (.inr (some (.inl 0))), some (.inl hi), some (.inl (nI k)), some (.inl (nI p))] ∧ st = [] ∧ h = [.inr (11, [.inr (some (.inr M_now)), .inr (some (.inr M_aside)), .inr (some (.inr M_kept)), .inr (some (.inr M_mintAt)), .inr (some (.inr M_mintOf)), .inr (some (.inr M_wholeOf)), .inr (some (.inr M_isWall)), .inr (some (.inr M_wasWall)), .inl M_stampMany, .inr (some (.inl 1)), .inl M_taped, .inl ((nI (p + i))), .inl ((nI n)), .inl M_fault, .inl ((nI v)), .inl M_open, .inl M_codeMany, .inl M_waiting, .inl M_saidMany, .inl M_clauses, .inr (some (.inr M_said)), .inr (some (.inr M_waitsAt)), .inr (some (.inr M_saidLetter)), .inr (some (.inr M_saidFrom)), .inr (some (.inr M_saidHalf)), .inr (some (.inr M_saidTo)), .inr (some (.inr M_codes)), .inr (some (.inr M_clauseOf)), .inr (some (.inr M_codeFrom)), .inr (some (.inr M_codeHalf)), .inr (some (.inr M_codeTo)), .inr (some (.inr M_stack)), .inr (some (.inr M_facts)), .inr (some (.inr M_newStamps)), .inr (some (.inr M_roundFrom)), .inr (some (.inr M_roundAt)), .inr (some (.inr M_roundTimes)), .inl M_newMany, .inl M_rounds, .inl M_stampFrom, .inl M_stampTimes, .inl M_lines, .inl M_spot0, .inl M_pullAcross, .inl M_pullAlong, .inl M_stepsNow, .inl M_fallenNow, .inr (some (.inr M_usesNow)), .inr (some (.inr M_wasAt)), .inr (some (.inr M_someOf)), .inr (some (.inr M_fewestFor)), .inr (some (.inr M_getsOf)), .inl M_isKept]), .inl (1, 260, M_tape)]) (Nat.le_of_ble_eq_true rfl) ?_ ?_
  · refine call0 (c_X12_isDigit (p := p) (n := n) (by omega) hn) rfl rfl ?_
    rintro r h' ⟨rfl, rfl⟩
    refine br_b (fun hd => ?_) (fun hd => ?_)
    · have w : ¬ dg b n p = true := fun z => hd ((hd_dg hb).mpr z)
      refine call0 (c_X12_wrongAt) rfl rfl ?_
      rintro r h' ⟨rfl, rfl⟩
      exact And.intro (Or.inl rfl) (Or.inr ⟨1, p, p, M_number0, if_neg w, hp, rfl, rfl⟩)
    · exact ⟨_, 0, 0, rfl, by omega, hp, Or.inl ⟨rfl, rfl, (hd_dg hb).mp hd⟩, rfl, rfl, rfl⟩
  · rintro μ L st h ⟨i, v, hμ, h1, h3, h4, rfl, rfl, rfl⟩
    refine call0 (c_X12_isDigit (p := p + i) (n := n) (by omega) hn) rfl rfl ?_
    rintro r h' ⟨rfl, rfl⟩
    refine br_b (fun hd => ?_) (fun hd => ?_)
    · have w : ¬ dg b n (p + i) = true := fun z => hd ((hd_dg hb).mpr z)
      have e : nmR b n p m k = nmE v (p + i) m k p ∧ v ≤ 99 := by
        rcases h4 with ⟨rfl, rfl, d0⟩ | ⟨rfl, d0, rfl⟩ | ⟨rfl, d0, d1, rfl⟩
        · exact absurd d0 w
        · have g0 := dg_t.mp d0
          refine ⟨?_, by omega⟩
          unfold nmR
          rw [if_pos d0, if_neg w]
        · have g0 := dg_t.mp d0
          have g1 := dg_t.mp d1
          refine ⟨?_, by omega⟩
          unfold nmR
          rw [if_pos d0, if_pos d1, if_neg w]
      obtain ⟨e, v9⟩ := e
      unfold nmE at e
      refine And.intro (fun (w1 : nI v ≤ hi) => ?_) (fun (w1 : ¬ nI v ≤ hi) => ?_)
      · rw [if_pos ((hm v v9).mp w1)] at e
        exact And.intro (Or.inr rfl) (Or.inl ⟨v, p + i, e, rfl, rfl⟩)
      · rw [if_neg (fun z => w1 ((hm v v9).mpr z))] at e
        refine call0 (c_X12_wrongAt) rfl rfl ?_
        rintro r h' ⟨rfl, rfl⟩
        exact And.intro (fun _ => And.intro (Or.inl rfl) (Or.inr ⟨k, p, p + i, nI v, e, h3, rfl, rfl⟩)) (fun z => absurd rfl z)
    · have w := (hd_dg hb).mp hd
      have ql := dg_lt w
      refine And.intro (fun (he : nI (p + i) = f_add (nI p) 2) => ?_) (fun (he : ¬ nI (p + i) = f_add (nI p) 2) => ?_)
      · have he := (nI_eq (by omega) (by omega)).mp (he.trans (show f_add (nI p) 2 = nI (p + 2) from nI_add p 2))
        rcases h4 with ⟨rfl, _⟩ | ⟨rfl, _⟩ | ⟨rfl, d0, d1, rfl⟩
        · omega
        · omega
        · refine call0 (c_X12_wrongAt) rfl rfl ?_
          rintro r h' ⟨rfl, rfl⟩
          exact And.intro (Or.inl rfl) (Or.inr ⟨2, p + 2, p + 2, _, by unfold nmR; rw [if_pos d0, if_pos d1, if_pos w], h3, rfl, rfl⟩)
      · have he : ¬ i = 2 := fun z => he (by
          rw [z]
          exact (nI_add p 2).symm)
        refine call0 (c_X12_here (p := p + i) (n := n) (by omega) hn) rfl rfl ?_
        rintro r h' ⟨rfl, rfl⟩
        have en : f_sub (f_add (f_mul 10 (nI v)) (hereV M_tape (p + i) n)) 48 = nI (10 * v + (hr b n (p + i) - 48)) := by
          rw [hereV_a hb]
          exact dig_k w
        rcases h4 with ⟨rfl, rfl, d0⟩ | ⟨rfl, d0, rfl⟩ | ⟨rfl, d0, d1, rfl⟩
        · refine ⟨1, by omega, 1, hr b n p - 48, rfl, by omega, ql, Or.inr (Or.inl ⟨rfl, d0, rfl⟩), rfl, rfl, ?_⟩
          have e1 : nI (hr b n p - 48) = f_sub (f_add (f_mul 10 (nI 0)) (hereV M_tape (p + 0) n)) 48 := by
            rw [en, Nat.mul_zero, Nat.zero_add]
            rfl
          rw [e1, ← nI_1 p] <;> rfl
        · refine ⟨0, by omega, 2, 10 * (hr b n p - 48) + (hr b n (p + 1) - 48), rfl, by omega, ql, Or.inr (Or.inr ⟨rfl, d0, w, rfl⟩), rfl, rfl, ?_⟩
          rw [← en, show nI (p + 2) = f_add (nI (p + 1)) 1 from (nI_1 (p + 1)).symm] <;> rfl
        · exact absurd rfl he
theorem x_X12_readsSpot {l : Launch} {M_now M_aside M_kept M_mintAt M_mintOf M_wholeOf M_isWall M_wasWall M_said M_waitsAt M_saidLetter M_saidFrom M_saidHalf M_saidTo M_codes M_clauseOf M_codeFrom M_codeHalf M_codeTo M_stack M_facts M_newStamps M_roundFrom M_roundAt M_roundTimes M_usesNow M_wasAt M_someOf M_fewestFor M_getsOf : List (Option Nat)} {M_stampMany M_taped M_place0 M_fault M_number0 M_open M_codeMany M_waiting M_saidMany M_clauses M_newMany M_rounds M_stampFrom M_stampTimes M_lines M_spot0 M_pullAcross M_pullAlong M_stepsNow M_fallenNow M_isKept : Int32} {M_tape : Nat → Int32}  {b : Nat → Nat} {p n : Nat} (eP : M_place0 = nI p) (hp : p ≤ n) (hn : n ≤ 240) (hb : txM M_tape b n) : MetP l 3 yX12_readsSpot cX12_readsSpot 2 (some .boolean) 0 0 [.inr (some (.inl 0))] [.inr (11, [.inr (some (.inr M_now)), .inr (some (.inr M_aside)), .inr (some (.inr M_kept)), .inr (some (.inr M_mintAt)), .inr (some (.inr M_mintOf)), .inr (some (.inr M_wholeOf)), .inr (some (.inr M_isWall)), .inr (some (.inr M_wasWall)), .inl M_stampMany, .inr (some (.inl 1)), .inl M_taped, .inl M_place0, .inl ((nI n)), .inl M_fault, .inl M_number0, .inl M_open, .inl M_codeMany, .inl M_waiting, .inl M_saidMany, .inl M_clauses, .inr (some (.inr M_said)), .inr (some (.inr M_waitsAt)), .inr (some (.inr M_saidLetter)), .inr (some (.inr M_saidFrom)), .inr (some (.inr M_saidHalf)), .inr (some (.inr M_saidTo)), .inr (some (.inr M_codes)), .inr (some (.inr M_clauseOf)), .inr (some (.inr M_codeFrom)), .inr (some (.inr M_codeHalf)), .inr (some (.inr M_codeTo)), .inr (some (.inr M_stack)), .inr (some (.inr M_facts)), .inr (some (.inr M_newStamps)), .inr (some (.inr M_roundFrom)), .inr (some (.inr M_roundAt)), .inr (some (.inr M_roundTimes)), .inl M_newMany, .inl M_rounds, .inl M_stampFrom, .inl M_stampTimes, .inl M_lines, .inl M_spot0, .inl M_pullAcross, .inl M_pullAlong, .inl M_stepsNow, .inl M_fallenNow, .inr (some (.inr M_usesNow)), .inr (some (.inr M_wasAt)), .inr (some (.inr M_someOf)), .inr (some (.inr M_fewestFor)), .inr (some (.inr M_getsOf)), .inl M_isKept]), .inl (1, 260, M_tape)] (fun r h' => (∃ (v q : Nat) (w : Int32), spR b n p = .inr (v, q) ∧ r = some (.inl 1) ∧ h' = [.inr (11, [.inr (some (.inr M_now)), .inr (some (.inr M_aside)), .inr (some (.inr M_kept)), .inr (some (.inr M_mintAt)), .inr (some (.inr M_mintOf)), .inr (some (.inr M_wholeOf)), .inr (some (.inr M_isWall)), .inr (some (.inr M_wasWall)), .inl M_stampMany, .inr (some (.inl 1)), .inl M_taped, .inl ((nI q)), .inl ((nI n)), .inl M_fault, .inl w, .inl M_open, .inl M_codeMany, .inl M_waiting, .inl M_saidMany, .inl M_clauses, .inr (some (.inr M_said)), .inr (some (.inr M_waitsAt)), .inr (some (.inr M_saidLetter)), .inr (some (.inr M_saidFrom)), .inr (some (.inr M_saidHalf)), .inr (some (.inr M_saidTo)), .inr (some (.inr M_codes)), .inr (some (.inr M_clauseOf)), .inr (some (.inr M_codeFrom)), .inr (some (.inr M_codeHalf)), .inr (some (.inr M_codeTo)), .inr (some (.inr M_stack)), .inr (some (.inr M_facts)), .inr (some (.inr M_newStamps)), .inr (some (.inr M_roundFrom)), .inr (some (.inr M_roundAt)), .inr (some (.inr M_roundTimes)), .inl M_newMany, .inl M_rounds, .inl M_stampFrom, .inl M_stampTimes, .inl M_lines, .inl ((nI v)), .inl M_pullAcross, .inl M_pullAlong, .inl M_stepsNow, .inl M_fallenNow, .inr (some (.inr M_usesNow)), .inr (some (.inr M_wasAt)), .inr (some (.inr M_someOf)), .inr (some (.inr M_fewestFor)), .inr (some (.inr M_getsOf)), .inl M_isKept]), .inl (1, 260, M_tape)]) ∨ (∃ (g a q : Nat) (w : Int32), spR b n p = .inl (g, a) ∧ q ≤ n ∧ r = some (.inl 0) ∧ h' = [.inr (11, [.inr (some (.inr M_now)), .inr (some (.inr M_aside)), .inr (some (.inr M_kept)), .inr (some (.inr M_mintAt)), .inr (some (.inr M_mintOf)), .inr (some (.inr M_wholeOf)), .inr (some (.inr M_isWall)), .inr (some (.inr M_wasWall)), .inl M_stampMany, .inr (some (.inl 1)), .inl M_taped, .inl ((nI q)), .inl ((nI n)), .inl ((ftV g a)), .inl w, .inl M_open, .inl M_codeMany, .inl M_waiting, .inl M_saidMany, .inl M_clauses, .inr (some (.inr M_said)), .inr (some (.inr M_waitsAt)), .inr (some (.inr M_saidLetter)), .inr (some (.inr M_saidFrom)), .inr (some (.inr M_saidHalf)), .inr (some (.inr M_saidTo)), .inr (some (.inr M_codes)), .inr (some (.inr M_clauseOf)), .inr (some (.inr M_codeFrom)), .inr (some (.inr M_codeHalf)), .inr (some (.inr M_codeTo)), .inr (some (.inr M_stack)), .inr (some (.inr M_facts)), .inr (some (.inr M_newStamps)), .inr (some (.inr M_roundFrom)), .inr (some (.inr M_roundAt)), .inr (some (.inr M_roundTimes)), .inl M_newMany, .inl M_rounds, .inl M_stampFrom, .inl M_stampTimes, .inl M_lines, .inl M_spot0, .inl M_pullAcross, .inl M_pullAlong, .inl M_stepsNow, .inl M_fallenNow, .inr (some (.inr M_usesNow)), .inr (some (.inr M_wasAt)), .inr (some (.inr M_someOf)), .inr (some (.inr M_fewestFor)), .inr (some (.inr M_getsOf)), .inl M_isKept]), .inl (1, 260, M_tape)])) := by
  refine m_X12_readsSpot (Nat.le_of_ble_eq_true rfl) ?_
  refine call0 (x_X12_readsWithin (b := b) (p := p) (n := n) (m := 24) (k := 3) eP hp hn (lim_n (ms := 23) rfl (by omega)) hb) rfl rfl ?_
  rintro r h' (⟨v, q, e1, rfl, rfl⟩ | ⟨g, a, q, w, e1, hq, rfl, rfl⟩)
  · have l1 := nmR_le e1
    refine And.intro (fun z => absurd z (show ¬ (1 : Int32) = 0 by decide)) (fun _ => ?_)
    refine call0 (c_X12_takes (a := 44) (p := q) (n := n) (by omega) hn) rfl rfl ?_
    rintro r h' (⟨w1, rfl, rfl⟩ | ⟨w1, rfl, rfl⟩)
    · have w1 : hr b n q = 44 := (hd_eq (k := 44) hb (by omega)).mp w1
      have pl := hr_lt w1 (by omega)
      refine And.intro (fun z => absurd z (show ¬ (1 : Int32) = 0 by decide)) (fun _ => ?_)
      refine call0 (x_X12_readsWithin (b := b) (p := q + 1) (n := n) (m := 16) (k := 3) rfl (by omega) hn (lim_n (ms := 15) rfl (by omega)) hb) rfl rfl ?_
      rintro r h' (⟨y, s, e2, rfl, rfl⟩ | ⟨g, a, s, w, e2, hs, rfl, rfl⟩)
      · have l2 := nmR_le e2
        refine And.intro (fun z => absurd z (show ¬ (1 : Int32) = 0 by decide)) (fun _ => ?_)
        refine And.intro (Or.inr rfl) (Or.inl ⟨24 * y + v, s, nI y, by unfold spR; rw [e1]; dsimp only; rw [if_pos w1, e2], rfl, ?_⟩)
        have e : f_add (f_mul 24 (nI y)) (nI v) = nI (24 * y + v) := by
          show nI 24 * nI y + nI v = _
          rw [nI_mul, nI_add]
        rw [← e]
      · refine And.intro (fun _ => ?_) (fun z => absurd rfl z)
        exact And.intro (Or.inl rfl) (Or.inr ⟨g, a, s, w, by unfold spR; rw [e1]; dsimp only; rw [if_pos w1, e2], hs, rfl, rfl⟩)
    · have w1 : ¬ hr b n q = 44 := fun z => w1 ((hd_eq (k := 44) hb (by omega)).mpr z)
      refine And.intro (fun _ => ?_) (fun z => absurd rfl z)
      exact And.intro (Or.inl rfl) (Or.inr ⟨1, q, q, nI v, by unfold spR; rw [e1]; dsimp only; rw [if_neg w1], by omega, rfl, rfl⟩)
  · refine And.intro (fun _ => ?_) (fun z => absurd rfl z)
    exact And.intro (Or.inl rfl) (Or.inr ⟨g, a, q, w, by unfold spR; rw [e1], hq, rfl, rfl⟩)
theorem x_X12_readsWall {l : Launch} {M_now M_aside M_kept M_mintAt M_mintOf M_wholeOf M_wasWall M_said M_waitsAt M_saidLetter M_saidFrom M_saidHalf M_saidTo M_codes M_clauseOf M_codeFrom M_codeHalf M_codeTo M_stack M_facts M_newStamps M_roundFrom M_roundAt M_roundTimes M_usesNow M_wasAt M_someOf M_fewestFor M_getsOf : List (Option Nat)} {M_stampMany M_taped M_fault M_number0 M_open M_codeMany M_waiting M_saidMany M_clauses M_newMany M_rounds M_stampFrom M_stampTimes M_lines M_spot0 M_pullAcross M_pullAlong M_stepsNow M_fallenNow M_isKept : Int32} {M_isWall M_tape : Nat → Int32}  {b : Nat → Nat} {p n : Nat} (hp : p < n) (hn : n ≤ 240) (hb : txM M_tape b n) : MetP l 4 yX12_readsWall cX12_readsWall 1 (some .boolean) 0 0 [.inr (some (.inl 0))] [.inr (11, [.inr (some (.inr M_now)), .inr (some (.inr M_aside)), .inr (some (.inr M_kept)), .inr (some (.inr M_mintAt)), .inr (some (.inr M_mintOf)), .inr (some (.inr M_wholeOf)), .inr (some (.inl 1)), .inr (some (.inr M_wasWall)), .inl M_stampMany, .inr (some (.inl 2)), .inl M_taped, .inl ((nI p)), .inl ((nI n)), .inl M_fault, .inl M_number0, .inl M_open, .inl M_codeMany, .inl M_waiting, .inl M_saidMany, .inl M_clauses, .inr (some (.inr M_said)), .inr (some (.inr M_waitsAt)), .inr (some (.inr M_saidLetter)), .inr (some (.inr M_saidFrom)), .inr (some (.inr M_saidHalf)), .inr (some (.inr M_saidTo)), .inr (some (.inr M_codes)), .inr (some (.inr M_clauseOf)), .inr (some (.inr M_codeFrom)), .inr (some (.inr M_codeHalf)), .inr (some (.inr M_codeTo)), .inr (some (.inr M_stack)), .inr (some (.inr M_facts)), .inr (some (.inr M_newStamps)), .inr (some (.inr M_roundFrom)), .inr (some (.inr M_roundAt)), .inr (some (.inr M_roundTimes)), .inl M_newMany, .inl M_rounds, .inl M_stampFrom, .inl M_stampTimes, .inl M_lines, .inl M_spot0, .inl M_pullAcross, .inl M_pullAlong, .inl M_stepsNow, .inl M_fallenNow, .inr (some (.inr M_usesNow)), .inr (some (.inr M_wasAt)), .inr (some (.inr M_someOf)), .inr (some (.inr M_fewestFor)), .inr (some (.inr M_getsOf)), .inl M_isKept]), .inl (2, 384, M_isWall), .inl (1, 260, M_tape)] (fun r h' => (∃ (v q : Nat) (w : Int32), spR b n (p + 1) = .inr (v, q) ∧ r = some (.inl 1) ∧ h' = [.inr (11, [.inr (some (.inr M_now)), .inr (some (.inr M_aside)), .inr (some (.inr M_kept)), .inr (some (.inr M_mintAt)), .inr (some (.inr M_mintOf)), .inr (some (.inr M_wholeOf)), .inr (some (.inl 1)), .inr (some (.inr M_wasWall)), .inl M_stampMany, .inr (some (.inl 2)), .inl M_taped, .inl ((nI q)), .inl ((nI n)), .inl M_fault, .inl w, .inl M_open, .inl M_codeMany, .inl M_waiting, .inl M_saidMany, .inl M_clauses, .inr (some (.inr M_said)), .inr (some (.inr M_waitsAt)), .inr (some (.inr M_saidLetter)), .inr (some (.inr M_saidFrom)), .inr (some (.inr M_saidHalf)), .inr (some (.inr M_saidTo)), .inr (some (.inr M_codes)), .inr (some (.inr M_clauseOf)), .inr (some (.inr M_codeFrom)), .inr (some (.inr M_codeHalf)), .inr (some (.inr M_codeTo)), .inr (some (.inr M_stack)), .inr (some (.inr M_facts)), .inr (some (.inr M_newStamps)), .inr (some (.inr M_roundFrom)), .inr (some (.inr M_roundAt)), .inr (some (.inr M_roundTimes)), .inl M_newMany, .inl M_rounds, .inl M_stampFrom, .inl M_stampTimes, .inl M_lines, .inl ((nI v)), .inl M_pullAcross, .inl M_pullAlong, .inl M_stepsNow, .inl M_fallenNow, .inr (some (.inr M_usesNow)), .inr (some (.inr M_wasAt)), .inr (some (.inr M_someOf)), .inr (some (.inr M_fewestFor)), .inr (some (.inr M_getsOf)), .inl M_isKept]), .inl (2, 384, (upd M_isWall v (tgV (M_isWall v)))), .inl (1, 260, M_tape)]) ∨ (∃ (g a q : Nat) (w : Int32), spR b n (p + 1) = .inl (g, a) ∧ q ≤ n ∧ r = some (.inl 0) ∧ h' = [.inr (11, [.inr (some (.inr M_now)), .inr (some (.inr M_aside)), .inr (some (.inr M_kept)), .inr (some (.inr M_mintAt)), .inr (some (.inr M_mintOf)), .inr (some (.inr M_wholeOf)), .inr (some (.inl 1)), .inr (some (.inr M_wasWall)), .inl M_stampMany, .inr (some (.inl 2)), .inl M_taped, .inl ((nI q)), .inl ((nI n)), .inl ((ftV g a)), .inl w, .inl M_open, .inl M_codeMany, .inl M_waiting, .inl M_saidMany, .inl M_clauses, .inr (some (.inr M_said)), .inr (some (.inr M_waitsAt)), .inr (some (.inr M_saidLetter)), .inr (some (.inr M_saidFrom)), .inr (some (.inr M_saidHalf)), .inr (some (.inr M_saidTo)), .inr (some (.inr M_codes)), .inr (some (.inr M_clauseOf)), .inr (some (.inr M_codeFrom)), .inr (some (.inr M_codeHalf)), .inr (some (.inr M_codeTo)), .inr (some (.inr M_stack)), .inr (some (.inr M_facts)), .inr (some (.inr M_newStamps)), .inr (some (.inr M_roundFrom)), .inr (some (.inr M_roundAt)), .inr (some (.inr M_roundTimes)), .inl M_newMany, .inl M_rounds, .inl M_stampFrom, .inl M_stampTimes, .inl M_lines, .inl M_spot0, .inl M_pullAcross, .inl M_pullAlong, .inl M_stepsNow, .inl M_fallenNow, .inr (some (.inr M_usesNow)), .inr (some (.inr M_wasAt)), .inr (some (.inr M_someOf)), .inr (some (.inr M_fewestFor)), .inr (some (.inr M_getsOf)), .inl M_isKept]), .inl (2, 384, M_isWall), .inl (1, 260, M_tape)])) := by
  refine m_X12_readsWall (Nat.le_of_ble_eq_true rfl) ?_
  refine call0 (x_X12_readsSpot (b := b) (p := p + 1) (n := n) (nI_1 p) (by omega) hn hb) rfl rfl ?_
  rintro r h' (⟨v, q, w, e1, rfl, rfl⟩ | ⟨g, a, q, w, e1, hq, rfl, rfl⟩)
  · have l1 := spR_le e1
    refine And.intro (fun z => absurd z (show ¬ (1 : Int32) = 0 by decide)) (fun _ => ?_)
    have i : vp_in (nI v) 384 := vp_in_nI (by omega) (by omega)
    have n0 : f_nar 2 0 = 0 := by decide
    have n1 : f_nar 2 1 = 1 := by decide
    have ec : (nI v).toNatClampNeg = v := nI_clamp (by omega)
    refine And.intro i ?_
    refine And.intro (fun (z : M_isWall (nI v).toNatClampNeg = 0) => ?_) (fun (z : ¬ M_isWall (nI v).toNatClampNeg = 0) => ?_)
    · rw [ec] at z
      have e : tgV (M_isWall v) = 1 := if_pos z
      refine And.intro i (And.intro (Or.inr rfl) (Or.inl ⟨v, q, w, e1, rfl, ?_⟩))
      rw [e, ec, n1]
    · rw [ec] at z
      have e : tgV (M_isWall v) = 0 := if_neg z
      refine And.intro i (And.intro (Or.inr rfl) (Or.inl ⟨v, q, w, e1, rfl, ?_⟩))
      rw [e, ec, n0]
  · refine And.intro (fun _ => ?_) (fun z => absurd rfl z)
    exact And.intro (Or.inl rfl) (Or.inr ⟨g, a, q, w, e1, hq, rfl, rfl⟩)
theorem x_X12_readsLetter {l : Launch} {M_aside M_kept M_mintAt M_mintOf M_wholeOf M_isWall M_wasWall M_said M_waitsAt M_saidLetter M_saidFrom M_saidHalf M_saidTo M_codes M_clauseOf M_codeFrom M_codeHalf M_codeTo M_stack M_facts M_newStamps M_roundFrom M_roundAt M_roundTimes M_usesNow M_wasAt M_someOf M_fewestFor M_getsOf : List (Option Nat)} {M_taped M_fault M_number0 M_open M_codeMany M_waiting M_saidMany M_clauses M_newMany M_rounds M_stampFrom M_stampTimes M_lines M_spot0 M_pullAcross M_pullAlong M_stepsNow M_fallenNow M_isKept : Int32} {M_now M_tape : Nat → Int32}  {b : Nat → Nat} {X : Int32} {p n c T : Nat} (eX : X = nI (hr b n p - 48)) (hp : p < n) (hn : n ≤ 240) (h0 : 48 ≤ hr b n p) (h7 : hr b n p ≤ 55) (hc : c ≤ 48) (hb : txM M_tape b n) (hT : tdM M_now T) (hN : seg M_now) : MetP l 4 yX12_readsLetter cX12_readsLetter 4 (some .boolean) 0 0 [.inr (some (.inl 0)), .inl X] [.inr (11, [.inr (some (.inl 1)), .inr (some (.inr M_aside)), .inr (some (.inr M_kept)), .inr (some (.inr M_mintAt)), .inr (some (.inr M_mintOf)), .inr (some (.inr M_wholeOf)), .inr (some (.inr M_isWall)), .inr (some (.inr M_wasWall)), .inl ((nI c)), .inr (some (.inl 2)), .inl M_taped, .inl ((nI p)), .inl ((nI n)), .inl M_fault, .inl M_number0, .inl M_open, .inl M_codeMany, .inl M_waiting, .inl M_saidMany, .inl M_clauses, .inr (some (.inr M_said)), .inr (some (.inr M_waitsAt)), .inr (some (.inr M_saidLetter)), .inr (some (.inr M_saidFrom)), .inr (some (.inr M_saidHalf)), .inr (some (.inr M_saidTo)), .inr (some (.inr M_codes)), .inr (some (.inr M_clauseOf)), .inr (some (.inr M_codeFrom)), .inr (some (.inr M_codeHalf)), .inr (some (.inr M_codeTo)), .inr (some (.inr M_stack)), .inr (some (.inr M_facts)), .inr (some (.inr M_newStamps)), .inr (some (.inr M_roundFrom)), .inr (some (.inr M_roundAt)), .inr (some (.inr M_roundTimes)), .inl M_newMany, .inl M_rounds, .inl M_stampFrom, .inl M_stampTimes, .inl M_lines, .inl M_spot0, .inl M_pullAcross, .inl M_pullAlong, .inl M_stepsNow, .inl M_fallenNow, .inr (some (.inr M_usesNow)), .inr (some (.inr M_wasAt)), .inr (some (.inr M_someOf)), .inr (some (.inr M_fewestFor)), .inr (some (.inr M_getsOf)), .inl M_isKept]), .inl (0, 130, M_now), .inl (1, 260, M_tape)] (fun r h' => (∃ (o : Ord) (q : Nat) (w sp : Int32) (nw : Nat → Int32), ltR b n c T p = .inr (o, q) ∧ ¬ o.1 = 35 ∧ p < q ∧ q ≤ n ∧ seg nw ∧ tdM nw (tdO T o) ∧ r = some (.inl 1) ∧ h' = [.inr (11, [.inr (some (.inl 1)), .inr (some (.inr M_aside)), .inr (some (.inr M_kept)), .inr (some (.inr M_mintAt)), .inr (some (.inr M_mintOf)), .inr (some (.inr M_wholeOf)), .inr (some (.inr M_isWall)), .inr (some (.inr M_wasWall)), .inl ((nI c)), .inr (some (.inl 2)), .inl M_taped, .inl ((nI q)), .inl ((nI n)), .inl M_fault, .inl w, .inl M_open, .inl M_codeMany, .inl M_waiting, .inl M_saidMany, .inl M_clauses, .inr (some (.inr M_said)), .inr (some (.inr M_waitsAt)), .inr (some (.inr M_saidLetter)), .inr (some (.inr M_saidFrom)), .inr (some (.inr M_saidHalf)), .inr (some (.inr M_saidTo)), .inr (some (.inr M_codes)), .inr (some (.inr M_clauseOf)), .inr (some (.inr M_codeFrom)), .inr (some (.inr M_codeHalf)), .inr (some (.inr M_codeTo)), .inr (some (.inr M_stack)), .inr (some (.inr M_facts)), .inr (some (.inr M_newStamps)), .inr (some (.inr M_roundFrom)), .inr (some (.inr M_roundAt)), .inr (some (.inr M_roundTimes)), .inl M_newMany, .inl M_rounds, .inl M_stampFrom, .inl M_stampTimes, .inl M_lines, .inl sp, .inl M_pullAcross, .inl M_pullAlong, .inl M_stepsNow, .inl M_fallenNow, .inr (some (.inr M_usesNow)), .inr (some (.inr M_wasAt)), .inr (some (.inr M_someOf)), .inr (some (.inr M_fewestFor)), .inr (some (.inr M_getsOf)), .inl M_isKept]), .inl (0, 130, nw), .inl (1, 260, M_tape)]) ∨ (∃ (g a q : Nat) (w sp : Int32), ltR b n c T p = .inl (g, a) ∧ q ≤ n ∧ r = some (.inl 0) ∧ h' = [.inr (11, [.inr (some (.inl 1)), .inr (some (.inr M_aside)), .inr (some (.inr M_kept)), .inr (some (.inr M_mintAt)), .inr (some (.inr M_mintOf)), .inr (some (.inr M_wholeOf)), .inr (some (.inr M_isWall)), .inr (some (.inr M_wasWall)), .inl ((nI c)), .inr (some (.inl 2)), .inl M_taped, .inl ((nI q)), .inl ((nI n)), .inl ((ftV g a)), .inl w, .inl M_open, .inl M_codeMany, .inl M_waiting, .inl M_saidMany, .inl M_clauses, .inr (some (.inr M_said)), .inr (some (.inr M_waitsAt)), .inr (some (.inr M_saidLetter)), .inr (some (.inr M_saidFrom)), .inr (some (.inr M_saidHalf)), .inr (some (.inr M_saidTo)), .inr (some (.inr M_codes)), .inr (some (.inr M_clauseOf)), .inr (some (.inr M_codeFrom)), .inr (some (.inr M_codeHalf)), .inr (some (.inr M_codeTo)), .inr (some (.inr M_stack)), .inr (some (.inr M_facts)), .inr (some (.inr M_newStamps)), .inr (some (.inr M_roundFrom)), .inr (some (.inr M_roundAt)), .inr (some (.inr M_roundTimes)), .inl M_newMany, .inl M_rounds, .inl M_stampFrom, .inl M_stampTimes, .inl M_lines, .inl sp, .inl M_pullAcross, .inl M_pullAlong, .inl M_stepsNow, .inl M_fallenNow, .inr (some (.inr M_usesNow)), .inr (some (.inr M_wasAt)), .inr (some (.inr M_someOf)), .inr (some (.inr M_fewestFor)), .inr (some (.inr M_getsOf)), .inl M_isKept]), .inl (0, 130, M_now), .inl (1, 260, M_tape)])) := by
  subst eX
  obtain ⟨t, et⟩ : ∃ t, hr b n p - 48 = t := ⟨_, rfl⟩
  have ht : t < 8 := by omega
  rw [et]
  have e0 : f_add 0 (nI t) = nI t := Int32.zero_add _
  have e8 : f_add 8 (nI t) = nI (8 + t) := nI_add 8 t
  have e16 : f_add 16 (nI t) = nI (16 + t) := nI_add 16 t
  have e24 : f_add 24 (nI t) = nI (24 + t) := nI_add 24 t
  refine m_X12_readsLetter (Nat.le_of_ble_eq_true rfl) ?_
  refine call0 (e_X12_here (p := p + 1) (n := n) (nI_1 p) rfl (by omega) hn) rfl rfl ?_
  rintro r h' ⟨rfl, rfl⟩
  have b54 : ∀ {h : Nat} {V : Int32}, V = nI h → p + 1 < n → hr b n (p + 1) = h → (h = 64 ∨ h = 43 ∨ h = 45 ∨ h = 61) → b_X12_readsLetter_54 l (fun r h' => (∃ (o : Ord) (q : Nat) (w sp : Int32) (nw : Nat → Int32), ltR b n c T p = .inr (o, q) ∧ ¬ o.1 = 35 ∧ p < q ∧ q ≤ n ∧ seg nw ∧ tdM nw (tdO T o) ∧ r = some (.inl 1) ∧ h' = [.inr (11, [.inr (some (.inl 1)), .inr (some (.inr M_aside)), .inr (some (.inr M_kept)), .inr (some (.inr M_mintAt)), .inr (some (.inr M_mintOf)), .inr (some (.inr M_wholeOf)), .inr (some (.inr M_isWall)), .inr (some (.inr M_wasWall)), .inl ((nI c)), .inr (some (.inl 2)), .inl M_taped, .inl ((nI q)), .inl ((nI n)), .inl M_fault, .inl w, .inl M_open, .inl M_codeMany, .inl M_waiting, .inl M_saidMany, .inl M_clauses, .inr (some (.inr M_said)), .inr (some (.inr M_waitsAt)), .inr (some (.inr M_saidLetter)), .inr (some (.inr M_saidFrom)), .inr (some (.inr M_saidHalf)), .inr (some (.inr M_saidTo)), .inr (some (.inr M_codes)), .inr (some (.inr M_clauseOf)), .inr (some (.inr M_codeFrom)), .inr (some (.inr M_codeHalf)), .inr (some (.inr M_codeTo)), .inr (some (.inr M_stack)), .inr (some (.inr M_facts)), .inr (some (.inr M_newStamps)), .inr (some (.inr M_roundFrom)), .inr (some (.inr M_roundAt)), .inr (some (.inr M_roundTimes)), .inl M_newMany, .inl M_rounds, .inl M_stampFrom, .inl M_stampTimes, .inl M_lines, .inl sp, .inl M_pullAcross, .inl M_pullAlong, .inl M_stepsNow, .inl M_fallenNow, .inr (some (.inr M_usesNow)), .inr (some (.inr M_wasAt)), .inr (some (.inr M_someOf)), .inr (some (.inr M_fewestFor)), .inr (some (.inr M_getsOf)), .inl M_isKept]), .inl (0, 130, nw), .inl (1, 260, M_tape)]) ∨ (∃ (g a q : Nat) (w sp : Int32), ltR b n c T p = .inl (g, a) ∧ q ≤ n ∧ r = some (.inl 0) ∧ h' = [.inr (11, [.inr (some (.inl 1)), .inr (some (.inr M_aside)), .inr (some (.inr M_kept)), .inr (some (.inr M_mintAt)), .inr (some (.inr M_mintOf)), .inr (some (.inr M_wholeOf)), .inr (some (.inr M_isWall)), .inr (some (.inr M_wasWall)), .inl ((nI c)), .inr (some (.inl 2)), .inl M_taped, .inl ((nI q)), .inl ((nI n)), .inl ((ftV g a)), .inl w, .inl M_open, .inl M_codeMany, .inl M_waiting, .inl M_saidMany, .inl M_clauses, .inr (some (.inr M_said)), .inr (some (.inr M_waitsAt)), .inr (some (.inr M_saidLetter)), .inr (some (.inr M_saidFrom)), .inr (some (.inr M_saidHalf)), .inr (some (.inr M_saidTo)), .inr (some (.inr M_codes)), .inr (some (.inr M_clauseOf)), .inr (some (.inr M_codeFrom)), .inr (some (.inr M_codeHalf)), .inr (some (.inr M_codeTo)), .inr (some (.inr M_stack)), .inr (some (.inr M_facts)), .inr (some (.inr M_newStamps)), .inr (some (.inr M_roundFrom)), .inr (some (.inr M_roundAt)), .inr (some (.inr M_roundTimes)), .inl M_newMany, .inl M_rounds, .inl M_stampFrom, .inl M_stampTimes, .inl M_lines, .inl sp, .inl M_pullAcross, .inl M_pullAlong, .inl M_stepsNow, .inl M_fallenNow, .inr (some (.inr M_usesNow)), .inr (some (.inr M_wasAt)), .inr (some (.inr M_someOf)), .inr (some (.inr M_fewestFor)), .inr (some (.inr M_getsOf)), .inl M_isKept]), .inl (0, 130, M_now), .inl (1, 260, M_tape)])) [some (.inr (some (.inl 0))), some (.inl (nI t)), some (.inl (nI p)), some (.inl V)] [] [.inr (11, [.inr (some (.inl 1)), .inr (some (.inr M_aside)), .inr (some (.inr M_kept)), .inr (some (.inr M_mintAt)), .inr (some (.inr M_mintOf)), .inr (some (.inr M_wholeOf)), .inr (some (.inr M_isWall)), .inr (some (.inr M_wasWall)), .inl ((nI c)), .inr (some (.inl 2)), .inl M_taped, .inl ((nI (p + 1))), .inl ((nI n)), .inl M_fault, .inl M_number0, .inl M_open, .inl M_codeMany, .inl M_waiting, .inl M_saidMany, .inl M_clauses, .inr (some (.inr M_said)), .inr (some (.inr M_waitsAt)), .inr (some (.inr M_saidLetter)), .inr (some (.inr M_saidFrom)), .inr (some (.inr M_saidHalf)), .inr (some (.inr M_saidTo)), .inr (some (.inr M_codes)), .inr (some (.inr M_clauseOf)), .inr (some (.inr M_codeFrom)), .inr (some (.inr M_codeHalf)), .inr (some (.inr M_codeTo)), .inr (some (.inr M_stack)), .inr (some (.inr M_facts)), .inr (some (.inr M_newStamps)), .inr (some (.inr M_roundFrom)), .inr (some (.inr M_roundAt)), .inr (some (.inr M_roundTimes)), .inl M_newMany, .inl M_rounds, .inl M_stampFrom, .inl M_stampTimes, .inl M_lines, .inl M_spot0, .inl M_pullAcross, .inl M_pullAlong, .inl M_stepsNow, .inl M_fallenNow, .inr (some (.inr M_usesNow)), .inr (some (.inr M_wasAt)), .inr (some (.inr M_someOf)), .inr (some (.inr M_fewestFor)), .inr (some (.inr M_getsOf)), .inl M_isKept]), .inl (0, 130, M_now), .inl (1, 260, M_tape)] := by
    intro h V eV hlt eh hh
    subst eV
    by_cases h64 : h = 64
    · subst h64
      have el : ltR b n c T p = (match spR b n (p + 2) with
        | .inl f => .inl f
        | .inr (v, q) => .inr ((64, t, v), q)) := by
        unfold ltR
        rw [if_pos eh, et]
        rcases spR b n (p + 2) with f | ⟨v, q⟩ <;> rfl
      refine And.intro (fun _ => ?_) (fun z => absurd rfl z)
      refine And.intro (fun _ => ?_) (fun z => absurd rfl z)
      refine call0 (x_X12_readsSpot (b := b) (p := p + 1 + 1) (n := n) (nI_1 (p + 1)) (by omega) hn hb) rfl rfl ?_
      rintro r h' (⟨v, q, w, e1, rfl, rfl⟩ | ⟨g, a, q, w, e1, hq, rfl, rfl⟩)
      · have l1 := spR_le e1
        rw [e1] at el
        refine And.intro (fun z => absurd z (show ¬ (1 : Int32) = 0 by decide)) (fun _ => ?_)
        refine And.intro (by rw [e0]; exact vp_in_nI (by omega) (by omega)) (And.intro (by rw [e8]; exact vp_in_nI (by omega) (by omega)) (And.intro (by rw [e24]; exact vp_in_nI (by omega) (by omega)) ?_))
        refine And.intro (Or.inr rfl) (Or.inl ⟨(64, t, v), q, w, nI v, _, el, by show ¬ (64 : Nat) = 35; decide, by omega, l1.2.1, ?_, ?_, rfl, rfl⟩)
        · intro i i1 i2
          rw [e0, e8, e24, nI_clamp (by omega), nI_clamp (by omega), nI_clamp (by omega), upd_nI (by omega)]
          unfold upd
          split
          · have : (f_nar 0 (nI v)).toInt = v := nI_toInt (by omega)
            omega
          · rw [if_neg (by omega)]
            exact hN i i1 i2
        · rw [e0, e8, e24, nI_clamp (by omega), nI_clamp (by omega), nI_clamp (by omega), show tdO T (64, t, v) = T ||| 2 ^ t from if_pos rfl]
          exact tdM_up (tdM_up (tdM_lay hT) (by omega)) (by omega)
      · rw [e1] at el
        refine And.intro (fun _ => ?_) (fun z => absurd rfl z)
        exact And.intro (Or.inl rfl) (Or.inr ⟨g, a, q, w, M_spot0, el, hq, rfl, rfl⟩)
    · have ho : h = 43 ∨ h = 45 ∨ h = 61 := hh.resolve_left h64
      refine And.intro (fun z => absurd ((nI_eq (b := 64) (by omega) (by omega)).mp z) h64) (fun _ => ?_)
      refine call0 (c_X12_isTold) rfl rfl ?_
      rintro r h' ⟨rfl, rfl⟩
      refine br_b (fun w => ?_) (fun w => ?_)
      · have w : ¬ T.testBit t = true := fun z => w ⟨(nI_bt (a := 0) (b := 7) (by omega) (by omega) (by omega)).mpr ⟨by omega, by omega⟩, by rw [nI_clamp (by omega)]; exact (tdM_1 hT ht).mpr z⟩
        have el : ltR b n c T p = .inl (7, p) := by
          unfold ltR
          rw [eh, if_neg h64, if_pos ho, et, if_neg w]
        refine call0 (c_X12_wrongAt) rfl rfl ?_
        rintro r h' ⟨rfl, rfl⟩
        exact And.intro (Or.inl rfl) (Or.inr ⟨7, p, p + 1, M_number0, M_spot0, el, by omega, rfl, rfl⟩)
      · have w : T.testBit t = true := (tdM_1 hT ht).mp (by have w := w.2; rw [nI_clamp (by omega)] at w; exact w)
        refine And.intro (fun z => absurd ((nI_eq (b := 64) (by omega) (by omega)).mp z) h64) (fun _ => ?_)
        have b153 : ∀ {hi : Int32} {m : Nat}, (∀ v, v ≤ 99 → (nI v ≤ hi ↔ v < m)) → (if h = 61 then 100 else c) = m → b_X12_readsLetter_153 l (fun r h' => (∃ (o : Ord) (q : Nat) (w sp : Int32) (nw : Nat → Int32), ltR b n c T p = .inr (o, q) ∧ ¬ o.1 = 35 ∧ p < q ∧ q ≤ n ∧ seg nw ∧ tdM nw (tdO T o) ∧ r = some (.inl 1) ∧ h' = [.inr (11, [.inr (some (.inl 1)), .inr (some (.inr M_aside)), .inr (some (.inr M_kept)), .inr (some (.inr M_mintAt)), .inr (some (.inr M_mintOf)), .inr (some (.inr M_wholeOf)), .inr (some (.inr M_isWall)), .inr (some (.inr M_wasWall)), .inl ((nI c)), .inr (some (.inl 2)), .inl M_taped, .inl ((nI q)), .inl ((nI n)), .inl M_fault, .inl w, .inl M_open, .inl M_codeMany, .inl M_waiting, .inl M_saidMany, .inl M_clauses, .inr (some (.inr M_said)), .inr (some (.inr M_waitsAt)), .inr (some (.inr M_saidLetter)), .inr (some (.inr M_saidFrom)), .inr (some (.inr M_saidHalf)), .inr (some (.inr M_saidTo)), .inr (some (.inr M_codes)), .inr (some (.inr M_clauseOf)), .inr (some (.inr M_codeFrom)), .inr (some (.inr M_codeHalf)), .inr (some (.inr M_codeTo)), .inr (some (.inr M_stack)), .inr (some (.inr M_facts)), .inr (some (.inr M_newStamps)), .inr (some (.inr M_roundFrom)), .inr (some (.inr M_roundAt)), .inr (some (.inr M_roundTimes)), .inl M_newMany, .inl M_rounds, .inl M_stampFrom, .inl M_stampTimes, .inl M_lines, .inl sp, .inl M_pullAcross, .inl M_pullAlong, .inl M_stepsNow, .inl M_fallenNow, .inr (some (.inr M_usesNow)), .inr (some (.inr M_wasAt)), .inr (some (.inr M_someOf)), .inr (some (.inr M_fewestFor)), .inr (some (.inr M_getsOf)), .inl M_isKept]), .inl (0, 130, nw), .inl (1, 260, M_tape)]) ∨ (∃ (g a q : Nat) (w sp : Int32), ltR b n c T p = .inl (g, a) ∧ q ≤ n ∧ r = some (.inl 0) ∧ h' = [.inr (11, [.inr (some (.inl 1)), .inr (some (.inr M_aside)), .inr (some (.inr M_kept)), .inr (some (.inr M_mintAt)), .inr (some (.inr M_mintOf)), .inr (some (.inr M_wholeOf)), .inr (some (.inr M_isWall)), .inr (some (.inr M_wasWall)), .inl ((nI c)), .inr (some (.inl 2)), .inl M_taped, .inl ((nI q)), .inl ((nI n)), .inl ((ftV g a)), .inl w, .inl M_open, .inl M_codeMany, .inl M_waiting, .inl M_saidMany, .inl M_clauses, .inr (some (.inr M_said)), .inr (some (.inr M_waitsAt)), .inr (some (.inr M_saidLetter)), .inr (some (.inr M_saidFrom)), .inr (some (.inr M_saidHalf)), .inr (some (.inr M_saidTo)), .inr (some (.inr M_codes)), .inr (some (.inr M_clauseOf)), .inr (some (.inr M_codeFrom)), .inr (some (.inr M_codeHalf)), .inr (some (.inr M_codeTo)), .inr (some (.inr M_stack)), .inr (some (.inr M_facts)), .inr (some (.inr M_newStamps)), .inr (some (.inr M_roundFrom)), .inr (some (.inr M_roundAt)), .inr (some (.inr M_roundTimes)), .inl M_newMany, .inl M_rounds, .inl M_stampFrom, .inl M_stampTimes, .inl M_lines, .inl sp, .inl M_pullAcross, .inl M_pullAlong, .inl M_stepsNow, .inl M_fallenNow, .inr (some (.inr M_usesNow)), .inr (some (.inr M_wasAt)), .inr (some (.inr M_someOf)), .inr (some (.inr M_fewestFor)), .inr (some (.inr M_getsOf)), .inl M_isKept]), .inl (0, 130, M_now), .inl (1, 260, M_tape)])) [some (.inr (some (.inl 0))), some (.inl (nI t)), some (.inl (nI p)), some (.inl (nI h))] [.inl hi, .inr (some (.inl 0))] [.inr (11, [.inr (some (.inl 1)), .inr (some (.inr M_aside)), .inr (some (.inr M_kept)), .inr (some (.inr M_mintAt)), .inr (some (.inr M_mintOf)), .inr (some (.inr M_wholeOf)), .inr (some (.inr M_isWall)), .inr (some (.inr M_wasWall)), .inl ((nI c)), .inr (some (.inl 2)), .inl M_taped, .inl ((f_add (nI (p + 1)) 1)), .inl ((nI n)), .inl M_fault, .inl M_number0, .inl M_open, .inl M_codeMany, .inl M_waiting, .inl M_saidMany, .inl M_clauses, .inr (some (.inr M_said)), .inr (some (.inr M_waitsAt)), .inr (some (.inr M_saidLetter)), .inr (some (.inr M_saidFrom)), .inr (some (.inr M_saidHalf)), .inr (some (.inr M_saidTo)), .inr (some (.inr M_codes)), .inr (some (.inr M_clauseOf)), .inr (some (.inr M_codeFrom)), .inr (some (.inr M_codeHalf)), .inr (some (.inr M_codeTo)), .inr (some (.inr M_stack)), .inr (some (.inr M_facts)), .inr (some (.inr M_newStamps)), .inr (some (.inr M_roundFrom)), .inr (some (.inr M_roundAt)), .inr (some (.inr M_roundTimes)), .inl M_newMany, .inl M_rounds, .inl M_stampFrom, .inl M_stampTimes, .inl M_lines, .inl M_spot0, .inl M_pullAcross, .inl M_pullAlong, .inl M_stepsNow, .inl M_fallenNow, .inr (some (.inr M_usesNow)), .inr (some (.inr M_wasAt)), .inr (some (.inr M_someOf)), .inr (some (.inr M_fewestFor)), .inr (some (.inr M_getsOf)), .inl M_isKept]), .inl (0, 130, M_now), .inl (1, 260, M_tape)] := by
          intro hi m hm em
          have el : ltR b n c T p = (match nmR b n (p + 2) m 7 with
            | .inl f => .inl f
            | .inr (v, q) => .inr ((h, t, v), q)) := by
            unfold ltR
            rw [eh, if_neg h64, if_pos ho, et, if_pos w, em]
            rcases nmR b n (p + 2) m 7 with f | ⟨v, q⟩ <;> rfl
          refine call0 (x_X12_readsWithin (b := b) (p := p + 1 + 1) (n := n) (m := m) (k := 7) (nI_1 (p + 1)) (by omega) hn hm hb) rfl rfl ?_
          rintro r h' (⟨v, q, e1, rfl, rfl⟩ | ⟨g, a, q, w, e1, hq, rfl, rfl⟩)
          · have l1 := nmR_le e1
            rw [e1] at el
            have et' : tdO T (h, t, v) = T := if_neg h64
            have h35 : ¬ h = 35 := by omega
            have e32 : f_add 32 (nI v) = nI (32 + v) := nI_add 32 v
            refine And.intro (fun z => absurd z (show ¬ (1 : Int32) = 0 by decide)) (fun _ => ?_)
            refine And.intro (fun z => ?_) (fun z => ?_)
            · refine And.intro (by rw [e16]; exact vp_in_nI (by omega) (by omega)) ?_
              refine And.intro (Or.inr rfl) (Or.inl ⟨(h, t, v), q, nI v, M_spot0, _, el, h35, by omega, l1.2.1, ?_, ?_, rfl, rfl⟩)
              · rw [e16, nI_clamp (by omega)]
                exact seg_upd hN (by omega)
              · rw [e16, nI_clamp (by omega), et']
                exact tdM_up hT (by omega)
            · have h61 : ¬ h = 61 := fun y => z ((nI_eq (b := 61) (by omega) (by omega)).mpr y)
              have hv : v < 48 := by
                rw [if_neg h61] at em
                omega
              have i : vp_in (f_add 32 (nI v)) 130 := by rw [e32]; exact vp_in_nI (by omega) (by omega)
              have sg : ∀ {x : Int32}, seg (upd M_now (f_add 32 (nI v)).toNatClampNeg x) := fun {x} => by
                rw [e32, nI_clamp (by omega)]
                exact seg_upd hN (by omega)
              have tg : ∀ {x : Int32}, tdM (upd M_now (f_add 32 (nI v)).toNatClampNeg x) (tdO T (h, t, v)) := fun {x} => by
                rw [e32, nI_clamp (by omega), et']
                exact tdM_up hT (by omega)
              refine And.intro (fun _ => ?_) (fun _ => ?_)
              · exact And.intro i (And.intro (Or.inr rfl) (Or.inl ⟨(h, t, v), q, nI v, M_spot0, _, el, h35, by omega, l1.2.1, sg, tg, rfl, rfl⟩))
              · refine And.intro i ?_
                refine And.intro (fun _ => ?_) (fun _ => ?_)
                · exact And.intro i (And.intro (Or.inr rfl) (Or.inl ⟨(h, t, v), q, nI v, M_spot0, _, el, h35, by omega, l1.2.1, sg, tg, rfl, rfl⟩))
                · exact And.intro (Or.inr rfl) (Or.inl ⟨(h, t, v), q, nI v, M_spot0, M_now, el, h35, by omega, l1.2.1, hN, by rw [et']; exact hT, rfl, rfl⟩)
          · rw [e1] at el
            refine And.intro (fun _ => ?_) (fun z => absurd rfl z)
            exact And.intro (Or.inl rfl) (Or.inr ⟨g, a, q, w, M_spot0, el, hq, rfl, rfl⟩)
        refine And.intro (fun z => ?_) (fun z => ?_)
        · have z := (nI_eq (b := 61) (by omega) (by omega)).mp z
          exact b153 (hi := 99) (m := 100) (lim_n (ms := 99) rfl (by omega)) (if_pos z)
        · have z : ¬ h = 61 := fun y => z ((nI_eq (b := 61) (by omega) (by omega)).mpr y)
          refine b153 (m := c) (fun v hv => ?_) (if_neg z)
          have e : (f_sub (nI c) 1).toInt = (c : Int) - ((1 : Nat) : Int) := sub_i (a := c) (b := 1) (by omega) (by omega)
          rw [Int32.le_iff_toInt_le, e, nI_toInt (by omega)]
          omega
  have go : ∀ k2 : Nat, k2 ≤ 255 → hereV M_tape (p + 1) n = nI k2 → p + 1 < n ∧ hr b n (p + 1) = k2 := fun k2 h2 e => by
    have e := (hd_eq hb h2).mp e
    exact ⟨hr_lt e h2, e⟩
  refine And.intro (fun (w : hereV M_tape (p + 1) n = nI 64) => ?_) (fun (w1 : ¬ hereV M_tape (p + 1) n = nI 64) => ?_)
  · obtain ⟨p1, eh⟩ := go 64 (by omega) w
    exact b54 (h := 64) w p1 eh (Or.inl rfl)
  refine And.intro (fun (w : hereV M_tape (p + 1) n = nI 43) => ?_) (fun (w2 : ¬ hereV M_tape (p + 1) n = nI 43) => ?_)
  · obtain ⟨p1, eh⟩ := go 43 (by omega) w
    exact b54 (h := 43) w p1 eh (Or.inr (Or.inl rfl))
  refine And.intro (fun (w : hereV M_tape (p + 1) n = nI 45) => ?_) (fun (w3 : ¬ hereV M_tape (p + 1) n = nI 45) => ?_)
  · obtain ⟨p1, eh⟩ := go 45 (by omega) w
    exact b54 (h := 45) w p1 eh (Or.inr (Or.inr (Or.inl rfl)))
  refine And.intro (fun (w : hereV M_tape (p + 1) n = nI 61) => ?_) (fun (w4 : ¬ hereV M_tape (p + 1) n = nI 61) => ?_)
  · obtain ⟨p1, eh⟩ := go 61 (by omega) w
    exact b54 (h := 61) w p1 eh (Or.inr (Or.inr (Or.inr rfl)))
  refine call0 (c_X12_wrongAt) rfl rfl ?_
  rintro r h' ⟨rfl, rfl⟩
  have el : ltR b n c T p = .inl (1, p + 1) := by
    unfold ltR
    rw [if_neg (fun z => w1 ((hd_eq hb (by omega)).mpr z)), if_neg (fun z => by
      rcases z with z | z | z
      · exact w2 ((hd_eq hb (by omega)).mpr z)
      · exact w3 ((hd_eq hb (by omega)).mpr z)
      · exact w4 ((hd_eq hb (by omega)).mpr z))]
  exact And.intro (Or.inl rfl) (Or.inr ⟨1, p + 1, p + 1, M_number0, M_spot0, el, by omega, rfl, rfl⟩)

