/-! ===== the other side reads a sheet, exactly ===== -/
theorem hereV_a {tp : Nat → Int32} {b : Nat → Nat} {n p : Nat} (hb : ∀ i, i < n → b i ≤ 255 ∧ f_and (tp i) 255 = nI (b i)) : hereV tp p n = aV b n p := by
  unfold aV
  by_cases q : p < n
  · rw [hereV_t q, if_pos q, (hb p q).2]
  · rw [hereV_f q, if_neg q]
abbrev txM (tp : Nat → Int32) (b : Nat → Nat) (n : Nat) : Prop := ∀ i, i < n → b i ≤ 255 ∧ f_and (tp i) 255 = nI (b i)
abbrev nsX (ns : Nat → Int32) (g : Nat → Nat) (c : Nat) : Prop := ∀ i, i < c → g i ≤ 23 ∧ ns i = nI (g i)
/-- the rounds that are open, as the rows hold them -/
def stR (rf ra rt : Nat → Int32) : Stk → Prop
  | [] => True
  | (fr, a, tm) :: rest => rf rest.length = nI fr ∧ ra rest.length = nI a ∧ rt rest.length = nI tm ∧ stR rf ra rt rest
def stW (n c : Nat) : Stk → Prop
  | [] => True
  | (fr, a, tm) :: rest => fr ≤ n ∧ a ≤ c ∧ 1 ≤ tm ∧ tm ≤ 9 ∧ rest.length < 2 ∧ stW n c rest
theorem stW_up {n c c' : Nat} (h : c ≤ c') : ∀ {s : Stk}, stW n c s → stW n c' s
  | [], _ => trivial
  | (fr, a, tm) :: rest, q => ⟨q.1, by have := q.2.1; omega, q.2.2.1, q.2.2.2.1, q.2.2.2.2.1, stW_up h q.2.2.2.2.2⟩
theorem stR_upd {rf ra rt : Nat → Int32} {x y z : Int32} {k : Nat} : ∀ {s : Stk}, s.length ≤ k → stR rf ra rt s → stR (upd rf k x) (upd ra k y) (upd rt k z) s
  | [], _, _ => trivial
  | (fr, a, tm) :: rest, hk, q => by
    have hk : rest.length + 1 ≤ k := hk
    have ne : ¬ rest.length = k := by omega
    exact ⟨by rw [upd_nI ne]; exact q.1, by rw [upd_nI ne]; exact q.2.1, by rw [upd_nI ne]; exact q.2.2.1, stR_upd (by omega) q.2.2.2⟩
theorem stW_len {n c : Nat} : ∀ {s : Stk}, stW n c s → s.length ≤ 2
  | [], _ => by simp
  | (fr, a, tm) :: rest, q => by
    have := q.2.2.2.2.1
    show rest.length + 1 ≤ 2
    omega
theorem x_X12_readsTimes {l : Launch} {M_now M_aside M_kept M_mintAt M_mintOf M_wholeOf M_isWall M_wasWall M_said M_waitsAt M_saidLetter M_saidFrom M_saidHalf M_saidTo M_codes M_clauseOf M_codeFrom M_codeHalf M_codeTo M_stack M_facts M_newStamps M_roundFrom M_roundAt M_roundTimes M_usesNow M_wasAt M_someOf M_fewestFor M_getsOf : List (Option Nat)} {M_stampMany M_taped M_place0 M_fault M_number0 M_open M_codeMany M_waiting M_saidMany M_clauses M_newMany M_rounds M_stampFrom M_stampTimes M_lines M_spot0 M_pullAcross M_pullAlong M_stepsNow M_fallenNow M_isKept : Int32} {M_tape : Nat → Int32}  {b : Nat → Nat} {p n : Nat} (eP : M_place0 = nI p) (hp : p ≤ n) (hn : n ≤ 240) (hb : txM M_tape b n) : MetP l 1 yX12_readsTimes cX12_readsTimes 1 none 0 0 [.inr (some (.inl 0))] [.inr (11, [.inr (some (.inr M_now)), .inr (some (.inr M_aside)), .inr (some (.inr M_kept)), .inr (some (.inr M_mintAt)), .inr (some (.inr M_mintOf)), .inr (some (.inr M_wholeOf)), .inr (some (.inr M_isWall)), .inr (some (.inr M_wasWall)), .inl M_stampMany, .inr (some (.inl 1)), .inl M_taped, .inl M_place0, .inl ((nI n)), .inl M_fault, .inl M_number0, .inl M_open, .inl M_codeMany, .inl M_waiting, .inl M_saidMany, .inl M_clauses, .inr (some (.inr M_said)), .inr (some (.inr M_waitsAt)), .inr (some (.inr M_saidLetter)), .inr (some (.inr M_saidFrom)), .inr (some (.inr M_saidHalf)), .inr (some (.inr M_saidTo)), .inr (some (.inr M_codes)), .inr (some (.inr M_clauseOf)), .inr (some (.inr M_codeFrom)), .inr (some (.inr M_codeHalf)), .inr (some (.inr M_codeTo)), .inr (some (.inr M_stack)), .inr (some (.inr M_facts)), .inr (some (.inr M_newStamps)), .inr (some (.inr M_roundFrom)), .inr (some (.inr M_roundAt)), .inr (some (.inr M_roundTimes)), .inl M_newMany, .inl M_rounds, .inl M_stampFrom, .inl M_stampTimes, .inl M_lines, .inl M_spot0, .inl M_pullAcross, .inl M_pullAlong, .inl M_stepsNow, .inl M_fallenNow, .inr (some (.inr M_usesNow)), .inr (some (.inr M_wasAt)), .inr (some (.inr M_someOf)), .inr (some (.inr M_fewestFor)), .inr (some (.inr M_getsOf)), .inl M_isKept]), .inl (1, 260, M_tape)] (fun r h' => r = none ∧ h' = [.inr (11, [.inr (some (.inr M_now)), .inr (some (.inr M_aside)), .inr (some (.inr M_kept)), .inr (some (.inr M_mintAt)), .inr (some (.inr M_mintOf)), .inr (some (.inr M_wholeOf)), .inr (some (.inr M_isWall)), .inr (some (.inr M_wasWall)), .inl M_stampMany, .inr (some (.inl 1)), .inl M_taped, .inl ((nI (tmQ b n p))), .inl ((nI n)), .inl M_fault, .inl M_number0, .inl M_open, .inl M_codeMany, .inl M_waiting, .inl M_saidMany, .inl M_clauses, .inr (some (.inr M_said)), .inr (some (.inr M_waitsAt)), .inr (some (.inr M_saidLetter)), .inr (some (.inr M_saidFrom)), .inr (some (.inr M_saidHalf)), .inr (some (.inr M_saidTo)), .inr (some (.inr M_codes)), .inr (some (.inr M_clauseOf)), .inr (some (.inr M_codeFrom)), .inr (some (.inr M_codeHalf)), .inr (some (.inr M_codeTo)), .inr (some (.inr M_stack)), .inr (some (.inr M_facts)), .inr (some (.inr M_newStamps)), .inr (some (.inr M_roundFrom)), .inr (some (.inr M_roundAt)), .inr (some (.inr M_roundTimes)), .inl M_newMany, .inl M_rounds, .inl ((nI p)), .inl ((nI (tmN b n p))), .inl M_lines, .inl M_spot0, .inl M_pullAcross, .inl M_pullAlong, .inl M_stepsNow, .inl M_fallenNow, .inr (some (.inr M_usesNow)), .inr (some (.inr M_wasAt)), .inr (some (.inr M_someOf)), .inr (some (.inr M_fewestFor)), .inr (some (.inr M_getsOf)), .inl M_isKept]), .inl (1, 260, M_tape)]) := by
  subst eP
  have hbb : ∀ i, i < n → b i ≤ 255 := fun i hi => (hb i hi).1
  refine m_X12_readsTimes (Nat.le_of_ble_eq_true rfl) ?_
  refine call0 (c_X12_here (by omega) hn) rfl rfl ?_
  rintro r h' ⟨rfl, rfl⟩
  rw [hereV_a hb]
  refine call0 (c_in) rfl rfl ?_
  rintro r h' ⟨rfl, rfl⟩
  refine br_b (fun w => ?_) (fun w => ?_)
  · have w : ¬ (50 ≤ hr b n p ∧ hr b n p ≤ 57) := fun z => w ((aV_in (lo := 50) (hi := 57) hbb (by omega) (by omega)).mpr z)
    unfold tmQ tmN
    rw [if_neg w, if_neg w]
    exact ⟨rfl, rfl⟩
  · have w := (aV_in (lo := 50) (hi := 57) hbb (by omega) (by omega)).mp w
    refine call0 (c_X12_here (by omega) hn) rfl rfl ?_
    rintro r h' ⟨rfl, rfl⟩
    rw [hereV_a hb]
    unfold tmQ tmN
    rw [if_pos w, if_pos w]
    have e : f_sub (aV b n p) 48 = nI (hr b n p - 48) := fsub_k (k := 48) (by omega) (by omega)
    exact ⟨rfl, by rw [← e, ← nI_1 p] <;> rfl⟩
theorem x_X12_repeats {l : Launch} {M_now M_aside M_kept M_mintAt M_mintOf M_wholeOf M_isWall M_wasWall M_tape M_said M_waitsAt M_saidLetter M_saidFrom M_saidHalf M_saidTo M_codes M_clauseOf M_codeFrom M_codeHalf M_codeTo M_stack M_facts M_roundFrom M_roundAt M_roundTimes M_usesNow M_wasAt M_someOf M_fewestFor M_getsOf : List (Option Nat)} {M_stampMany M_taped M_place0 M_length0 M_fault M_number0 M_open M_codeMany M_waiting M_saidMany M_clauses M_newMany M_rounds M_stampFrom M_stampTimes M_lines M_spot0 M_pullAcross M_pullAlong M_stepsNow M_fallenNow M_isKept : Int32} {M_newStamps : Nat → Int32}  {g : Nat → Nat} {AA x : Int32} {a tm c : Nat} (eN : M_newMany = nI c) (eA : AA = nI a) (hac : a ≤ c) (hc : c ≤ 48) (h1 : 1 ≤ tm) (h9 : tm ≤ 9) (hR : nsR M_newStamps) (hX : nsX M_newStamps g c) : MetP l 1 yX12_repeats cX12_repeats 6 (some .boolean) 0 0 [.inr (some (.inl 0)), .inl AA, .inl (nI tm), .inl x] [.inr (11, [.inr (some (.inr M_now)), .inr (some (.inr M_aside)), .inr (some (.inr M_kept)), .inr (some (.inr M_mintAt)), .inr (some (.inr M_mintOf)), .inr (some (.inr M_wholeOf)), .inr (some (.inr M_isWall)), .inr (some (.inr M_wasWall)), .inl M_stampMany, .inr (some (.inr M_tape)), .inl M_taped, .inl M_place0, .inl M_length0, .inl M_fault, .inl M_number0, .inl M_open, .inl M_codeMany, .inl M_waiting, .inl M_saidMany, .inl M_clauses, .inr (some (.inr M_said)), .inr (some (.inr M_waitsAt)), .inr (some (.inr M_saidLetter)), .inr (some (.inr M_saidFrom)), .inr (some (.inr M_saidHalf)), .inr (some (.inr M_saidTo)), .inr (some (.inr M_codes)), .inr (some (.inr M_clauseOf)), .inr (some (.inr M_codeFrom)), .inr (some (.inr M_codeHalf)), .inr (some (.inr M_codeTo)), .inr (some (.inr M_stack)), .inr (some (.inr M_facts)), .inr (some (.inl 1)), .inr (some (.inr M_roundFrom)), .inr (some (.inr M_roundAt)), .inr (some (.inr M_roundTimes)), .inl M_newMany, .inl M_rounds, .inl M_stampFrom, .inl M_stampTimes, .inl M_lines, .inl M_spot0, .inl M_pullAcross, .inl M_pullAlong, .inl M_stepsNow, .inl M_fallenNow, .inr (some (.inr M_usesNow)), .inr (some (.inr M_wasAt)), .inr (some (.inr M_someOf)), .inr (some (.inr M_fewestFor)), .inr (some (.inr M_getsOf)), .inl M_isKept]), .inl (0, 48, M_newStamps)] (fun r h' => (48 < c + (c - a) * (tm - 1) ∧ r = some (.inl 0) ∧ h' = [.inr (11, [.inr (some (.inr M_now)), .inr (some (.inr M_aside)), .inr (some (.inr M_kept)), .inr (some (.inr M_mintAt)), .inr (some (.inr M_mintOf)), .inr (some (.inr M_wholeOf)), .inr (some (.inr M_isWall)), .inr (some (.inr M_wasWall)), .inl M_stampMany, .inr (some (.inr M_tape)), .inl M_taped, .inl M_place0, .inl M_length0, .inl ((f_sub (f_mul (-1000) 6) x)), .inl M_number0, .inl M_open, .inl M_codeMany, .inl M_waiting, .inl M_saidMany, .inl M_clauses, .inr (some (.inr M_said)), .inr (some (.inr M_waitsAt)), .inr (some (.inr M_saidLetter)), .inr (some (.inr M_saidFrom)), .inr (some (.inr M_saidHalf)), .inr (some (.inr M_saidTo)), .inr (some (.inr M_codes)), .inr (some (.inr M_clauseOf)), .inr (some (.inr M_codeFrom)), .inr (some (.inr M_codeHalf)), .inr (some (.inr M_codeTo)), .inr (some (.inr M_stack)), .inr (some (.inr M_facts)), .inr (some (.inl 1)), .inr (some (.inr M_roundFrom)), .inr (some (.inr M_roundAt)), .inr (some (.inr M_roundTimes)), .inl ((nI c)), .inl M_rounds, .inl M_stampFrom, .inl M_stampTimes, .inl M_lines, .inl M_spot0, .inl M_pullAcross, .inl M_pullAlong, .inl M_stepsNow, .inl M_fallenNow, .inr (some (.inr M_usesNow)), .inr (some (.inr M_wasAt)), .inr (some (.inr M_someOf)), .inr (some (.inr M_fewestFor)), .inr (some (.inr M_getsOf)), .inl M_isKept]), .inl (0, 48, M_newStamps)]) ∨ (c + (c - a) * (tm - 1) ≤ 48 ∧ r = some (.inl 1) ∧ ∃ ns : Nat → Int32, nsR ns ∧ nsX ns (cpF g c (c - a) ((c - a) * (tm - 1))) (c + (c - a) * (tm - 1)) ∧ h' = [.inr (11, [.inr (some (.inr M_now)), .inr (some (.inr M_aside)), .inr (some (.inr M_kept)), .inr (some (.inr M_mintAt)), .inr (some (.inr M_mintOf)), .inr (some (.inr M_wholeOf)), .inr (some (.inr M_isWall)), .inr (some (.inr M_wasWall)), .inl M_stampMany, .inr (some (.inr M_tape)), .inl M_taped, .inl M_place0, .inl M_length0, .inl M_fault, .inl M_number0, .inl M_open, .inl M_codeMany, .inl M_waiting, .inl M_saidMany, .inl M_clauses, .inr (some (.inr M_said)), .inr (some (.inr M_waitsAt)), .inr (some (.inr M_saidLetter)), .inr (some (.inr M_saidFrom)), .inr (some (.inr M_saidHalf)), .inr (some (.inr M_saidTo)), .inr (some (.inr M_codes)), .inr (some (.inr M_clauseOf)), .inr (some (.inr M_codeFrom)), .inr (some (.inr M_codeHalf)), .inr (some (.inr M_codeTo)), .inr (some (.inr M_stack)), .inr (some (.inr M_facts)), .inr (some (.inl 1)), .inr (some (.inr M_roundFrom)), .inr (some (.inr M_roundAt)), .inr (some (.inr M_roundTimes)), .inl ((nI (c + (c - a) * (tm - 1)))), .inl M_rounds, .inl M_stampFrom, .inl M_stampTimes, .inl M_lines, .inl M_spot0, .inl M_pullAcross, .inl M_pullAlong, .inl M_stepsNow, .inl M_fallenNow, .inr (some (.inr M_usesNow)), .inr (some (.inr M_wasAt)), .inr (some (.inr M_someOf)), .inr (some (.inr M_fewestFor)), .inr (some (.inr M_getsOf)), .inl M_isKept]), .inl (0, 48, ns)])) := by
  subst eN eA
  obtain ⟨y, rfl⟩ : ∃ y, c = a + y := ⟨c - a, by omega⟩
  rw [show a + y - a = y by omega]
  obtain ⟨t, rfl⟩ : ∃ t, tm = t + 1 := ⟨tm - 1, by omega⟩
  rw [show t + 1 - 1 = t by omega]
  have e1 : f_sub (nI (a + y)) (nI a) = nI y := by
    show nI (a + y) - nI a = nI y
    rw [nI_sub (by omega), Nat.add_sub_cancel_left]
  have e2 : f_mul (nI y) (nI (t + 1)) = nI (y * (t + 1)) := nI_mul y (t + 1)
  have ey : y * (t + 1) = y + y * t := by rw [Nat.mul_add, Nat.mul_one]; omega
  have e3 : f_add (nI a) (nI (y * (t + 1))) = nI (a + y + y * t) := by rw [ey]; show nI a + nI (y + y * t) = _; rw [nI_add, Nat.add_assoc]
  have hyb : y * t ≤ 48 * 8 := Nat.mul_le_mul (by omega) (by omega)
  refine m_X12_repeats (fun μ L st h => ∃ (s : Nat) (ns : Nat → Int32), μ = y * t - s ∧ s ≤ y * t ∧ a + y + y * t ≤ 48 ∧ nsR ns ∧ nsX ns (cpF g (a + y) y s) (a + y + s) ∧ L = [some (.inr (some (.inl 0))), some (.inl (nI a)), some (.inl (nI (t + 1))), some (.inl x), some (.inl (f_sub (nI (a + y)) (nI a))), some (.inl (nI (y + s)))] ∧ st = [] ∧ h = [.inr (11, [.inr (some (.inr M_now)), .inr (some (.inr M_aside)), .inr (some (.inr M_kept)), .inr (some (.inr M_mintAt)), .inr (some (.inr M_mintOf)), .inr (some (.inr M_wholeOf)), .inr (some (.inr M_isWall)), .inr (some (.inr M_wasWall)), .inl M_stampMany, .inr (some (.inr M_tape)), .inl M_taped, .inl M_place0, .inl M_length0, .inl M_fault, .inl M_number0, .inl M_open, .inl M_codeMany, .inl M_waiting, .inl M_saidMany, .inl M_clauses, .inr (some (.inr M_said)), .inr (some (.inr M_waitsAt)), .inr (some (.inr M_saidLetter)), .inr (some (.inr M_saidFrom)), .inr (some (.inr M_saidHalf)), .inr (some (.inr M_saidTo)), .inr (some (.inr M_codes)), .inr (some (.inr M_clauseOf)), .inr (some (.inr M_codeFrom)), .inr (some (.inr M_codeHalf)), .inr (some (.inr M_codeTo)), .inr (some (.inr M_stack)), .inr (some (.inr M_facts)), .inr (some (.inl 1)), .inr (some (.inr M_roundFrom)), .inr (some (.inr M_roundAt)), .inr (some (.inr M_roundTimes)), .inl ((nI (a + y))), .inl M_rounds, .inl M_stampFrom, .inl M_stampTimes, .inl M_lines, .inl M_spot0, .inl M_pullAcross, .inl M_pullAlong, .inl M_stepsNow, .inl M_fallenNow, .inr (some (.inr M_usesNow)), .inr (some (.inr M_wasAt)), .inr (some (.inr M_someOf)), .inr (some (.inr M_fewestFor)), .inr (some (.inr M_getsOf)), .inl M_isKept]), .inl (0, 48, ns)]) (Nat.le_of_ble_eq_true rfl) ?_ ?_
  · refine And.intro (fun (q1 : f_add (nI a) (f_mul (f_sub (nI (a + y)) (nI a)) (nI (t + 1))) ≤ 48) => ?_) (fun (q1 : ¬ f_add (nI a) (f_mul (f_sub (nI (a + y)) (nI a)) (nI (t + 1))) ≤ 48) => ?_) <;> rw [e1, e2, e3] at q1
    · have q1 := (nI_leI (b := 48) (by omega) (by omega)).mp q1
      refine ⟨_, 0, M_newStamps, rfl, by omega, q1, hR, hX, ?_, rfl, rfl⟩
      rw [e1]
      rfl
    · have q1 : 48 < a + y + y * t := Nat.lt_of_not_le fun z => q1 ((nI_leI (b := 48) (by omega) (by omega)).mpr z)
      refine call0 (c_X12_wrongAt) rfl rfl ?_
      rintro r h' ⟨rfl, rfl⟩
      exact And.intro (Or.inl rfl) (Or.inl ⟨q1, rfl, rfl⟩)
  · rintro μ L st h ⟨s, ns, hμ, h2, h3, h4, h5, rfl, rfl, rfl⟩
    refine And.intro (fun (q1 : f_mul (f_sub (nI (a + y)) (nI a)) (nI (t + 1)) ≤ nI (y + s)) => ?_) (fun (q1 : ¬ f_mul (f_sub (nI (a + y)) (nI a)) (nI (t + 1)) ≤ nI (y + s)) => ?_) <;> rw [e1, e2] at q1
    · have q1 := (nI_leI (by omega) (by omega)).mp q1
      obtain rfl : s = y * t := by omega
      refine And.intro (Or.inr rfl) (Or.inr ⟨h3, rfl, ns, h4, h5, ?_⟩)
      rw [← e3, ← e2, ← e1]
    · have q1 : y + s < y * (t + 1) := Nat.lt_of_not_le fun z => q1 ((nI_leI (by omega) (by omega)).mpr z)
      have e4 : f_add (nI a) (nI (y + s)) = nI (a + y + s) := by show nI a + nI (y + s) = _; rw [nI_add, Nat.add_assoc]
      have e5 : f_sub (nI (a + y + s)) (nI y) = nI (a + s) := by rw [fsub_n (by omega), show a + y + s - y = a + s by omega]
      refine And.intro (by rw [e4, e1, e5]; exact vp_in_nI (by omega) (by omega)) (And.intro (by rw [e4]; exact vp_in_nI (by omega) (by omega)) ?_)
      refine ⟨y * t - (s + 1), by omega, s + 1, _, rfl, by omega, h3, fun i hi => ?_, fun i hi => ?_, ?_, rfl, rfl⟩
      · rw [e4, e1, e5, nI_clamp (by omega), nI_clamp (by omega)]
        unfold upd
        split
        · exact h4 (a + s) (by omega)
        · exact h4 i hi
      · rw [e4, e1, e5, nI_clamp (by omega), nI_clamp (by omega)]
        show updN (cpF g (a + y) y s) (a + y + s) (cpF g (a + y) y s (a + y + s - y)) i ≤ 23 ∧ upd ns (a + y + s) (ns (a + s)) i = nI (updN (cpF g (a + y) y s) (a + y + s) (cpF g (a + y) y s (a + y + s - y)) i)
        by_cases e : i = a + y + s
        · have y1 : 1 ≤ y := Nat.pos_of_ne_zero (fun z => by rw [z, Nat.zero_mul] at q1; omega)
          subst e
          rw [upd_sI, updN_s, show a + y + s - y = a + s by omega]
          exact h5 (a + s) (by omega)
        · rw [upd_nI e, updN_n e]
          exact h5 i (by omega)
      · rw [← Nat.add_assoc, ← nI_1 (y + s)]
theorem x_X12_readsStamp {l : Launch} {M_now M_aside M_kept M_mintAt M_mintOf M_wholeOf M_isWall M_wasWall M_said M_waitsAt M_saidLetter M_saidFrom M_saidHalf M_saidTo M_codes M_clauseOf M_codeFrom M_codeHalf M_codeTo M_stack M_facts M_usesNow M_wasAt M_someOf M_fewestFor M_getsOf : List (Option Nat)} {M_stampMany M_taped M_fault M_number0 M_open M_codeMany M_waiting M_saidMany M_clauses M_stampFrom M_stampTimes M_lines M_spot0 M_pullAcross M_pullAlong M_stepsNow M_fallenNow M_isKept : Int32} {M_tape M_newStamps M_roundFrom M_roundAt M_roundTimes : Nat → Int32}  {b g : Nat → Nat} {stk : Stk} {p n c : Nat} (hp : p ≤ n) (hn : n ≤ 60) (hc : c ≤ 48) (hG : goT b n true 0 0 (fun _ => 0) [] true p c g stk) (hW : stW n c stk) (hS : stR M_roundFrom M_roundAt M_roundTimes stk) (hR : nsR M_newStamps) (hX : nsX M_newStamps g c) (hb : txM M_tape b n) : MetP l 2 yX12_readsStamp cX12_readsStamp 5 (some .boolean) 0 0 [.inr (some (.inl 0))] [.inr (11, [.inr (some (.inr M_now)), .inr (some (.inr M_aside)), .inr (some (.inr M_kept)), .inr (some (.inr M_mintAt)), .inr (some (.inr M_mintOf)), .inr (some (.inr M_wholeOf)), .inr (some (.inr M_isWall)), .inr (some (.inr M_wasWall)), .inl M_stampMany, .inr (some (.inl 1)), .inl M_taped, .inl ((nI p)), .inl ((nI n)), .inl M_fault, .inl M_number0, .inl M_open, .inl M_codeMany, .inl M_waiting, .inl M_saidMany, .inl M_clauses, .inr (some (.inr M_said)), .inr (some (.inr M_waitsAt)), .inr (some (.inr M_saidLetter)), .inr (some (.inr M_saidFrom)), .inr (some (.inr M_saidHalf)), .inr (some (.inr M_saidTo)), .inr (some (.inr M_codes)), .inr (some (.inr M_clauseOf)), .inr (some (.inr M_codeFrom)), .inr (some (.inr M_codeHalf)), .inr (some (.inr M_codeTo)), .inr (some (.inr M_stack)), .inr (some (.inr M_facts)), .inr (some (.inl 2)), .inr (some (.inl 3)), .inr (some (.inl 4)), .inr (some (.inl 5)), .inl ((nI c)), .inl ((nI stk.length)), .inl M_stampFrom, .inl M_stampTimes, .inl M_lines, .inl M_spot0, .inl M_pullAcross, .inl M_pullAlong, .inl M_stepsNow, .inl M_fallenNow, .inr (some (.inr M_usesNow)), .inr (some (.inr M_wasAt)), .inr (some (.inr M_someOf)), .inr (some (.inr M_fewestFor)), .inr (some (.inr M_getsOf)), .inl M_isKept]), .inl (1, 260, M_tape), .inl (0, 48, M_newStamps), .inl (0, 2, M_roundFrom), .inl (0, 2, M_roundAt), .inl (0, 2, M_roundTimes)] (fun r h' => (r = some (.inl 0) ∧ ∃ (k a p' c' s' : Nat) (ns rf ra rt : Nat → Int32) (sf st : Int32), goF b n true 0 0 (fun _ => 0) [] k a ∧ (1 ≤ k ∧ k ≤ 9) ∧ a ≤ n ∧ p' ≤ n ∧ c' ≤ 48 ∧ nsR ns ∧ h' = [.inr (11, [.inr (some (.inr M_now)), .inr (some (.inr M_aside)), .inr (some (.inr M_kept)), .inr (some (.inr M_mintAt)), .inr (some (.inr M_mintOf)), .inr (some (.inr M_wholeOf)), .inr (some (.inr M_isWall)), .inr (some (.inr M_wasWall)), .inl M_stampMany, .inr (some (.inl 1)), .inl M_taped, .inl ((nI p')), .inl ((nI n)), .inl ((ftV k a)), .inl M_number0, .inl M_open, .inl M_codeMany, .inl M_waiting, .inl M_saidMany, .inl M_clauses, .inr (some (.inr M_said)), .inr (some (.inr M_waitsAt)), .inr (some (.inr M_saidLetter)), .inr (some (.inr M_saidFrom)), .inr (some (.inr M_saidHalf)), .inr (some (.inr M_saidTo)), .inr (some (.inr M_codes)), .inr (some (.inr M_clauseOf)), .inr (some (.inr M_codeFrom)), .inr (some (.inr M_codeHalf)), .inr (some (.inr M_codeTo)), .inr (some (.inr M_stack)), .inr (some (.inr M_facts)), .inr (some (.inl 2)), .inr (some (.inl 3)), .inr (some (.inl 4)), .inr (some (.inl 5)), .inl ((nI c')), .inl ((nI s')), .inl sf, .inl st, .inl M_lines, .inl M_spot0, .inl M_pullAcross, .inl M_pullAlong, .inl M_stepsNow, .inl M_fallenNow, .inr (some (.inr M_usesNow)), .inr (some (.inr M_wasAt)), .inr (some (.inr M_someOf)), .inr (some (.inr M_fewestFor)), .inr (some (.inr M_getsOf)), .inl M_isKept]), .inl (1, 260, M_tape), .inl (0, 48, ns), .inl (0, 2, rf), .inl (0, 2, ra), .inl (0, 2, rt)]) ∨ (r = some (.inl 1) ∧ ∃ (p' c' : Nat) (g' : Nat → Nat) (stk' : Stk) (ns rf ra rt : Nat → Int32) (sf st : Int32), goT b n true 0 0 (fun _ => 0) [] false p' c' g' stk' ∧ (stk' = [] ∨ ¬ hr b n p' = 41) ∧ p < p' ∧ p' ≤ n ∧ c' ≤ 48 ∧ stW n c' stk' ∧ stR rf ra rt stk' ∧ nsR ns ∧ nsX ns g' c' ∧ h' = [.inr (11, [.inr (some (.inr M_now)), .inr (some (.inr M_aside)), .inr (some (.inr M_kept)), .inr (some (.inr M_mintAt)), .inr (some (.inr M_mintOf)), .inr (some (.inr M_wholeOf)), .inr (some (.inr M_isWall)), .inr (some (.inr M_wasWall)), .inl M_stampMany, .inr (some (.inl 1)), .inl M_taped, .inl ((nI p')), .inl ((nI n)), .inl M_fault, .inl M_number0, .inl M_open, .inl M_codeMany, .inl M_waiting, .inl M_saidMany, .inl M_clauses, .inr (some (.inr M_said)), .inr (some (.inr M_waitsAt)), .inr (some (.inr M_saidLetter)), .inr (some (.inr M_saidFrom)), .inr (some (.inr M_saidHalf)), .inr (some (.inr M_saidTo)), .inr (some (.inr M_codes)), .inr (some (.inr M_clauseOf)), .inr (some (.inr M_codeFrom)), .inr (some (.inr M_codeHalf)), .inr (some (.inr M_codeTo)), .inr (some (.inr M_stack)), .inr (some (.inr M_facts)), .inr (some (.inl 2)), .inr (some (.inl 3)), .inr (some (.inl 4)), .inr (some (.inl 5)), .inl ((nI c')), .inl ((nI stk'.length)), .inl sf, .inl st, .inl M_lines, .inl M_spot0, .inl M_pullAcross, .inl M_pullAlong, .inl M_stepsNow, .inl M_fallenNow, .inr (some (.inr M_usesNow)), .inr (some (.inr M_wasAt)), .inr (some (.inr M_someOf)), .inr (some (.inr M_fewestFor)), .inr (some (.inr M_getsOf)), .inl M_isKept]), .inl (1, 260, M_tape), .inl (0, 48, ns), .inl (0, 2, rf), .inl (0, 2, ra), .inl (0, 2, rt)])) := by
  have hbb : ∀ i, i < n → b i ≤ 255 := fun i hi => (hb i hi).1
  refine m_X12_readsStamp (fun μ L st0 h => ∃ (p1 : Nat) (stk1 : Stk) (rf ra rt : Nat → Int32), μ = 1000 + (240 - tmQ b n p1) ∧ p ≤ p1 ∧ p1 ≤ n ∧ goT b n true 0 0 (fun _ => 0) [] true p1 c g stk1 ∧ stW n c stk1 ∧ stR rf ra rt stk1 ∧ L = [some (.inr (some (.inl 0))), none, none, none, none] ∧ st0 = [] ∧ h = [.inr (11, [.inr (some (.inr M_now)), .inr (some (.inr M_aside)), .inr (some (.inr M_kept)), .inr (some (.inr M_mintAt)), .inr (some (.inr M_mintOf)), .inr (some (.inr M_wholeOf)), .inr (some (.inr M_isWall)), .inr (some (.inr M_wasWall)), .inl M_stampMany, .inr (some (.inl 1)), .inl M_taped, .inl ((nI (tmQ b n p1))), .inl ((nI n)), .inl M_fault, .inl M_number0, .inl M_open, .inl M_codeMany, .inl M_waiting, .inl M_saidMany, .inl M_clauses, .inr (some (.inr M_said)), .inr (some (.inr M_waitsAt)), .inr (some (.inr M_saidLetter)), .inr (some (.inr M_saidFrom)), .inr (some (.inr M_saidHalf)), .inr (some (.inr M_saidTo)), .inr (some (.inr M_codes)), .inr (some (.inr M_clauseOf)), .inr (some (.inr M_codeFrom)), .inr (some (.inr M_codeHalf)), .inr (some (.inr M_codeTo)), .inr (some (.inr M_stack)), .inr (some (.inr M_facts)), .inr (some (.inl 2)), .inr (some (.inl 3)), .inr (some (.inl 4)), .inr (some (.inl 5)), .inl ((nI c)), .inl ((nI stk1.length)), .inl ((nI p1)), .inl ((nI (tmN b n p1))), .inl M_lines, .inl M_spot0, .inl M_pullAcross, .inl M_pullAlong, .inl M_stepsNow, .inl M_fallenNow, .inr (some (.inr M_usesNow)), .inr (some (.inr M_wasAt)), .inr (some (.inr M_someOf)), .inr (some (.inr M_fewestFor)), .inr (some (.inr M_getsOf)), .inl M_isKept]), .inl (1, 260, M_tape), .inl (0, 48, M_newStamps), .inl (0, 2, rf), .inl (0, 2, ra), .inl (0, 2, rt)]) (fun μ L st0 h => ∃ (p1 c1 : Nat) (g1 : Nat → Nat) (stk1 : Stk) (ns rf ra rt : Nat → Int32) (sf st : Int32) (z1 z2 z3 z4 : Option PV), μ = 240 - p1 ∧ p < p1 ∧ p1 ≤ n ∧ c1 ≤ 48 ∧ goT b n true 0 0 (fun _ => 0) [] false p1 c1 g1 stk1 ∧ stW n c1 stk1 ∧ stR rf ra rt stk1 ∧ nsR ns ∧ nsX ns g1 c1 ∧ L = [some (.inr (some (.inl 0))), z1, z2, z3, z4] ∧ st0 = [] ∧ h = [.inr (11, [.inr (some (.inr M_now)), .inr (some (.inr M_aside)), .inr (some (.inr M_kept)), .inr (some (.inr M_mintAt)), .inr (some (.inr M_mintOf)), .inr (some (.inr M_wholeOf)), .inr (some (.inr M_isWall)), .inr (some (.inr M_wasWall)), .inl M_stampMany, .inr (some (.inl 1)), .inl M_taped, .inl ((nI p1)), .inl ((nI n)), .inl M_fault, .inl M_number0, .inl M_open, .inl M_codeMany, .inl M_waiting, .inl M_saidMany, .inl M_clauses, .inr (some (.inr M_said)), .inr (some (.inr M_waitsAt)), .inr (some (.inr M_saidLetter)), .inr (some (.inr M_saidFrom)), .inr (some (.inr M_saidHalf)), .inr (some (.inr M_saidTo)), .inr (some (.inr M_codes)), .inr (some (.inr M_clauseOf)), .inr (some (.inr M_codeFrom)), .inr (some (.inr M_codeHalf)), .inr (some (.inr M_codeTo)), .inr (some (.inr M_stack)), .inr (some (.inr M_facts)), .inr (some (.inl 2)), .inr (some (.inl 3)), .inr (some (.inl 4)), .inr (some (.inl 5)), .inl ((nI c1)), .inl ((nI stk1.length)), .inl sf, .inl st, .inl M_lines, .inl M_spot0, .inl M_pullAcross, .inl M_pullAlong, .inl M_stepsNow, .inl M_fallenNow, .inr (some (.inr M_usesNow)), .inr (some (.inr M_wasAt)), .inr (some (.inr M_someOf)), .inr (some (.inr M_fewestFor)), .inr (some (.inr M_getsOf)), .inl M_isKept]), .inl (1, 260, M_tape), .inl (0, 48, ns), .inl (0, 2, rf), .inl (0, 2, ra), .inl (0, 2, rt)]) (Nat.le_of_ble_eq_true rfl) ?_ ?_ ?_
  · refine call0 (x_X12_readsTimes (b := b) (p := p) (n := n) rfl hp (by omega) hb) rfl rfl ?_
    rintro r h' ⟨rfl, rfl⟩
    exact ⟨_, p, stk, M_roundFrom, M_roundAt, M_roundTimes, rfl, by omega, hp, hG, hW, hS, rfl, rfl, rfl⟩
  · rintro μ L st0 h ⟨p1, stk1, rf, ra, rt, hμ, h1, h2, h3, h4, h5, rfl, rfl, rfl⟩
    have hl := stW_len h4
    obtain ⟨t0, tq, t1, t9⟩ := tm_le (b := b) h2
    have ci : ∀ {z : Nat} {N : Nat}, z < N → N ≤ 48 → vp_in (nI z) N := fun q1 q2 => vp_in_nI q1 (by omega)
    refine call0 (c_X12_here (by omega) (by omega)) rfl rfl ?_
    rintro r h' ⟨rfl, rfl⟩
    rw [hereV_a hb]
    refine And.intro (fun q1 => ?_) (fun q1 => ?_)
    · have q1 := (aV_eq (k := 40) hbb (by omega)).mp q1
      have hlt := hr_lt q1 (by omega)
      refine And.intro (fun q2 => ?_) (fun q2 => ?_)
      · have q2 := (nI_eq (b := 2) (by omega) (by omega)).mp q2
        refine call0 (c_X12_wrongAt) rfl rfl ?_
        rintro r h' ⟨rfl, rfl⟩
        exact And.intro (Or.inl rfl) (Or.inl ⟨rfl, 5, tmQ b n p1, tmQ b n p1, c, _, M_newStamps, rf, ra, rt, _, _, goT_F h3 (st_deep q1 q2), by omega, tq, tq, hc, hR, rfl⟩)
      · have q2 : ¬ stk1.length = 2 := fun z => q2 ((nI_eq (b := 2) (by omega) (by omega)).mpr z)
        have hr2 : stk1.length < 2 := by omega
        refine And.intro (ci hr2 (by omega)) (And.intro (ci hr2 (by omega)) (And.intro (ci hr2 (by omega)) ?_))
        rw [nI_clamp (by omega)]
        refine call0 (x_X12_readsTimes (b := b) (p := tmQ b n p1 + 1) (n := n) (nI_1 (tmQ b n p1)) (by omega) (by omega) hb) rfl rfl ?_
        rintro r h' ⟨rfl, rfl⟩
        obtain ⟨u0, u1, _, _⟩ := tm_le (b := b) (n := n) (p := tmQ b n p1 + 1) (by omega)
        refine ⟨1000 + (240 - tmQ b n (tmQ b n p1 + 1)), by omega, tmQ b n p1 + 1, (p1, c, tmN b n p1) :: stk1, upd rf stk1.length (nI p1), upd ra stk1.length (nI c), upd rt stk1.length (nI (tmN b n p1)), rfl, by omega, by omega, goT_go h3 (st_open q1 q2), ⟨h2, Nat.le_refl _, t1, t9, hr2, h4⟩, ⟨upd_sI, upd_sI, upd_sI, stR_upd (Nat.le_refl _) h5⟩, rfl, rfl, ?_⟩
        show _ = ([.inr (11, [.inr (some (.inr M_now)), .inr (some (.inr M_aside)), .inr (some (.inr M_kept)), .inr (some (.inr M_mintAt)), .inr (some (.inr M_mintOf)), .inr (some (.inr M_wholeOf)), .inr (some (.inr M_isWall)), .inr (some (.inr M_wasWall)), .inl M_stampMany, .inr (some (.inl 1)), .inl M_taped, .inl ((nI (tmQ b n (tmQ b n p1 + 1)))), .inl ((nI n)), .inl M_fault, .inl M_number0, .inl M_open, .inl M_codeMany, .inl M_waiting, .inl M_saidMany, .inl M_clauses, .inr (some (.inr M_said)), .inr (some (.inr M_waitsAt)), .inr (some (.inr M_saidLetter)), .inr (some (.inr M_saidFrom)), .inr (some (.inr M_saidHalf)), .inr (some (.inr M_saidTo)), .inr (some (.inr M_codes)), .inr (some (.inr M_clauseOf)), .inr (some (.inr M_codeFrom)), .inr (some (.inr M_codeHalf)), .inr (some (.inr M_codeTo)), .inr (some (.inr M_stack)), .inr (some (.inr M_facts)), .inr (some (.inl 2)), .inr (some (.inl 3)), .inr (some (.inl 4)), .inr (some (.inl 5)), .inl ((nI c)), .inl ((nI (stk1.length + 1))), .inl ((nI (tmQ b n p1 + 1))), .inl ((nI (tmN b n (tmQ b n p1 + 1)))), .inl M_lines, .inl M_spot0, .inl M_pullAcross, .inl M_pullAlong, .inl M_stepsNow, .inl M_fallenNow, .inr (some (.inr M_usesNow)), .inr (some (.inr M_wasAt)), .inr (some (.inr M_someOf)), .inr (some (.inr M_fewestFor)), .inr (some (.inr M_getsOf)), .inl M_isKept]), .inl (1, 260, M_tape), .inl (0, 48, M_newStamps), .inl (0, 2, (upd rf stk1.length (nI p1))), .inl (0, 2, (upd ra stk1.length (nI c))), .inl (0, 2, (upd rt stk1.length (nI (tmN b n p1))))] : PH)
        rw [← nI_1 stk1.length]
        rfl
    · have q1 : ¬ hr b n (tmQ b n p1) = 40 := fun z => q1 ((aV_eq (k := 40) hbb (by omega)).mpr z)
      refine call0 (c_X12_here (by omega) (by omega)) rfl rfl ?_
      rintro r h' ⟨rfl, rfl⟩
      rw [hereV_a hb]
      refine call0 (c_in) rfl rfl ?_
      rintro r h' ⟨rfl, rfl⟩
      by_cases w : 97 ≤ hr b n (tmQ b n p1) ∧ hr b n (tmQ b n p1) ≤ 104
      · have em : f_sub (aV b n (tmQ b n p1)) 97 = nI (hr b n (tmQ b n p1) - 97) := fsub_k (k := 97) (by omega) (by omega)
        have hlt := hr_lt2 (b := b) (n := n) (p := tmQ b n p1) (by omega)
        obtain ⟨r1, r2, r3⟩ := wh_le (b := b) (n := n) (r := tmQ b n p1 + 1) (by omega)
        refine br_b (fun z => absurd (by rw [em]; exact (nI_bt (a := 0) (b := 7) (by omega) (by omega) (by omega)).mpr ⟨by omega, by omega⟩) z) (fun _ => ?_)
        have b190 : ∀ {C4 : Blk} {PP : Int32}, PP = nI (whQ b n (tmQ b n p1 + 1)) → b_X12_readsStamp_190 l C4 (ltb (fun μ L st0 h => ∃ (p1 c1 : Nat) (g1 : Nat → Nat) (stk1 : Stk) (ns rf ra rt : Nat → Int32) (sf st : Int32) (z1 z2 z3 z4 : Option PV), μ = 240 - p1 ∧ p < p1 ∧ p1 ≤ n ∧ c1 ≤ 48 ∧ goT b n true 0 0 (fun _ => 0) [] false p1 c1 g1 stk1 ∧ stW n c1 stk1 ∧ stR rf ra rt stk1 ∧ nsR ns ∧ nsX ns g1 c1 ∧ L = [some (.inr (some (.inl 0))), z1, z2, z3, z4] ∧ st0 = [] ∧ h = [.inr (11, [.inr (some (.inr M_now)), .inr (some (.inr M_aside)), .inr (some (.inr M_kept)), .inr (some (.inr M_mintAt)), .inr (some (.inr M_mintOf)), .inr (some (.inr M_wholeOf)), .inr (some (.inr M_isWall)), .inr (some (.inr M_wasWall)), .inl M_stampMany, .inr (some (.inl 1)), .inl M_taped, .inl ((nI p1)), .inl ((nI n)), .inl M_fault, .inl M_number0, .inl M_open, .inl M_codeMany, .inl M_waiting, .inl M_saidMany, .inl M_clauses, .inr (some (.inr M_said)), .inr (some (.inr M_waitsAt)), .inr (some (.inr M_saidLetter)), .inr (some (.inr M_saidFrom)), .inr (some (.inr M_saidHalf)), .inr (some (.inr M_saidTo)), .inr (some (.inr M_codes)), .inr (some (.inr M_clauseOf)), .inr (some (.inr M_codeFrom)), .inr (some (.inr M_codeHalf)), .inr (some (.inr M_codeTo)), .inr (some (.inr M_stack)), .inr (some (.inr M_facts)), .inr (some (.inl 2)), .inr (some (.inl 3)), .inr (some (.inl 4)), .inr (some (.inl 5)), .inl ((nI c1)), .inl ((nI stk1.length)), .inl sf, .inl st, .inl M_lines, .inl M_spot0, .inl M_pullAcross, .inl M_pullAlong, .inl M_stepsNow, .inl M_fallenNow, .inr (some (.inr M_usesNow)), .inr (some (.inr M_wasAt)), .inr (some (.inr M_someOf)), .inr (some (.inr M_fewestFor)), .inr (some (.inr M_getsOf)), .inl M_isKept]), .inl (1, 260, M_tape), .inl (0, 48, ns), .inl (0, 2, rf), .inl (0, 2, ra), .inl (0, 2, rt)]) μ) (fun r h' => (r = some (.inl 0) ∧ ∃ (k a p' c' s' : Nat) (ns rf ra rt : Nat → Int32) (sf st : Int32), goF b n true 0 0 (fun _ => 0) [] k a ∧ (1 ≤ k ∧ k ≤ 9) ∧ a ≤ n ∧ p' ≤ n ∧ c' ≤ 48 ∧ nsR ns ∧ h' = [.inr (11, [.inr (some (.inr M_now)), .inr (some (.inr M_aside)), .inr (some (.inr M_kept)), .inr (some (.inr M_mintAt)), .inr (some (.inr M_mintOf)), .inr (some (.inr M_wholeOf)), .inr (some (.inr M_isWall)), .inr (some (.inr M_wasWall)), .inl M_stampMany, .inr (some (.inl 1)), .inl M_taped, .inl ((nI p')), .inl ((nI n)), .inl ((ftV k a)), .inl M_number0, .inl M_open, .inl M_codeMany, .inl M_waiting, .inl M_saidMany, .inl M_clauses, .inr (some (.inr M_said)), .inr (some (.inr M_waitsAt)), .inr (some (.inr M_saidLetter)), .inr (some (.inr M_saidFrom)), .inr (some (.inr M_saidHalf)), .inr (some (.inr M_saidTo)), .inr (some (.inr M_codes)), .inr (some (.inr M_clauseOf)), .inr (some (.inr M_codeFrom)), .inr (some (.inr M_codeHalf)), .inr (some (.inr M_codeTo)), .inr (some (.inr M_stack)), .inr (some (.inr M_facts)), .inr (some (.inl 2)), .inr (some (.inl 3)), .inr (some (.inl 4)), .inr (some (.inl 5)), .inl ((nI c')), .inl ((nI s')), .inl sf, .inl st, .inl M_lines, .inl M_spot0, .inl M_pullAcross, .inl M_pullAlong, .inl M_stepsNow, .inl M_fallenNow, .inr (some (.inr M_usesNow)), .inr (some (.inr M_wasAt)), .inr (some (.inr M_someOf)), .inr (some (.inr M_fewestFor)), .inr (some (.inr M_getsOf)), .inl M_isKept]), .inl (1, 260, M_tape), .inl (0, 48, ns), .inl (0, 2, rf), .inl (0, 2, ra), .inl (0, 2, rt)]) ∨ (r = some (.inl 1) ∧ ∃ (p' c' : Nat) (g' : Nat → Nat) (stk' : Stk) (ns rf ra rt : Nat → Int32) (sf st : Int32), goT b n true 0 0 (fun _ => 0) [] false p' c' g' stk' ∧ (stk' = [] ∨ ¬ hr b n p' = 41) ∧ p < p' ∧ p' ≤ n ∧ c' ≤ 48 ∧ stW n c' stk' ∧ stR rf ra rt stk' ∧ nsR ns ∧ nsX ns g' c' ∧ h' = [.inr (11, [.inr (some (.inr M_now)), .inr (some (.inr M_aside)), .inr (some (.inr M_kept)), .inr (some (.inr M_mintAt)), .inr (some (.inr M_mintOf)), .inr (some (.inr M_wholeOf)), .inr (some (.inr M_isWall)), .inr (some (.inr M_wasWall)), .inl M_stampMany, .inr (some (.inl 1)), .inl M_taped, .inl ((nI p')), .inl ((nI n)), .inl M_fault, .inl M_number0, .inl M_open, .inl M_codeMany, .inl M_waiting, .inl M_saidMany, .inl M_clauses, .inr (some (.inr M_said)), .inr (some (.inr M_waitsAt)), .inr (some (.inr M_saidLetter)), .inr (some (.inr M_saidFrom)), .inr (some (.inr M_saidHalf)), .inr (some (.inr M_saidTo)), .inr (some (.inr M_codes)), .inr (some (.inr M_clauseOf)), .inr (some (.inr M_codeFrom)), .inr (some (.inr M_codeHalf)), .inr (some (.inr M_codeTo)), .inr (some (.inr M_stack)), .inr (some (.inr M_facts)), .inr (some (.inl 2)), .inr (some (.inl 3)), .inr (some (.inl 4)), .inr (some (.inl 5)), .inl ((nI c')), .inl ((nI stk'.length)), .inl sf, .inl st, .inl M_lines, .inl M_spot0, .inl M_pullAcross, .inl M_pullAlong, .inl M_stepsNow, .inl M_fallenNow, .inr (some (.inr M_usesNow)), .inr (some (.inr M_wasAt)), .inr (some (.inr M_someOf)), .inr (some (.inr M_fewestFor)), .inr (some (.inr M_getsOf)), .inl M_isKept]), .inl (1, 260, M_tape), .inl (0, 48, ns), .inl (0, 2, rf), .inl (0, 2, ra), .inl (0, 2, rt)])) [some (.inr (some (.inl 0))), some (.inl (nI p1)), some (.inl (nI (tmN b n p1))), some (.inl (f_sub (aV b n (tmQ b n p1)) 97)), some (.inl (nI (whN b n (tmQ b n p1 + 1))))] [] [.inr (11, [.inr (some (.inr M_now)), .inr (some (.inr M_aside)), .inr (some (.inr M_kept)), .inr (some (.inr M_mintAt)), .inr (some (.inr M_mintOf)), .inr (some (.inr M_wholeOf)), .inr (some (.inr M_isWall)), .inr (some (.inr M_wasWall)), .inl M_stampMany, .inr (some (.inl 1)), .inl M_taped, .inl PP, .inl ((nI n)), .inl M_fault, .inl M_number0, .inl M_open, .inl M_codeMany, .inl M_waiting, .inl M_saidMany, .inl M_clauses, .inr (some (.inr M_said)), .inr (some (.inr M_waitsAt)), .inr (some (.inr M_saidLetter)), .inr (some (.inr M_saidFrom)), .inr (some (.inr M_saidHalf)), .inr (some (.inr M_saidTo)), .inr (some (.inr M_codes)), .inr (some (.inr M_clauseOf)), .inr (some (.inr M_codeFrom)), .inr (some (.inr M_codeHalf)), .inr (some (.inr M_codeTo)), .inr (some (.inr M_stack)), .inr (some (.inr M_facts)), .inr (some (.inl 2)), .inr (some (.inl 3)), .inr (some (.inl 4)), .inr (some (.inl 5)), .inl ((nI c)), .inl ((nI stk1.length)), .inl ((nI p1)), .inl ((nI (tmN b n p1))), .inl M_lines, .inl M_spot0, .inl M_pullAcross, .inl M_pullAlong, .inl M_stepsNow, .inl M_fallenNow, .inr (some (.inr M_usesNow)), .inr (some (.inr M_wasAt)), .inr (some (.inr M_someOf)), .inr (some (.inr M_fewestFor)), .inr (some (.inr M_getsOf)), .inl M_isKept]), .inl (1, 260, M_tape), .inl (0, 48, M_newStamps), .inl (0, 2, rf), .inl (0, 2, ra), .inl (0, 2, rt)] := by
          intro C4 PP eP
          subst eP
          refine And.intro (fun (q2 : f_add (nI c) (nI (tmN b n p1)) ≤ 48) => ?_) (fun (q2 : ¬ f_add (nI c) (nI (tmN b n p1)) ≤ 48) => ?_) <;> rw [show f_add (nI c) (nI (tmN b n p1)) = nI (c + tmN b n p1) from nI_add _ _] at q2
          · have q2 := (nI_leI (b := 48) (by omega) (by omega)).mp q2
            refine And.intro (ci (by omega) (by omega)) ?_
            rw [nI_clamp (by omega), em]
            have e3 : f_add (f_mul 3 (nI (hr b n (tmQ b n p1) - 97))) (nI (whN b n (tmQ b n p1 + 1))) = nI (3 * (hr b n (tmQ b n p1) - 97) + whN b n (tmQ b n p1 + 1)) := by
              show nI 3 * nI _ + nI _ = _
              rw [nI_mul, nI_add]
            rw [e3]
            have e4 : f_sub (f_add (nI c) 1) 1 = nI c := Int32.add_sub_cancel _ _
            have hns : nsR (upd M_newStamps c (nI (3 * (hr b n (tmQ b n p1) - 97) + whN b n (tmQ b n p1 + 1)))) := fun i hi => by
              by_cases e : i = c
              · subst e; rw [upd_sI, nI_toInt (by omega)]; omega
              · rw [upd_nI e]; exact hR i hi
            have hnx : nsX (upd M_newStamps c (nI (3 * (hr b n (tmQ b n p1) - 97) + whN b n (tmQ b n p1 + 1)))) (updN g c (3 * (hr b n (tmQ b n p1) - 97) + whN b n (tmQ b n p1 + 1))) (c + 1) := fun i hi => by
              by_cases e : i = c
              · subst e; exact ⟨by rw [updN_s]; omega, by rw [upd_sI, updN_s]⟩
              · rw [upd_nI e, updN_n e]; exact hX i (by omega)
            refine call0 (x_X12_repeats (a := c) (tm := tmN b n p1) (c := c + 1) (nI_1 c) e4 (by omega) (by omega) t1 t9 hns hnx) rfl rfl ?_
            have ec : c + 1 + (c + 1 - c) * (tmN b n p1 - 1) = c + tmN b n p1 := by rw [show c + 1 - c = 1 by omega, Nat.one_mul]; omega
            rintro _ h' (⟨k0, rfl, rfl⟩ | ⟨k0, rfl, ns, k1, k2, rfl⟩)
            · omega
            · refine And.intro (fun z => absurd z (show ¬ (1 : Int32) = 0 by decide)) (fun _ => ?_)
              have eg : cpF (updN g c (3 * (hr b n (tmQ b n p1) - 97) + whN b n (tmQ b n p1 + 1))) (c + 1) (c + 1 - c) ((c + 1 - c) * (tmN b n p1 - 1)) = flF g c (3 * (hr b n (tmQ b n p1) - 97) + whN b n (tmQ b n p1 + 1)) (tmN b n p1) := by
                rw [show c + 1 - c = 1 by omega, Nat.one_mul, flF_cp, show tmN b n p1 - 1 + 1 = tmN b n p1 by omega]
              rw [eg, ec] at k2
              exact ⟨240 - whQ b n (tmQ b n p1 + 1), by omega, whQ b n (tmQ b n p1 + 1), c + tmN b n p1, _, stk1, ns, rf, ra, rt, _, _, _, _, _, _, rfl, by omega, r2, q2, goT_go h3 (st_stamp w (by omega)), stW_up (by omega) h4, h5, k1, k2, rfl, rfl, by rw [ec]⟩
          · have q2 : 48 < c + tmN b n p1 := Nat.lt_of_not_le fun z => q2 ((nI_leI (b := 48) (by omega) (by omega)).mpr z)
            refine call0 (c_X12_wrongAt) rfl rfl ?_
            rintro r h' ⟨rfl, rfl⟩
            exact And.intro (Or.inl rfl) (Or.inl ⟨rfl, 6, p1, whQ b n (tmQ b n p1 + 1), c, _, M_newStamps, rf, ra, rt, _, _, goT_F h3 (st_many w q2), by omega, h2, r2, hc, hR, rfl⟩)
        refine call0 (e_X12_here (p := tmQ b n p1 + 1) (n := n) (nI_1 _) rfl (by omega) (by omega)) rfl rfl ?_
        rintro _ h' ⟨rfl, rfl⟩
        rw [hereV_a hb]
        have e2 : f_add (nI (tmQ b n p1 + 1)) 1 = nI (tmQ b n p1 + 1 + 1) := nI_1 _
        refine And.intro (fun q3 => ?_) (fun q3 => ?_)
        · have q3 := (aV_eq (k := 116) hbb (by omega)).mp q3
          refine And.intro (fun z => absurd z (show ¬ (2 : Int32) ≤ 1 by decide)) (fun _ => ?_)
          have eW : nI (whN b n (tmQ b n p1 + 1)) = 1 := by unfold whN; rw [if_pos q3]; rfl
          have z := b190 (C4 := Bz) (PP := f_add (nI (tmQ b n p1 + 1)) 1) (by rw [e2]; unfold whQ; rw [if_pos q3])
          rw [eW] at z
          exact z
        · have q3 : ¬ hr b n (tmQ b n p1 + 1) = 116 := fun z => q3 ((aV_eq (k := 116) hbb (by omega)).mpr z)
          refine call0 (c_X12_here (p := tmQ b n p1 + 1) (n := n) (by omega) (by omega)) rfl rfl ?_
          rintro _ h' ⟨rfl, rfl⟩
          rw [hereV_a hb]
          refine And.intro (fun q4 => ?_) (fun q4 => ?_)
          · have q4 := (aV_eq (k := 102) hbb (by omega)).mp q4
            refine And.intro (fun z => absurd z (show ¬ (2 : Int32) ≤ 0 by decide)) (fun _ => ?_)
            have eW : nI (whN b n (tmQ b n p1 + 1)) = 0 := by unfold whN; rw [if_neg q3, if_pos q4]; rfl
            have z := b190 (C4 := Bz) (PP := f_add (nI (tmQ b n p1 + 1)) 1) (by rw [e2]; unfold whQ; rw [if_neg q3, if_pos q4])
            rw [eW] at z
            exact z
          · have q4 : ¬ hr b n (tmQ b n p1 + 1) = 102 := fun z => q4 ((aV_eq (k := 102) hbb (by omega)).mpr z)
            refine And.intro (fun _ => ?_) (fun z => absurd (show (2 : Int32) ≤ 2 by decide) z)
            have eW : nI (whN b n (tmQ b n p1 + 1)) = 2 := by unfold whN; rw [if_neg q3, if_neg q4]; rfl
            have z := b190 (C4 := Bz) (PP := nI (tmQ b n p1 + 1)) (by unfold whQ; rw [if_neg q3, if_neg q4])
            rw [eW] at z
            exact z
      · refine br_b (fun _ => ?_) (fun z => ?_)
        · refine call0 (c_X12_wrongAt) rfl rfl ?_
          rintro r h' ⟨rfl, rfl⟩
          exact And.intro (Or.inl rfl) (Or.inl ⟨rfl, 1, tmQ b n p1, tmQ b n p1, c, _, M_newStamps, rf, ra, rt, _, _, goT_F h3 (st_bad q1 w), by omega, tq, tq, hc, hR, rfl⟩)
        · exfalso
          apply w
          have z1 := Int32.le_iff_toInt_le.mp z.1
          have z2 := Int32.le_iff_toInt_le.mp z.2
          have e0 : (0 : Int32).toInt = 0 := rfl
          have e7 : (7 : Int32).toInt = 7 := rfl
          by_cases q : tmQ b n p1 < n
          · have ea : aV b n (tmQ b n p1) = nI (b (tmQ b n p1)) := if_pos q
            have eh : hr b n (tmQ b n p1) = b (tmQ b n p1) := if_pos q
            have hb5 := hbb _ q
            have es := sub_i (a := b (tmQ b n p1)) (b := 97) (by omega) (by omega)
            rw [ea] at z1 z2
            have es : (f_sub (nI (b (tmQ b n p1))) 97).toInt = (b (tmQ b n p1) : Int) - 97 := es
            omega
          · have ea : aV b n (tmQ b n p1) = -1 := if_neg q
            rw [ea] at z1
            have es : (f_sub (-1) 97 : Int32).toInt = -98 := by decide
            omega
  · rintro μ L st0 h ⟨p1, c1, g1, stk1, ns, rf, ra, rt, sf, st, z1, z2, z3, z4, hμ, h1, h2, h3, h4, h5, h6, h7, h8, rfl, rfl, rfl⟩
    have hl := stW_len h5
    have ok : stk1 = [] ∨ ¬ hr b n p1 = 41 → (some (Sum.inl 1 : PV) = some (.inl 0) ∧ ∃ (k a p' c' s' : Nat) (ns2 rf2 ra2 rt2 : Nat → Int32) (sf2 st2 : Int32), goF b n true 0 0 (fun _ => 0) [] k a ∧ (1 ≤ k ∧ k ≤ 9) ∧ a ≤ n ∧ p' ≤ n ∧ c' ≤ 48 ∧ nsR ns2 ∧ ([.inr (11, [.inr (some (.inr M_now)), .inr (some (.inr M_aside)), .inr (some (.inr M_kept)), .inr (some (.inr M_mintAt)), .inr (some (.inr M_mintOf)), .inr (some (.inr M_wholeOf)), .inr (some (.inr M_isWall)), .inr (some (.inr M_wasWall)), .inl M_stampMany, .inr (some (.inl 1)), .inl M_taped, .inl ((nI p1)), .inl ((nI n)), .inl M_fault, .inl M_number0, .inl M_open, .inl M_codeMany, .inl M_waiting, .inl M_saidMany, .inl M_clauses, .inr (some (.inr M_said)), .inr (some (.inr M_waitsAt)), .inr (some (.inr M_saidLetter)), .inr (some (.inr M_saidFrom)), .inr (some (.inr M_saidHalf)), .inr (some (.inr M_saidTo)), .inr (some (.inr M_codes)), .inr (some (.inr M_clauseOf)), .inr (some (.inr M_codeFrom)), .inr (some (.inr M_codeHalf)), .inr (some (.inr M_codeTo)), .inr (some (.inr M_stack)), .inr (some (.inr M_facts)), .inr (some (.inl 2)), .inr (some (.inl 3)), .inr (some (.inl 4)), .inr (some (.inl 5)), .inl ((nI c1)), .inl ((nI stk1.length)), .inl sf, .inl st, .inl M_lines, .inl M_spot0, .inl M_pullAcross, .inl M_pullAlong, .inl M_stepsNow, .inl M_fallenNow, .inr (some (.inr M_usesNow)), .inr (some (.inr M_wasAt)), .inr (some (.inr M_someOf)), .inr (some (.inr M_fewestFor)), .inr (some (.inr M_getsOf)), .inl M_isKept]), .inl (1, 260, M_tape), .inl (0, 48, ns), .inl (0, 2, rf), .inl (0, 2, ra), .inl (0, 2, rt)] : PH) = [.inr (11, [.inr (some (.inr M_now)), .inr (some (.inr M_aside)), .inr (some (.inr M_kept)), .inr (some (.inr M_mintAt)), .inr (some (.inr M_mintOf)), .inr (some (.inr M_wholeOf)), .inr (some (.inr M_isWall)), .inr (some (.inr M_wasWall)), .inl M_stampMany, .inr (some (.inl 1)), .inl M_taped, .inl ((nI p')), .inl ((nI n)), .inl ((ftV k a)), .inl M_number0, .inl M_open, .inl M_codeMany, .inl M_waiting, .inl M_saidMany, .inl M_clauses, .inr (some (.inr M_said)), .inr (some (.inr M_waitsAt)), .inr (some (.inr M_saidLetter)), .inr (some (.inr M_saidFrom)), .inr (some (.inr M_saidHalf)), .inr (some (.inr M_saidTo)), .inr (some (.inr M_codes)), .inr (some (.inr M_clauseOf)), .inr (some (.inr M_codeFrom)), .inr (some (.inr M_codeHalf)), .inr (some (.inr M_codeTo)), .inr (some (.inr M_stack)), .inr (some (.inr M_facts)), .inr (some (.inl 2)), .inr (some (.inl 3)), .inr (some (.inl 4)), .inr (some (.inl 5)), .inl ((nI c')), .inl ((nI s')), .inl sf2, .inl st2, .inl M_lines, .inl M_spot0, .inl M_pullAcross, .inl M_pullAlong, .inl M_stepsNow, .inl M_fallenNow, .inr (some (.inr M_usesNow)), .inr (some (.inr M_wasAt)), .inr (some (.inr M_someOf)), .inr (some (.inr M_fewestFor)), .inr (some (.inr M_getsOf)), .inl M_isKept]), .inl (1, 260, M_tape), .inl (0, 48, ns2), .inl (0, 2, rf2), .inl (0, 2, ra2), .inl (0, 2, rt2)]) ∨ (some (Sum.inl 1 : PV) = some (.inl 1) ∧ ∃ (p' c' : Nat) (g' : Nat → Nat) (stk' : Stk) (ns2 rf2 ra2 rt2 : Nat → Int32) (sf2 st2 : Int32), goT b n true 0 0 (fun _ => 0) [] false p' c' g' stk' ∧ (stk' = [] ∨ ¬ hr b n p' = 41) ∧ p < p' ∧ p' ≤ n ∧ c' ≤ 48 ∧ stW n c' stk' ∧ stR rf2 ra2 rt2 stk' ∧ nsR ns2 ∧ nsX ns2 g' c' ∧ ([.inr (11, [.inr (some (.inr M_now)), .inr (some (.inr M_aside)), .inr (some (.inr M_kept)), .inr (some (.inr M_mintAt)), .inr (some (.inr M_mintOf)), .inr (some (.inr M_wholeOf)), .inr (some (.inr M_isWall)), .inr (some (.inr M_wasWall)), .inl M_stampMany, .inr (some (.inl 1)), .inl M_taped, .inl ((nI p1)), .inl ((nI n)), .inl M_fault, .inl M_number0, .inl M_open, .inl M_codeMany, .inl M_waiting, .inl M_saidMany, .inl M_clauses, .inr (some (.inr M_said)), .inr (some (.inr M_waitsAt)), .inr (some (.inr M_saidLetter)), .inr (some (.inr M_saidFrom)), .inr (some (.inr M_saidHalf)), .inr (some (.inr M_saidTo)), .inr (some (.inr M_codes)), .inr (some (.inr M_clauseOf)), .inr (some (.inr M_codeFrom)), .inr (some (.inr M_codeHalf)), .inr (some (.inr M_codeTo)), .inr (some (.inr M_stack)), .inr (some (.inr M_facts)), .inr (some (.inl 2)), .inr (some (.inl 3)), .inr (some (.inl 4)), .inr (some (.inl 5)), .inl ((nI c1)), .inl ((nI stk1.length)), .inl sf, .inl st, .inl M_lines, .inl M_spot0, .inl M_pullAcross, .inl M_pullAlong, .inl M_stepsNow, .inl M_fallenNow, .inr (some (.inr M_usesNow)), .inr (some (.inr M_wasAt)), .inr (some (.inr M_someOf)), .inr (some (.inr M_fewestFor)), .inr (some (.inr M_getsOf)), .inl M_isKept]), .inl (1, 260, M_tape), .inl (0, 48, ns), .inl (0, 2, rf), .inl (0, 2, ra), .inl (0, 2, rt)] : PH) = [.inr (11, [.inr (some (.inr M_now)), .inr (some (.inr M_aside)), .inr (some (.inr M_kept)), .inr (some (.inr M_mintAt)), .inr (some (.inr M_mintOf)), .inr (some (.inr M_wholeOf)), .inr (some (.inr M_isWall)), .inr (some (.inr M_wasWall)), .inl M_stampMany, .inr (some (.inl 1)), .inl M_taped, .inl ((nI p')), .inl ((nI n)), .inl M_fault, .inl M_number0, .inl M_open, .inl M_codeMany, .inl M_waiting, .inl M_saidMany, .inl M_clauses, .inr (some (.inr M_said)), .inr (some (.inr M_waitsAt)), .inr (some (.inr M_saidLetter)), .inr (some (.inr M_saidFrom)), .inr (some (.inr M_saidHalf)), .inr (some (.inr M_saidTo)), .inr (some (.inr M_codes)), .inr (some (.inr M_clauseOf)), .inr (some (.inr M_codeFrom)), .inr (some (.inr M_codeHalf)), .inr (some (.inr M_codeTo)), .inr (some (.inr M_stack)), .inr (some (.inr M_facts)), .inr (some (.inl 2)), .inr (some (.inl 3)), .inr (some (.inl 4)), .inr (some (.inl 5)), .inl ((nI c')), .inl ((nI stk'.length)), .inl sf2, .inl st2, .inl M_lines, .inl M_spot0, .inl M_pullAcross, .inl M_pullAlong, .inl M_stepsNow, .inl M_fallenNow, .inr (some (.inr M_usesNow)), .inr (some (.inr M_wasAt)), .inr (some (.inr M_someOf)), .inr (some (.inr M_fewestFor)), .inr (some (.inr M_getsOf)), .inl M_isKept]), .inl (1, 260, M_tape), .inl (0, 48, ns2), .inl (0, 2, rf2), .inl (0, 2, ra2), .inl (0, 2, rt2)]) := fun z => Or.inr ⟨rfl, p1, c1, g1, stk1, ns, rf, ra, rt, sf, st, h4, z, h1, h2, h3, h5, h6, h7, h8, rfl⟩
    refine call0 (c_X12_here (by omega) (by omega)) rfl rfl ?_
    rintro r h' ⟨rfl, rfl⟩
    rw [hereV_a hb]
    refine And.intro (fun q1 => ?_) (fun q1 => And.intro (Or.inr rfl) (ok (Or.inr fun z => q1 ((aV_eq (k := 41) hbb (by omega)).mpr z))))
    have q1 := (aV_eq (k := 41) hbb (by omega)).mp q1
    have hlt := hr_lt q1 (by omega)
    cases stk1 with
    | nil => exact And.intro (fun _ => And.intro (Or.inr rfl) (ok (Or.inl rfl))) (fun z => absurd (Int32.le_iff_toInt_le.mpr (Int.le_refl _)) z)
    | cons e rest =>
      obtain ⟨fr, a, tm⟩ := e
      obtain ⟨w1, w2, w3, w4, w5, w6⟩ := h5
      obtain ⟨s1, s2, s3, s4⟩ := h6
      have e9 : f_sub (nI (rest.length + 1)) 1 = nI rest.length := nI_pred rest.length
      refine And.intro (fun q2 => absurd ((nI_leI (a := rest.length + 1) (b := 0) (by omega) (by omega)).mp q2) (Nat.not_succ_le_zero _)) (fun _ => ?_)
      have ec : (nI rest.length).toNatClampNeg = rest.length := nI_clamp (by omega)
      refine And.intro (show vp_in (f_sub (nI (rest.length + 1)) 1) 2 from by rw [e9]; exact vp_in_nI (by omega) (by omega)) (And.intro (show vp_in (f_sub (nI (rest.length + 1)) 1) 2 from by rw [e9]; exact vp_in_nI (by omega) (by omega)) (And.intro (show vp_in (f_sub (nI (rest.length + 1)) 1) 2 from by rw [e9]; exact vp_in_nI (by omega) (by omega)) ?_))
      show o_call _ _ _ _ _ _ [.inl (rf (f_sub (nI (rest.length + 1)) 1).toNatClampNeg), .inl (rt (f_sub (nI (rest.length + 1)) 1).toNatClampNeg), .inl (ra (f_sub (nI (rest.length + 1)) 1).toNatClampNeg), _] _
      rw [e9, ec, s1, s2, s3]
      refine call0 (x_X12_repeats (g := g1) (a := a) (tm := tm) (c := c1) rfl rfl w2 h3 w3 w4 h7 h8) rfl rfl ?_
      rintro _ h' (⟨k0, rfl, rfl⟩ | ⟨k0, rfl, ns2, k1, k2, rfl⟩)
      · refine And.intro (fun _ => And.intro (Or.inl rfl) (Or.inl ⟨rfl, 6, fr, p1 + 1, c1, rest.length, ns, rf, ra, rt, sf, st, goT_F h4 (st_cfull q1 k0), by omega, w1, by omega, h3, h7, by rw [← nI_1 p1, ← e9] <;> rfl⟩)) (fun z => absurd rfl z)
      · refine And.intro (fun z => absurd z (show ¬ (1 : Int32) = 0 by decide)) (fun _ => ?_)
        exact ⟨240 - (p1 + 1), by omega, p1 + 1, c1 + (c1 - a) * (tm - 1), _, rest, ns2, rf, ra, rt, sf, st, z1, z2, z3, z4, rfl, by omega, by omega, k0, goT_go h4 (st_close q1 (by omega)), stW_up (by omega) w6, s4, k1, k2, rfl, rfl, by rw [← nI_1 p1, ← e9] <;> rfl⟩

