theorem wlO_n {f : Nat → Int32} {o : Ord} (h : ¬ o.1 = 35) : wlO f o = f := if_neg h
theorem rg_wl {f : Nat → Int32} {o : Ord} (h : rg 384 0 1 f) : rg 384 0 1 (wlO f o) := by
  unfold wlO
  split
  · refine rg_upd h ?_ ?_ <;> (unfold tgV; split <;> decide)
  · exact h
theorem x_X12_readsLine {l : Launch} {M_aside M_kept M_mintAt M_mintOf M_wholeOf M_wasWall M_said M_waitsAt M_saidLetter M_saidFrom M_saidHalf M_saidTo M_codes M_clauseOf M_codeFrom M_codeHalf M_codeTo M_stack M_facts M_newStamps M_roundFrom M_roundAt M_roundTimes M_usesNow M_wasAt M_someOf M_fewestFor M_getsOf : List (Option Nat)} {M_taped M_fault M_number0 M_open M_codeMany M_waiting M_saidMany M_clauses M_newMany M_rounds M_stampFrom M_stampTimes M_spot0 M_pullAcross M_pullAlong M_stepsNow M_fallenNow M_isKept : Int32} {M_now M_isWall M_tape : Nat → Int32}  {b : Nat → Nat} {p n c m T : Nat} (hp : p ≤ n) (hn : n ≤ 240) (hm : m ≤ 20) (hc : c ≤ 48) (hb : txM M_tape b n) (hT : tdM M_now T) (hN : seg M_now) : MetP l 5 yX12_readsLine cX12_readsLine 2 (some .boolean) 0 0 [.inr (some (.inl 0))] [.inr (11, [.inr (some (.inl 1)), .inr (some (.inr M_aside)), .inr (some (.inr M_kept)), .inr (some (.inr M_mintAt)), .inr (some (.inr M_mintOf)), .inr (some (.inr M_wholeOf)), .inr (some (.inl 2)), .inr (some (.inr M_wasWall)), .inl ((nI c)), .inr (some (.inl 3)), .inl M_taped, .inl ((nI p)), .inl ((nI n)), .inl M_fault, .inl M_number0, .inl M_open, .inl M_codeMany, .inl M_waiting, .inl M_saidMany, .inl M_clauses, .inr (some (.inr M_said)), .inr (some (.inr M_waitsAt)), .inr (some (.inr M_saidLetter)), .inr (some (.inr M_saidFrom)), .inr (some (.inr M_saidHalf)), .inr (some (.inr M_saidTo)), .inr (some (.inr M_codes)), .inr (some (.inr M_clauseOf)), .inr (some (.inr M_codeFrom)), .inr (some (.inr M_codeHalf)), .inr (some (.inr M_codeTo)), .inr (some (.inr M_stack)), .inr (some (.inr M_facts)), .inr (some (.inr M_newStamps)), .inr (some (.inr M_roundFrom)), .inr (some (.inr M_roundAt)), .inr (some (.inr M_roundTimes)), .inl M_newMany, .inl M_rounds, .inl M_stampFrom, .inl M_stampTimes, .inl ((nI m)), .inl M_spot0, .inl M_pullAcross, .inl M_pullAlong, .inl M_stepsNow, .inl M_fallenNow, .inr (some (.inr M_usesNow)), .inr (some (.inr M_wasAt)), .inr (some (.inr M_someOf)), .inr (some (.inr M_fewestFor)), .inr (some (.inr M_getsOf)), .inl M_isKept]), .inl (0, 130, M_now), .inl (2, 384, M_isWall), .inl (1, 260, M_tape)] (fun r h' => (∃ (o : Ord) (q : Nat) (w sp : Int32) (nw : Nat → Int32), lnG b n c m T p = .inr (o, q) ∧ p < q ∧ q ≤ n ∧ seg nw ∧ tdM nw (tdO T o) ∧ r = some (.inl 1) ∧ h' = [.inr (11, [.inr (some (.inl 1)), .inr (some (.inr M_aside)), .inr (some (.inr M_kept)), .inr (some (.inr M_mintAt)), .inr (some (.inr M_mintOf)), .inr (some (.inr M_wholeOf)), .inr (some (.inl 2)), .inr (some (.inr M_wasWall)), .inl ((nI c)), .inr (some (.inl 3)), .inl M_taped, .inl ((nI q)), .inl ((nI n)), .inl M_fault, .inl w, .inl M_open, .inl M_codeMany, .inl M_waiting, .inl M_saidMany, .inl M_clauses, .inr (some (.inr M_said)), .inr (some (.inr M_waitsAt)), .inr (some (.inr M_saidLetter)), .inr (some (.inr M_saidFrom)), .inr (some (.inr M_saidHalf)), .inr (some (.inr M_saidTo)), .inr (some (.inr M_codes)), .inr (some (.inr M_clauseOf)), .inr (some (.inr M_codeFrom)), .inr (some (.inr M_codeHalf)), .inr (some (.inr M_codeTo)), .inr (some (.inr M_stack)), .inr (some (.inr M_facts)), .inr (some (.inr M_newStamps)), .inr (some (.inr M_roundFrom)), .inr (some (.inr M_roundAt)), .inr (some (.inr M_roundTimes)), .inl M_newMany, .inl M_rounds, .inl M_stampFrom, .inl M_stampTimes, .inl ((nI (m + 1))), .inl sp, .inl M_pullAcross, .inl M_pullAlong, .inl M_stepsNow, .inl M_fallenNow, .inr (some (.inr M_usesNow)), .inr (some (.inr M_wasAt)), .inr (some (.inr M_someOf)), .inr (some (.inr M_fewestFor)), .inr (some (.inr M_getsOf)), .inl M_isKept]), .inl (0, 130, nw), .inl (2, 384, (wlO M_isWall o)), .inl (1, 260, M_tape)]) ∨ (∃ (g a q : Nat) (w sp ln : Int32), lnG b n c m T p = .inl (g, a) ∧ q ≤ n ∧ r = some (.inl 0) ∧ h' = [.inr (11, [.inr (some (.inl 1)), .inr (some (.inr M_aside)), .inr (some (.inr M_kept)), .inr (some (.inr M_mintAt)), .inr (some (.inr M_mintOf)), .inr (some (.inr M_wholeOf)), .inr (some (.inl 2)), .inr (some (.inr M_wasWall)), .inl ((nI c)), .inr (some (.inl 3)), .inl M_taped, .inl ((nI q)), .inl ((nI n)), .inl ((ftV g a)), .inl w, .inl M_open, .inl M_codeMany, .inl M_waiting, .inl M_saidMany, .inl M_clauses, .inr (some (.inr M_said)), .inr (some (.inr M_waitsAt)), .inr (some (.inr M_saidLetter)), .inr (some (.inr M_saidFrom)), .inr (some (.inr M_saidHalf)), .inr (some (.inr M_saidTo)), .inr (some (.inr M_codes)), .inr (some (.inr M_clauseOf)), .inr (some (.inr M_codeFrom)), .inr (some (.inr M_codeHalf)), .inr (some (.inr M_codeTo)), .inr (some (.inr M_stack)), .inr (some (.inr M_facts)), .inr (some (.inr M_newStamps)), .inr (some (.inr M_roundFrom)), .inr (some (.inr M_roundAt)), .inr (some (.inr M_roundTimes)), .inl M_newMany, .inl M_rounds, .inl M_stampFrom, .inl M_stampTimes, .inl ln, .inl sp, .inl M_pullAcross, .inl M_pullAlong, .inl M_stepsNow, .inl M_fallenNow, .inr (some (.inr M_usesNow)), .inr (some (.inr M_wasAt)), .inr (some (.inr M_someOf)), .inr (some (.inr M_fewestFor)), .inr (some (.inr M_getsOf)), .inl M_isKept]), .inl (0, 130, M_now), .inl (2, 384, M_isWall), .inl (1, 260, M_tape)])) := by
  refine m_X12_readsLine (Nat.le_of_ble_eq_true rfl) ?_
  refine call0 (c_X12_here (p := p) (n := n) (by omega) hn) rfl rfl ?_
  rintro r h' ⟨rfl, rfl⟩
  have b32 : p < n → fcB b n p = true → b_X12_readsLine_32 l (fun r h' => (∃ (o : Ord) (q : Nat) (w sp : Int32) (nw : Nat → Int32), lnG b n c m T p = .inr (o, q) ∧ p < q ∧ q ≤ n ∧ seg nw ∧ tdM nw (tdO T o) ∧ r = some (.inl 1) ∧ h' = [.inr (11, [.inr (some (.inl 1)), .inr (some (.inr M_aside)), .inr (some (.inr M_kept)), .inr (some (.inr M_mintAt)), .inr (some (.inr M_mintOf)), .inr (some (.inr M_wholeOf)), .inr (some (.inl 2)), .inr (some (.inr M_wasWall)), .inl ((nI c)), .inr (some (.inl 3)), .inl M_taped, .inl ((nI q)), .inl ((nI n)), .inl M_fault, .inl w, .inl M_open, .inl M_codeMany, .inl M_waiting, .inl M_saidMany, .inl M_clauses, .inr (some (.inr M_said)), .inr (some (.inr M_waitsAt)), .inr (some (.inr M_saidLetter)), .inr (some (.inr M_saidFrom)), .inr (some (.inr M_saidHalf)), .inr (some (.inr M_saidTo)), .inr (some (.inr M_codes)), .inr (some (.inr M_clauseOf)), .inr (some (.inr M_codeFrom)), .inr (some (.inr M_codeHalf)), .inr (some (.inr M_codeTo)), .inr (some (.inr M_stack)), .inr (some (.inr M_facts)), .inr (some (.inr M_newStamps)), .inr (some (.inr M_roundFrom)), .inr (some (.inr M_roundAt)), .inr (some (.inr M_roundTimes)), .inl M_newMany, .inl M_rounds, .inl M_stampFrom, .inl M_stampTimes, .inl ((nI (m + 1))), .inl sp, .inl M_pullAcross, .inl M_pullAlong, .inl M_stepsNow, .inl M_fallenNow, .inr (some (.inr M_usesNow)), .inr (some (.inr M_wasAt)), .inr (some (.inr M_someOf)), .inr (some (.inr M_fewestFor)), .inr (some (.inr M_getsOf)), .inl M_isKept]), .inl (0, 130, nw), .inl (2, 384, (wlO M_isWall o)), .inl (1, 260, M_tape)]) ∨ (∃ (g a q : Nat) (w sp ln : Int32), lnG b n c m T p = .inl (g, a) ∧ q ≤ n ∧ r = some (.inl 0) ∧ h' = [.inr (11, [.inr (some (.inl 1)), .inr (some (.inr M_aside)), .inr (some (.inr M_kept)), .inr (some (.inr M_mintAt)), .inr (some (.inr M_mintOf)), .inr (some (.inr M_wholeOf)), .inr (some (.inl 2)), .inr (some (.inr M_wasWall)), .inl ((nI c)), .inr (some (.inl 3)), .inl M_taped, .inl ((nI q)), .inl ((nI n)), .inl ((ftV g a)), .inl w, .inl M_open, .inl M_codeMany, .inl M_waiting, .inl M_saidMany, .inl M_clauses, .inr (some (.inr M_said)), .inr (some (.inr M_waitsAt)), .inr (some (.inr M_saidLetter)), .inr (some (.inr M_saidFrom)), .inr (some (.inr M_saidHalf)), .inr (some (.inr M_saidTo)), .inr (some (.inr M_codes)), .inr (some (.inr M_clauseOf)), .inr (some (.inr M_codeFrom)), .inr (some (.inr M_codeHalf)), .inr (some (.inr M_codeTo)), .inr (some (.inr M_stack)), .inr (some (.inr M_facts)), .inr (some (.inr M_newStamps)), .inr (some (.inr M_roundFrom)), .inr (some (.inr M_roundAt)), .inr (some (.inr M_roundTimes)), .inl M_newMany, .inl M_rounds, .inl M_stampFrom, .inl M_stampTimes, .inl ln, .inl sp, .inl M_pullAcross, .inl M_pullAlong, .inl M_stepsNow, .inl M_fallenNow, .inr (some (.inr M_usesNow)), .inr (some (.inr M_wasAt)), .inr (some (.inr M_someOf)), .inr (some (.inr M_fewestFor)), .inr (some (.inr M_getsOf)), .inl M_isKept]), .inl (0, 130, M_now), .inl (2, 384, M_isWall), .inl (1, 260, M_tape)])) [some (.inr (some (.inl 0))), some (.inl (hereV M_tape p n))] [] [.inr (11, [.inr (some (.inl 1)), .inr (some (.inr M_aside)), .inr (some (.inr M_kept)), .inr (some (.inr M_mintAt)), .inr (some (.inr M_mintOf)), .inr (some (.inr M_wholeOf)), .inr (some (.inl 2)), .inr (some (.inr M_wasWall)), .inl ((nI c)), .inr (some (.inl 3)), .inl M_taped, .inl ((nI p)), .inl ((nI n)), .inl M_fault, .inl M_number0, .inl M_open, .inl M_codeMany, .inl M_waiting, .inl M_saidMany, .inl M_clauses, .inr (some (.inr M_said)), .inr (some (.inr M_waitsAt)), .inr (some (.inr M_saidLetter)), .inr (some (.inr M_saidFrom)), .inr (some (.inr M_saidHalf)), .inr (some (.inr M_saidTo)), .inr (some (.inr M_codes)), .inr (some (.inr M_clauseOf)), .inr (some (.inr M_codeFrom)), .inr (some (.inr M_codeHalf)), .inr (some (.inr M_codeTo)), .inr (some (.inr M_stack)), .inr (some (.inr M_facts)), .inr (some (.inr M_newStamps)), .inr (some (.inr M_roundFrom)), .inr (some (.inr M_roundAt)), .inr (some (.inr M_roundTimes)), .inl M_newMany, .inl M_rounds, .inl M_stampFrom, .inl M_stampTimes, .inl ((nI m)), .inl M_spot0, .inl M_pullAcross, .inl M_pullAlong, .inl M_stepsNow, .inl M_fallenNow, .inr (some (.inr M_usesNow)), .inr (some (.inr M_wasAt)), .inr (some (.inr M_someOf)), .inr (some (.inr M_fewestFor)), .inr (some (.inr M_getsOf)), .inl M_isKept]), .inl (0, 130, M_now), .inl (2, 384, M_isWall), .inl (1, 260, M_tape)] := by
    intro hlt hf
    have hf2 := fcB_t.mp hf
    refine And.intro (fun (w : nI m = nI 20) => ?_) (fun (w : ¬ nI m = nI 20) => ?_)
    · have w := (nI_eq (by omega) (by omega)).mp w
      refine call0 (c_X12_wrongAt) rfl rfl ?_
      rintro r h' ⟨rfl, rfl⟩
      exact And.intro (Or.inl rfl) (Or.inr ⟨4, p, p, M_number0, M_spot0, nI m, by unfold lnG; rw [if_pos hf, if_pos w], hp, rfl, rfl⟩)
    · have w : ¬ m = 20 := fun z => w ((nI_eq (by omega) (by omega)).mpr z)
      have eg : lnG b n c m T p = lnR b n c T p := by
        unfold lnG
        rw [if_pos hf, if_neg w]
      refine And.intro (fun (q : hereV M_tape p n = nI 35) => ?_) (fun (q : ¬ hereV M_tape p n = nI 35) => ?_)
      · have h35 := (hd_eq (k := 35) hb (by omega)).mp q
        have el : lnR b n c T p = (match spR b n (p + 1) with
          | .inl f => .inl f
          | .inr (v, q) => .inr ((35, 0, v), q)) := if_pos h35
        refine call0 (x_X12_readsWall (b := b) (p := p) (n := n) hlt hn hb) rfl rfl ?_
        rintro r h' (⟨v, q, w, e1, rfl, rfl⟩ | ⟨g, a, q, w, e1, hq, rfl, rfl⟩)
        · have l1 := spR_le e1
          rw [e1] at el
          have e2 : wlO M_isWall (35, 0, v) = upd M_isWall v (tgV (M_isWall v)) := if_pos rfl
          exact And.intro (Or.inr rfl) (Or.inl ⟨(35, 0, v), q, w, nI v, M_now, eg.trans el, by omega, l1.2.1, hN, hT, rfl, by rw [e2, ← nI_1 m] <;> rfl⟩)
        · rw [e1] at el
          exact And.intro (Or.inl rfl) (Or.inr ⟨g, a, q, w, M_spot0, _, eg.trans el, hq, rfl, rfl⟩)
      · have h35 : ¬ hr b n p = 35 := fun z => q ((hd_eq (k := 35) hb (by omega)).mpr z)
        have h48 : 48 ≤ hr b n p ∧ hr b n p ≤ 55 := hf2.resolve_left h35
        have el : lnR b n c T p = ltR b n c T p := if_neg h35
        have ex : f_sub (hereV M_tape p n) 48 = nI (hr b n p - 48) := by
          rw [hereV_a hb]
          exact fsub_k (k := 48) h48.1 (by omega)
        refine call0 (x_X12_readsLetter (b := b) (p := p) (n := n) (c := c) (T := T) ex hlt hn h48.1 h48.2 hc hb hT hN) rfl rfl ?_
        rintro r h' (⟨o, q, w, sp, nw, e1, o35, q1, q2, k1, k2, rfl, rfl⟩ | ⟨g, a, q, w, sp, e1, hq, rfl, rfl⟩)
        · exact And.intro (Or.inr rfl) (Or.inl ⟨o, q, w, sp, nw, eg.trans (el.trans e1), q1, q2, k1, k2, rfl, by rw [wlO_n o35, ← nI_1 m] <;> rfl⟩)
        · exact And.intro (Or.inl rfl) (Or.inr ⟨g, a, q, w, sp, _, eg.trans (el.trans e1), hq, rfl, rfl⟩)
  refine And.intro (fun (q : hereV M_tape p n = nI 35) => ?_) (fun (q : ¬ hereV M_tape p n = nI 35) => ?_)
  · have h35 := (hd_eq (k := 35) hb (by omega)).mp q
    exact b32 (hr_lt h35 (by omega)) (fcB_t.mpr (Or.inl h35))
  · have h35 : ¬ hr b n p = 35 := fun z => q ((hd_eq (k := 35) hb (by omega)).mpr z)
    refine call0 (c_in) rfl rfl ?_
    rintro r h' ⟨rfl, rfl⟩
    refine br_b (fun h1 => ?_) (fun h1 => ?_)
    · have w : ¬ fcB b n p = true := fun z => by
        rcases fcB_t.mp z with y | y
        · exact h35 y
        · refine h1 ?_
          rw [hereV_a hb]
          exact (aV_in (lo := 48) (hi := 55) (fun i hi => (hb i hi).1) (by omega) (by omega)).mpr y
      refine call0 (c_X12_wrongAt) rfl rfl ?_
      rintro r h' ⟨rfl, rfl⟩
      exact And.intro (Or.inl rfl) (Or.inr ⟨1, p, p, M_number0, M_spot0, nI m, if_neg w, hp, rfl, rfl⟩)
    · rw [hereV_a hb] at h1
      have y := (aV_in (lo := 48) (hi := 55) (fun i hi => (hb i hi).1) (by omega) (by omega)).mp h1
      exact b32 (hr_lt2 (b := b) (by omega)) (fcB_t.mpr (Or.inr y))
/-! ===== a post's lines, counted from behind one ===== -/
def psA (b : Nat → Nat) (n c T : Nat) (os : List Ord) (p : Nat) : PoR := if n ≤ p then .inr os else if hr b n p = 59 then ctO os (psG b n c (21 - os.length) os.length (p + 1) (tdL T os)) else .inl (1, p)
theorem psA_l {b : Nat → Nat} {n c T m p q : Nat} {os : List Ord} {o : Ord} (hm : os.length = m) (h20 : m ≤ 20) (h : lnG b n c m (tdL T os) p = .inr (o, q)) : ctO os (psG b n c (21 - m) m p (tdL T os)) = psA b n c T (os ++ [o]) q := by
  have e : psG b n c (20 - m + 1) m p (tdL T os) = (if n ≤ q then .inr [o] else if hr b n q = 59 then ctO [o] (psG b n c (20 - m) (m + 1) (q + 1) (tdO (tdL T os) o)) else .inl (1, q)) := by
    show (match lnG b n c m (tdL T os) p with
      | .inl x => (.inl x : PoR)
      | .inr (o, q) => if n ≤ q then .inr [o] else if hr b n q = 59 then ctO [o] (psG b n c (20 - m) (m + 1) (q + 1) (tdO (tdL T os) o)) else .inl (1, q)) = _
    rw [h]
  rw [show 21 - m = 20 - m + 1 by omega, e]
  have el : (os ++ [o]).length = m + 1 := by
    rw [List.length_append, hm]
    rfl
  unfold psA
  rw [el, tdL_1, show 21 - (m + 1) = 20 - m by omega]
  by_cases q1 : n ≤ q
  · rw [if_pos q1, if_pos q1]
    rfl
  · rw [if_neg q1, if_neg q1]
    by_cases q2 : hr b n q = 59
    · rw [if_pos q2, if_pos q2]
      exact ct_ct
    · rw [if_neg q2, if_neg q2]
      rfl
theorem psA_f {b : Nat → Nat} {n c T m p : Nat} {os : List Ord} {x : Nat × Nat} (h20 : m ≤ 20) (h : lnG b n c m (tdL T os) p = .inl x) : ctO os (psG b n c (21 - m) m p (tdL T os)) = .inl x := by
  have e : psG b n c (20 - m + 1) m p (tdL T os) = .inl x := by
    show (match lnG b n c m (tdL T os) p with
      | .inl x => (.inl x : PoR)
      | .inr (o, q) => if n ≤ q then .inr [o] else if hr b n q = 59 then ctO [o] (psG b n c (20 - m) (m + 1) (q + 1) (tdO (tdL T os) o)) else .inl (1, q)) = _
    rw [h]
  rw [show 21 - m = 20 - m + 1 by omega, e]
  rfl
theorem x_X12_post {l : Launch} {M_kept M_mintAt M_mintOf M_wholeOf M_said M_waitsAt M_saidLetter M_saidFrom M_saidHalf M_saidTo M_codes M_clauseOf M_codeFrom M_codeHalf M_codeTo M_stack M_facts M_newStamps M_roundFrom M_roundAt M_roundTimes M_usesNow M_wasAt M_someOf M_fewestFor M_getsOf : List (Option Nat)} {M_place0 M_length0 M_fault M_number0 M_open M_codeMany M_waiting M_saidMany M_clauses M_newMany M_rounds M_stampFrom M_stampTimes M_lines M_spot0 M_pullAcross M_pullAlong M_stepsNow M_fallenNow M_isKept : Int32} {M_now M_aside M_isWall M_wasWall M_tape : Nat → Int32}  {b : Nat → Nat} {n s c T : Nat} (hn1 : 1 ≤ n) (hn : n ≤ 120) (hs : s ≤ 260) (hns : n ≤ s) (hc : c ≤ 48) (hb : txM M_tape b n) (hT : tdM M_now T) (hN : seg M_now) (hW : rg 384 0 1 M_isWall) (hWW : rg 384 0 1 M_wasWall) : MetP l 6 yX12_post cX12_post 4 (some .int) 0 0 [.inr (some (.inl 0)), .inl (nI n)] [.inr (11, [.inr (some (.inl 1)), .inr (some (.inl 2)), .inr (some (.inr M_kept)), .inr (some (.inr M_mintAt)), .inr (some (.inr M_mintOf)), .inr (some (.inr M_wholeOf)), .inr (some (.inl 3)), .inr (some (.inl 4)), .inl ((nI c)), .inr (some (.inl 5)), .inl ((nI s)), .inl M_place0, .inl M_length0, .inl M_fault, .inl M_number0, .inl M_open, .inl M_codeMany, .inl M_waiting, .inl M_saidMany, .inl M_clauses, .inr (some (.inr M_said)), .inr (some (.inr M_waitsAt)), .inr (some (.inr M_saidLetter)), .inr (some (.inr M_saidFrom)), .inr (some (.inr M_saidHalf)), .inr (some (.inr M_saidTo)), .inr (some (.inr M_codes)), .inr (some (.inr M_clauseOf)), .inr (some (.inr M_codeFrom)), .inr (some (.inr M_codeHalf)), .inr (some (.inr M_codeTo)), .inr (some (.inr M_stack)), .inr (some (.inr M_facts)), .inr (some (.inr M_newStamps)), .inr (some (.inr M_roundFrom)), .inr (some (.inr M_roundAt)), .inr (some (.inr M_roundTimes)), .inl M_newMany, .inl M_rounds, .inl M_stampFrom, .inl M_stampTimes, .inl M_lines, .inl M_spot0, .inl M_pullAcross, .inl M_pullAlong, .inl M_stepsNow, .inl M_fallenNow, .inr (some (.inr M_usesNow)), .inr (some (.inr M_wasAt)), .inr (some (.inr M_someOf)), .inr (some (.inr M_fewestFor)), .inr (some (.inr M_getsOf)), .inl M_isKept]), .inl (0, 130, M_now), .inl (0, 130, M_aside), .inl (2, 384, M_isWall), .inl (2, 384, M_wasWall), .inl (1, 260, M_tape)] (fun r h' => ∃ (nw as wl ww : Nat → Int32) (pp f w sp ln : Int32), r = some (.inl (poY b n c T)) ∧ tdM nw (poT b n c T) ∧ (∀ i, i < 384 → wl i = poW b n c T M_isWall i) ∧ seg nw ∧ seg as ∧ rg 384 0 1 wl ∧ rg 384 0 1 ww ∧ (0 ≤ pp.toInt ∧ pp.toInt ≤ 240) ∧ h' = [.inr (11, [.inr (some (.inl 1)), .inr (some (.inl 2)), .inr (some (.inr M_kept)), .inr (some (.inr M_mintAt)), .inr (some (.inr M_mintOf)), .inr (some (.inr M_wholeOf)), .inr (some (.inl 3)), .inr (some (.inl 4)), .inl ((nI c)), .inr (some (.inl 5)), .inl 0, .inl pp, .inl ((nI n)), .inl f, .inl w, .inl M_open, .inl 0, .inl M_waiting, .inl 0, .inl M_clauses, .inr (some (.inr M_said)), .inr (some (.inr M_waitsAt)), .inr (some (.inr M_saidLetter)), .inr (some (.inr M_saidFrom)), .inr (some (.inr M_saidHalf)), .inr (some (.inr M_saidTo)), .inr (some (.inr M_codes)), .inr (some (.inr M_clauseOf)), .inr (some (.inr M_codeFrom)), .inr (some (.inr M_codeHalf)), .inr (some (.inr M_codeTo)), .inr (some (.inr M_stack)), .inr (some (.inr M_facts)), .inr (some (.inr M_newStamps)), .inr (some (.inr M_roundFrom)), .inr (some (.inr M_roundAt)), .inr (some (.inr M_roundTimes)), .inl M_newMany, .inl M_rounds, .inl M_stampFrom, .inl M_stampTimes, .inl ln, .inl sp, .inl M_pullAcross, .inl M_pullAlong, .inl M_stepsNow, .inl M_fallenNow, .inr (some (.inr M_usesNow)), .inr (some (.inr M_wasAt)), .inr (some (.inr M_someOf)), .inr (some (.inr M_fewestFor)), .inr (some (.inr M_getsOf)), .inl M_isKept]), .inl (0, 130, nw), .inl (0, 130, as), .inl (2, 384, wl), .inl (2, 384, ww), .inl (1, 260, M_tape)]) := by
  have nr : ∀ {k m : Nat}, k ≤ m → m ≤ 1000 → 0 ≤ (nI k).toInt ∧ (nI k).toInt ≤ m := fun h1 h2 => by rw [nI_toInt (by omega)]; omega
  have nar : ∀ {f : Nat → Int32} {k : Nat}, rg 384 0 1 f → k < 384 → f_nar 2 (f k) = f k := fun {f k} h hk => nar2 (h k hk).1 (h k hk).2
  refine m_X12_post (fun μ L st h => ∃ (k : Nat) (as ww : Nat → Int32) (z : Option PV), μ = 5000 + (384 - k) ∧ k ≤ 384 ∧ (∀ i, i < 130 → as i = M_now i) ∧ (∀ i, i < k → ww i = M_isWall i) ∧ rg 384 0 1 ww ∧ L = [some (.inr (some (.inl 0))), some (.inl (nI n)), some (.inl (nI k)), z] ∧ st = [] ∧ h = [.inr (11, [.inr (some (.inl 1)), .inr (some (.inl 2)), .inr (some (.inr M_kept)), .inr (some (.inr M_mintAt)), .inr (some (.inr M_mintOf)), .inr (some (.inr M_wholeOf)), .inr (some (.inl 3)), .inr (some (.inl 4)), .inl ((nI c)), .inr (some (.inl 5)), .inl ((nI s)), .inl 0, .inl ((nI n)), .inl M_fault, .inl M_number0, .inl M_open, .inl 0, .inl M_waiting, .inl 0, .inl M_clauses, .inr (some (.inr M_said)), .inr (some (.inr M_waitsAt)), .inr (some (.inr M_saidLetter)), .inr (some (.inr M_saidFrom)), .inr (some (.inr M_saidHalf)), .inr (some (.inr M_saidTo)), .inr (some (.inr M_codes)), .inr (some (.inr M_clauseOf)), .inr (some (.inr M_codeFrom)), .inr (some (.inr M_codeHalf)), .inr (some (.inr M_codeTo)), .inr (some (.inr M_stack)), .inr (some (.inr M_facts)), .inr (some (.inr M_newStamps)), .inr (some (.inr M_roundFrom)), .inr (some (.inr M_roundAt)), .inr (some (.inr M_roundTimes)), .inl M_newMany, .inl M_rounds, .inl M_stampFrom, .inl M_stampTimes, .inl 0, .inl M_spot0, .inl M_pullAcross, .inl M_pullAlong, .inl M_stepsNow, .inl M_fallenNow, .inr (some (.inr M_usesNow)), .inr (some (.inr M_wasAt)), .inr (some (.inr M_someOf)), .inr (some (.inr M_fewestFor)), .inr (some (.inr M_getsOf)), .inl M_isKept]), .inl (0, 130, M_now), .inl (0, 130, as), .inl (2, 384, M_isWall), .inl (2, 384, ww), .inl (1, 260, M_tape)]) (fun μ L st h => ∃ (p : Nat) (nw as wl ww : Nat → Int32) (G f w sp ln : Int32) (z : Option PV), μ = 1000 + (if G = 0 then 0 else 1 + (240 - p)) ∧ p ≤ n ∧ (∀ i, i < 130 → as i = M_now i) ∧ (∀ i, i < 384 → ww i = M_isWall i) ∧ ((G = 0 ∧ ∃ k a, psR b n c T = .inl (k, a) ∧ f = ftV k a) ∨ (G = 1 ∧ ∃ os : List Ord, psR b n c T = psA b n c T os p ∧ tdM nw (tdL T os) ∧ wl = wlL M_isWall os ∧ os.length ≤ 20 ∧ ln = nI os.length)) ∧ seg nw ∧ rg 384 0 1 wl ∧ rg 384 0 1 ww ∧ L = [some (.inr (some (.inl 0))), some (.inl (nI n)), some (.inl G), z] ∧ st = [] ∧ h = [.inr (11, [.inr (some (.inl 1)), .inr (some (.inl 2)), .inr (some (.inr M_kept)), .inr (some (.inr M_mintAt)), .inr (some (.inr M_mintOf)), .inr (some (.inr M_wholeOf)), .inr (some (.inl 3)), .inr (some (.inl 4)), .inl ((nI c)), .inr (some (.inl 5)), .inl ((nI s)), .inl ((nI p)), .inl ((nI n)), .inl f, .inl w, .inl M_open, .inl 0, .inl M_waiting, .inl 0, .inl M_clauses, .inr (some (.inr M_said)), .inr (some (.inr M_waitsAt)), .inr (some (.inr M_saidLetter)), .inr (some (.inr M_saidFrom)), .inr (some (.inr M_saidHalf)), .inr (some (.inr M_saidTo)), .inr (some (.inr M_codes)), .inr (some (.inr M_clauseOf)), .inr (some (.inr M_codeFrom)), .inr (some (.inr M_codeHalf)), .inr (some (.inr M_codeTo)), .inr (some (.inr M_stack)), .inr (some (.inr M_facts)), .inr (some (.inr M_newStamps)), .inr (some (.inr M_roundFrom)), .inr (some (.inr M_roundAt)), .inr (some (.inr M_roundTimes)), .inl M_newMany, .inl M_rounds, .inl M_stampFrom, .inl M_stampTimes, .inl ln, .inl sp, .inl M_pullAcross, .inl M_pullAlong, .inl M_stepsNow, .inl M_fallenNow, .inr (some (.inr M_usesNow)), .inr (some (.inr M_wasAt)), .inr (some (.inr M_someOf)), .inr (some (.inr M_fewestFor)), .inr (some (.inr M_getsOf)), .inl M_isKept]), .inl (0, 130, nw), .inl (0, 130, as), .inl (2, 384, wl), .inl (2, 384, ww), .inl (1, 260, M_tape)]) (fun μ L st h => ∃ (p k : Nat) (nw as wl ww : Nat → Int32) (G f w sp ln : Int32), μ = 384 - k ∧ k ≤ 384 ∧ p ≤ n ∧ (∀ i, i < 130 → nw i = M_now i) ∧ seg as ∧ (∀ i, i < 384 → ww i = M_isWall i) ∧ (∀ i, i < k → wl i = M_isWall i) ∧ (∃ k a, psR b n c T = .inl (k, a) ∧ f = ftV k a) ∧ rg 384 0 1 wl ∧ rg 384 0 1 ww ∧ L = [some (.inr (some (.inl 0))), some (.inl (nI n)), some (.inl G), some (.inl (nI k))] ∧ st = [] ∧ h = [.inr (11, [.inr (some (.inl 1)), .inr (some (.inl 2)), .inr (some (.inr M_kept)), .inr (some (.inr M_mintAt)), .inr (some (.inr M_mintOf)), .inr (some (.inr M_wholeOf)), .inr (some (.inl 3)), .inr (some (.inl 4)), .inl ((nI c)), .inr (some (.inl 5)), .inl 0, .inl ((nI p)), .inl ((nI n)), .inl f, .inl w, .inl M_open, .inl 0, .inl M_waiting, .inl 0, .inl M_clauses, .inr (some (.inr M_said)), .inr (some (.inr M_waitsAt)), .inr (some (.inr M_saidLetter)), .inr (some (.inr M_saidFrom)), .inr (some (.inr M_saidHalf)), .inr (some (.inr M_saidTo)), .inr (some (.inr M_codes)), .inr (some (.inr M_clauseOf)), .inr (some (.inr M_codeFrom)), .inr (some (.inr M_codeHalf)), .inr (some (.inr M_codeTo)), .inr (some (.inr M_stack)), .inr (some (.inr M_facts)), .inr (some (.inr M_newStamps)), .inr (some (.inr M_roundFrom)), .inr (some (.inr M_roundAt)), .inr (some (.inr M_roundTimes)), .inl M_newMany, .inl M_rounds, .inl M_stampFrom, .inl M_stampTimes, .inl ln, .inl sp, .inl M_pullAcross, .inl M_pullAlong, .inl M_stepsNow, .inl M_fallenNow, .inr (some (.inr M_usesNow)), .inr (some (.inr M_wasAt)), .inr (some (.inr M_someOf)), .inr (some (.inr M_fewestFor)), .inr (some (.inr M_getsOf)), .inl M_isKept]), .inl (0, 130, nw), .inl (0, 130, as), .inl (2, 384, wl), .inl (2, 384, ww), .inl (1, 260, M_tape)]) (Nat.le_of_ble_eq_true rfl) ?_ ?_ ?_ ?_
  · refine call0 (c_in) rfl rfl ?_
    rintro r h' ⟨rfl, rfl⟩
    refine br_b (fun z => absurd ((nI_bt (a := 1) (b := 120) (by omega) (by omega) (by omega)).mpr ⟨hn1, hn⟩) z) (fun _ => ?_)
    refine And.intro (fun _ => ?_) (fun z => absurd ((nI_leI (by omega) (by omega)).mpr hns) z)
    refine call0 (c_X12_beginsText) rfl rfl ?_
    rintro r h' ⟨rfl, rfl⟩
    refine call0 c_X12_copies rfl rfl ?_
    rintro r h' ⟨rfl, g', hg, rfl⟩
    exact ⟨_, 0, g', M_wasWall, _, rfl, by omega, hg, fun i hi => absurd hi (Nat.not_lt_zero _), hWW, rfl, rfl, rfl⟩
  · rintro μ L st h ⟨k, as, ww, z, hμ, h1, h2, h3, h4, rfl, rfl, rfl⟩
    refine And.intro (fun q1 => ?_) (fun q1 => ?_)
    · have q1 := (nI_leI (a := 384) (by omega) (by omega)).mp q1
      have e0 : psR b n c T = ctO [] (psG b n c (21 - 0) 0 0 (tdL T [])) := ct_nil.symm
      refine call0 (x_X12_readsLine (b := b) (p := 0) (n := n) (c := c) (m := 0) (T := T) (by omega) (by omega) (by omega) hc hb hT hN) rfl rfl ?_
      rintro r h' (⟨o, q, w, sp, nw, e1, k1, k2, k3, k4, rfl, rfl⟩ | ⟨g, a, q, w, sp, ln, e1, hq, rfl, rfl⟩)
      · have e2 := psA_l (m := 0) (os := []) (T := T) rfl (by omega) e1
        exact ⟨1000 + (1 + (240 - q)), by omega, q, nw, as, _, ww, 1, M_fault, w, sp, _, _, by rw [if_neg (by decide)], k2, h2, fun i hi => h3 i (by omega), Or.inr ⟨rfl, [o], e0.trans e2, k4, rfl, by show (1 : Nat) ≤ 20; omega, rfl⟩, k3, rg_wl hW, h4, rfl, rfl, rfl⟩
      · have e2 := psA_f (m := 0) (os := []) (T := T) (by omega) e1
        exact ⟨1000, by omega, q, M_now, as, M_isWall, ww, 0, _, w, sp, ln, _, by rw [if_pos rfl], hq, h2, fun i hi => h3 i (by omega), Or.inl ⟨rfl, g, a, e0.trans e2, rfl⟩, hN, hW, h4, rfl, rfl, rfl⟩
    · have q1 : k < 384 := Nat.lt_of_not_le fun z => q1 ((nI_leI (a := 384) (by omega) (by omega)).mpr z)
      refine And.intro (vp_in_nI q1 (by omega)) (And.intro (vp_in_nI q1 (by omega)) ?_)
      rw [nI_clamp (by omega)]
      refine ⟨5000 + (384 - (k + 1)), by omega, k + 1, as, _, z, rfl, by omega, h2, fun i hi => ?_, rg_upd h4 (by rw [nar hW q1]; exact (hW k q1).1) (by rw [nar hW q1]; exact (hW k q1).2), ?_, rfl, rfl⟩
      · by_cases e : i = k
        · subst e
          rw [upd_sI]
          exact nar hW q1
        · rw [upd_nI e]
          exact h3 i (by omega)
      · rw [← nI_1 k] <;> rfl
  · rintro μ L st h ⟨p, nw, as, wl, ww, G, f, w, sp, ln, z, hμ, h1, h2, h3, h4, h5, h6, h7, rfl, rfl, rfl⟩
    rcases h4 with ⟨rfl, k, a, h4, rfl⟩ | ⟨rfl, os, g1, g2, rfl, g4, rfl⟩
    · rw [if_pos rfl] at hμ
      refine And.intro (fun _ => ?_) (fun z => absurd rfl z)
      refine And.intro (fun _ => ?_) (fun z => absurd rfl z)
      refine call0 c_X12_copies rfl rfl ?_
      rintro r h' ⟨rfl, g', hg, rfl⟩
      exact ⟨384, by omega, p, 0, g', as, wl, ww, 0, _, w, sp, ln, rfl, by omega, h1, fun i hi => (hg i hi).trans (h2 i hi), seg_congr h2 hN, h3, fun i hi => absurd hi (Nat.not_lt_zero _), ⟨k, a, h4, rfl⟩, h6, h7, rfl, rfl, rfl⟩
    · rw [if_neg (by decide)] at hμ
      refine And.intro (fun z => absurd z (by show ¬ ((_ : Int32) = _); decide)) (fun _ => ?_)
      refine And.intro (fun q1 => ?_) (fun q1 => ?_)
      · have q1 := (nI_leI (by omega) (by omega)).mp q1
        refine And.intro (fun z => absurd z (by show ¬ ((_ : Int32) = _); decide)) (fun _ => ?_)
        have e : psR b n c T = .inr os := g1.trans (if_pos q1)
        have y1 : poY b n c T = nI os.length := by unfold poY; rw [e]
        have y2 : poT b n c T = tdL T os := by unfold poT; rw [e]
        have y3 : poW b n c T M_isWall = wlL M_isWall os := by unfold poW; rw [e]
        exact ⟨nw, as, _, ww, _, _, _, _, _, by rw [y1], by rw [y2]; exact g2, fun i hi => by rw [y3], h5, seg_congr h2 hN, h6, h7, nr (m := 240) (by omega) (by omega), rfl⟩
      · have q1 : ¬ n ≤ p := fun z => q1 ((nI_leI (by omega) (by omega)).mpr z)
        have ea : psR b n c T = (if hr b n p = 59 then ctO os (psG b n c (21 - os.length) os.length (p + 1) (tdL T os)) else .inl (1, p)) := g1.trans (if_neg q1)
        refine call0 (c_X12_takes (a := 59) (p := p) (n := n) (by omega) (by omega)) rfl rfl ?_
        rintro r h' (⟨w1, rfl, rfl⟩ | ⟨w1, rfl, rfl⟩)
        · have w1 : hr b n p = 59 := (hd_eq (k := 59) hb (by omega)).mp w1
          rw [if_pos w1] at ea
          refine And.intro (fun z => absurd z (by show ¬ ((_ : Int32) = _); decide)) (fun _ => ?_)
          refine call0 (x_X12_readsLine (b := b) (p := p + 1) (n := n) (c := c) (m := os.length) (T := tdL T os) (by omega) (by omega) g4 hc hb g2 h5) rfl rfl ?_
          rintro r h' (⟨o, q, w, sp, nw2, e1, k1, k2, k3, k4, rfl, rfl⟩ | ⟨g, a, q, w, sp, ln, e1, hq, rfl, rfl⟩)
          · refine And.intro (fun z => absurd z (by show ¬ ((_ : Int32) = _); decide)) (fun _ => ?_)
            have e2 := psA_l (os := os) (T := T) rfl g4 e1
            have l20 : os.length < 20 := Nat.lt_of_le_of_ne g4 (fun z => by rw [z] at e1; exact lnG_20 e1)
            have el : (os ++ [o]).length = os.length + 1 := by
              rw [List.length_append]
              rfl
            exact ⟨1000 + (1 + (240 - q)), by omega, q, nw2, as, _, ww, 1, f, w, sp, _, _, by rw [if_neg (by decide)], k2, h2, h3, Or.inr ⟨rfl, os ++ [o], ea.trans e2, by rw [tdL_1]; exact k4, wlL_1.symm, by rw [el]; omega, by rw [el]⟩, k3, rg_wl h6, h7, rfl, rfl, rfl⟩
          · refine And.intro (fun _ => ?_) (fun z => absurd rfl z)
            have e2 := psA_f (os := os) (T := T) g4 e1
            exact ⟨1000, by omega, q, nw, as, wlL M_isWall os, ww, 0, _, w, sp, ln, _, by rw [if_pos rfl], hq, h2, h3, Or.inl ⟨rfl, g, a, ea.trans e2, rfl⟩, h5, h6, h7, rfl, rfl, rfl⟩
        · have w1 : ¬ hr b n p = 59 := fun z => w1 ((hd_eq (k := 59) hb (by omega)).mpr z)
          rw [if_neg w1] at ea
          refine And.intro (fun _ => ?_) (fun z => absurd rfl z)
          exact ⟨1000, by omega, p, nw, as, wlL M_isWall os, ww, 0, _, w, sp, nI os.length, _, by rw [if_pos rfl], h1, h2, h3, Or.inl ⟨rfl, 1, p, ea, rfl⟩, h5, h6, h7, rfl, rfl, rfl⟩
  · rintro μ L st h ⟨p, k, nw, as, wl, ww, G, f, w, sp, ln, hμ, h1, h2, h3, h4, h5, h6, ⟨g, a, h8, rfl⟩, h9, h10, rfl, rfl, rfl⟩
    refine And.intro (fun q1 => ?_) (fun q1 => ?_)
    · have q1 := (nI_leI (a := 384) (by omega) (by omega)).mp q1
      have y1 : poY b n c T = ftV g a := by unfold poY; rw [h8]
      have y2 : poT b n c T = T := by unfold poT; rw [h8]
      have y3 : poW b n c T M_isWall = M_isWall := by unfold poW; rw [h8]
      exact ⟨nw, as, wl, ww, _, _, _, _, _, by rw [y1], by rw [y2]; exact fun i hi => (h3 i (by omega)).trans (hT i hi), fun i hi => by rw [y3]; exact h6 i (by omega), seg_congr h3 hN, h4, h9, h10, nr (m := 240) (by omega) (by omega), rfl⟩
    · have q1 : k < 384 := Nat.lt_of_not_le fun z => q1 ((nI_leI (a := 384) (by omega) (by omega)).mpr z)
      refine And.intro (vp_in_nI q1 (by omega)) (And.intro (vp_in_nI q1 (by omega)) ?_)
      rw [nI_clamp (by omega)]
      refine ⟨384 - (k + 1), by omega, p, k + 1, nw, as, _, ww, G, _, w, sp, ln, rfl, by omega, h2, h3, h4, h5, fun i hi => ?_, ⟨g, a, h8, rfl⟩, rg_upd h9 (by rw [nar h10 q1]; exact (h10 k q1).1) (by rw [nar h10 q1]; exact (h10 k q1).2), h10, ?_, rfl, rfl⟩
      · by_cases e : i = k
        · subst e
          rw [upd_sI, nar h10 q1]
          exact h5 i q1
        · rw [upd_nI e]
          exact h6 i (by omega)
      · rw [← nI_1 k] <;> rfl

